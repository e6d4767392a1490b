import java.util.ArrayList;
import java.util.List;

/**
 * Each argument of each call: one below its least value, one above its greatest, far out, and the least and the
 * greatest themselves. A refused call answers the error that the document names first, and changes nothing:
 * neither the state nor the history, the slots or the pad.
 */
public final class ArgumentsTest extends Check {
  private static final int[] NO_OWNER = {LEAST, -1, 8, 9, 32, 40, GREATEST};
  private static final int[] NO_LOCK = {LEAST, -1, FREE, 4, 5, GREATEST};
  private static final int[] NO_PLACE = {LEAST, -1, 300, 301, GREATEST};
  private static final int[][] NO_RANGE = {
      {-1, 0}, {-1, 1}, {-1, 300}, {LEAST, 1}, {LEAST, GREATEST}, {LEAST, LEAST}, {300, 301}, {300, 300}, {GREATEST, 300},
      {GREATEST, LEAST}, {GREATEST, GREATEST}, {0, 0}, {0, -1}, {0, 301}, {0, LEAST}, {0, GREATEST}, {150, 150}, {150, 149},
      {299, 299}, {299, 298}, {299, 301}, {299, GREATEST}, {1, 0}};

  private static List<Sight.Maker> makers;
  private static List<List<String>> unchanged;

  /** Makes the states that every refused call is tried in, and remembers what is seen of them. */
  private static void in(Sight.Maker... states) {
    makers = List.of(states);
    unchanged = new ArrayList<>();
    for (Sight.Maker maker : makers) unchanged.add(Sight.through(maker, x -> 0));
  }

  private static void refused(int error, Sight.Call call) {
    for (int i = 0; i < makers.size(); i++) {
      due(error, call.on(makers.get(i).make()));
      same(unchanged.get(i).toString(), Sight.through(makers.get(i), call).toString());
    }
  }

  /** A row of two, more changes than the history holds, one slot, and a text. */
  private static MeanLocks busy() {
    MeanLocks x = new MeanLocks();
    x.request(0, WRITE, 0, 10, 0);
    x.request(1, READ, 20, 30, 0);
    x.request(1, MEAN, 22, 24, 0);
    x.save(0);
    x.request(0, MEAN, 20, 25, 1);
    x.ticks(3);
    x.request(2, WRITE, 5, 25, 1);
    x.set(PATIENCE, 9);
    x.ticks(2);
    type(x, "t1;x0;c2");
    return x;
  }

  /** As busy, but circles are broken, the row is not fair, both slots are saved, and the pad is full. */
  private static MeanLocks broken() {
    MeanLocks x = new MeanLocks();
    x.set(BREAK, 1);
    x.save(1);
    x.set(FAIR, 0);
    x.request(0, WRITE, 0, 2, 0);
    x.request(1, WRITE, 10, 13, 0);
    x.request(0, WRITE, 10, 13, 1);
    x.ticks(4);
    x.request(1, READ, 0, 2, 1);
    x.request(3, WRITE, 1, 12, 1);
    x.save(0);
    x.ticks(1);
    type(x, FULL_TEXT);
    return x;
  }

  private static MeanLocks halfACircleToBreak() {
    MeanLocks x = halfACircle();
    x.set(BREAK, 1);
    return x;
  }

  private static void inAll() {
    in(MeanLocks::new, ArgumentsTest::busy, ArgumentsTest::broken, Check::fullRow);
  }

  // ---- arguments that are out of range, in any state

  private static void noSuchOwner() {
    sentence("NO_SUCH if there is no such owner (before any other error)");
    for (int o : NO_OWNER) {
      refused(NO_SUCH, x -> x.request(o, READ, 0, 1, 0));
      refused(NO_SUCH, x -> x.request(o, READ, 100, 101, 1));
      refused(NO_SUCH, x -> x.request(o, 9, -1, -1, 9));
      refused(NO_SUCH, x -> x.free(o, 0, 300));
      refused(NO_SUCH, x -> x.free(o, 5, 5));
      refused(NO_SUCH, x -> x.cancel(o));
      refused(NO_SUCH, x -> x.leave(o));
      refused(NO_SUCH, x -> x.at(o, 0));
      refused(NO_SUCH, x -> x.at(o, 300));
      refused(NO_SUCH, x -> x.ofOwner(o, 0));
      refused(NO_SUCH, x -> x.ofOwner(o, 4));
      refused(NO_SUCH, x -> x.ofOwner(o, 13));
      refused(NO_SUCH, x -> x.stretch(o, 0, 0));
      refused(NO_SUCH, x -> x.stretch(o, -1, 9));
      refused(NO_SUCH, x -> x.waitsFor(o));
      refused(NO_SUCH, x -> x.couldGive(o, READ, 0, 1));
      refused(NO_SUCH, x -> x.couldGive(o, FREE, 1, 1));
      refused(NO_SUCH, x -> x.inTheWay(o, READ, 0, 1));
      refused(NO_SUCH, x -> x.inTheWay(o, FREE, 1, 1));
      refused(NO_SUCH, x -> x.ring(o, READ, 0, 1));
      refused(NO_SUCH, x -> x.ring(o, FREE, 1, 1));
      refused(NO_SUCH, x -> x.firstFor(o, READ, 1, 0));
      refused(NO_SUCH, x -> x.firstFor(o, FREE, 0, -1));
      refused(NO_SUCH, x -> x.longestFor(o, READ, 0));
      refused(NO_SUCH, x -> x.longestFor(o, FREE, 2));
      refused(NO_SUCH, x -> x.givenIf(o));
    }
  }

  private static void kindIsOutOfRange() {
    sentence("BAD_VALUE if kind is not READ to WRITE");
    for (int kind : NO_LOCK) {
      refused(BAD_VALUE, x -> x.request(0, kind, 0, 1, 0));
      refused(BAD_VALUE, x -> x.request(7, kind, 299, 300, 1));
      refused(BAD_VALUE, x -> x.couldGive(0, kind, 0, 1));
      refused(BAD_VALUE, x -> x.inTheWay(0, kind, 0, 1));
      refused(BAD_VALUE, x -> x.ring(0, kind, 0, 1));
      refused(BAD_VALUE, x -> x.firstFor(0, kind, 1, 0));
      refused(BAD_VALUE, x -> x.firstFor(7, kind, 300, 299));
      refused(BAD_VALUE, x -> x.longestFor(0, kind, 0));
      if (kind != FREE) refused(BAD_VALUE, x -> x.owners(0, kind));
    }
  }

  private static void noRangeIsTold() {
    sentence("BAD_VALUE if no range is told");
    for (int[] r : NO_RANGE) {
      refused(BAD_VALUE, x -> x.request(0, READ, r[0], r[1], 0));
      refused(BAD_VALUE, x -> x.request(7, WRITE, r[0], r[1], 1));
      refused(BAD_VALUE, x -> x.free(0, r[0], r[1]));
      refused(BAD_VALUE, x -> x.couldGive(0, READ, r[0], r[1]));
      refused(BAD_VALUE, x -> x.inTheWay(0, READ, r[0], r[1]));
      refused(BAD_VALUE, x -> x.ring(0, READ, r[0], r[1]));
    }
  }

  private static void waitIsOneOrZero() {
    sentence("wait: 1 or 0");
    for (int wait : new int[] {LEAST, -1, 2, GREATEST}) {
      refused(BAD_VALUE, x -> x.request(0, READ, 100, 101, wait));
      refused(BAD_VALUE, x -> x.request(7, WRITE, 0, 300, wait));
    }
  }

  private static void noSuchPlace() {
    sentence("NO_SUCH if there is no such place");
    for (int place : NO_PLACE) {
      refused(NO_SUCH, x -> x.at(0, place));
      refused(NO_SUCH, x -> x.owners(place, FREE));
      refused(NO_SUCH, x -> x.owners(place, 4));
      refused(BAD_VALUE, x -> x.firstFor(0, READ, 1, place));
    }
    for (int place : new int[] {LEAST, -1, 8, 9, GREATEST}) refused(NO_SUCH, x -> x.inRow(place));
  }

  private static void noSuchSetting() {
    sentence("BAD_VALUE if there is no such setting, or the value is out of its range");
    for (int setting : new int[] {LEAST, -1, 3, 4, GREATEST}) {
      refused(BAD_VALUE, x -> x.set(setting, 0));
      refused(BAD_VALUE, x -> x.set(setting, 1));
      refused(BAD_VALUE, x -> x.set(setting, LEAST));
    }
    for (int value : new int[] {LEAST, -1, 2, 200, GREATEST}) {
      refused(BAD_VALUE, x -> x.set(FAIR, value));
      refused(BAD_VALUE, x -> x.set(BREAK, value));
    }
    for (int value : new int[] {LEAST, -1, 201, GREATEST}) refused(BAD_VALUE, x -> x.set(PATIENCE, value));
  }

  private static void whatIsOutOfRange() {
    sentence("BAD_VALUE if what is out of range");
    for (int what : new int[] {LEAST, -1, 13, 14, GREATEST}) refused(BAD_VALUE, x -> x.ofOwner(0, what));
    for (int what : new int[] {LEAST, -1, 11, 12, GREATEST}) refused(BAD_VALUE, x -> x.count(what));
    for (int what : new int[] {LEAST, -1, 2, 3, GREATEST}) {
      refused(BAD_VALUE, x -> x.longestFor(0, READ, what));
      refused(BAD_VALUE, x -> x.greatestBar(what));
    }
  }

  private static void ticksOutOfRange() {
    sentence("BAD_VALUE if ticks is out of range");
    for (int ticks : new int[] {LEAST, -1, 0, 301, GREATEST}) refused(BAD_VALUE, x -> x.ticks(ticks));
  }

  private static void lengthOutOfRange() {
    sentence("length: 1 to 300");
    for (int length : new int[] {LEAST, -1, 0, 301, GREATEST}) refused(BAD_VALUE, x -> x.firstFor(0, READ, length, 0));
  }

  private static void noSuchSlot() {
    sentence("BAD_VALUE if there is no such slot");
    for (int slot : new int[] {LEAST, -1, 2, 3, GREATEST}) {
      refused(BAD_VALUE, x -> x.save(slot));
      refused(BAD_VALUE, x -> x.restore(slot));
    }
  }

  private static void noCharacters() {
    sentence("BAD_VALUE if there is no character, a code is not 33 to 126, or a bit above 8 bits that are 0 is not 0 (before TOO_MANY)");
    long[] bad = {0, 1, 32, 127, 128, 255, -1, Long.MIN_VALUE, Long.MAX_VALUE, 256L * 'a', 65536L * 'a' + 'a', pack("abcdefg") << 8,
        pack("aaaaaaa ") , pack(" aaaaaaa"), pack("aaa\u007f"), 1L << 63 | 'a', LEAST, GREATEST};
    for (long characters : bad) refused(BAD_VALUE, x -> x.put(characters));
  }

  // ---- calls that a state refuses

  private static void fairWhileARequestWaits() {
    sentence("NOT_POSSIBLE if it is FAIR, and a request waits");
    in(ArgumentsTest::busy, ArgumentsTest::broken, Check::fullRow, Check::halfACircle);
    for (int value = 0; value <= 1; value++) {
      int v = value;
      refused(NOT_POSSIBLE, x -> x.set(FAIR, v));
    }
    refused(BAD_VALUE, x -> x.set(FAIR, 2));
  }

  private static void aSecondRequest() {
    sentence("NOT_POSSIBLE if a request of this owner waits");
    in(ArgumentsTest::busy, ArgumentsTest::broken, Check::fullRow, Check::halfACircle);
    for (int wait = 0; wait <= 1; wait++) {
      int w = wait;
      refused(NOT_POSSIBLE, x -> x.request(0, READ, 100, 101, w));
      refused(NOT_POSSIBLE, x -> x.request(0, WRITE, 0, 300, w));
      refused(NOT_POSSIBLE, x -> x.request(0, READ, 21, 22, w));
      refused(BAD_VALUE, x -> x.request(0, FREE, 21, 22, w));
      refused(BAD_VALUE, x -> x.request(0, READ, 22, 22, w));
    }
    refused(BAD_VALUE, x -> x.request(0, READ, 21, 22, 2));
    in(Check::fullRow);
    for (int owner = 0; owner < 8; owner++) {
      int o = owner;
      refused(NOT_POSSIBLE, x -> x.request(o, READ, 0, 1, 1));
    }
  }

  private static void itCannotBeGivenAndIsNotToWait() {
    sentence("it cannot be given, and wait is 0");
    in(ArgumentsTest::busy);
    refused(NOT_POSSIBLE, x -> x.request(3, READ, 9, 10, 0));
    refused(NOT_POSSIBLE, x -> x.request(3, READ, 0, 300, 0));
    refused(NOT_POSSIBLE, x -> x.request(3, READ, 10, 11, 0));
    refused(NOT_POSSIBLE, x -> x.request(3, MEAN, 23, 26, 0));
    in(ArgumentsTest::broken);
    refused(NOT_POSSIBLE, x -> x.request(7, READ, 10, 11, 0));
    refused(NOT_POSSIBLE, x -> x.request(7, WRITE, 0, 300, 0));
    in(ArgumentsTest::halfACircleToBreak);
    refused(NOT_POSSIBLE, x -> x.request(1, READ, 0, 1, 0));
    refused(NOT_POSSIBLE, x -> x.request(1, WRITE, 0, 300, 0));
  }

  private static void itsOwnerWouldBeInACircle() {
    sentence("or its owner would be in a circle, and BREAK is 0");
    in(Check::halfACircle);
    refused(NOT_POSSIBLE, x -> x.request(1, READ, 0, 1, 1));
    refused(NOT_POSSIBLE, x -> x.request(1, WRITE, 1, 300, 1));
    in(ArgumentsTest::busy);
    refused(NOT_POSSIBLE, x -> x.request(1, READ, 19, 20, 1));
    refused(NOT_POSSIBLE, x -> x.request(1, WRITE, 0, 300, 1));
  }

  private static void noneWaits() {
    sentence("cancel: NOT_POSSIBLE if none waits");
    in(MeanLocks::new);
    for (int owner = 0; owner < 8; owner++) {
      int o = owner;
      refused(NOT_POSSIBLE, x -> x.cancel(o));
    }
    in(ArgumentsTest::busy);
    for (int owner : new int[] {1, 3, 7}) refused(NOT_POSSIBLE, x -> x.cancel(owner));
  }

  private static void noSuchStretch() {
    sentence("NO_SUCH if there is no such owner or stretch (before BAD_VALUE)");
    inAll();
    for (int stretch : new int[] {LEAST, -1, 300, GREATEST}) {
      refused(NO_SUCH, x -> x.stretch(0, stretch, 0));
      refused(NO_SUCH, x -> x.stretch(1, stretch, 3));
    }
    in(MeanLocks::new);
    for (int what : new int[] {0, 2, 3, -1}) refused(NO_SUCH, x -> x.stretch(0, 0, what));
    in(ArgumentsTest::busy);
    for (int what : new int[] {0, 2, 3, -1}) {
      refused(NO_SUCH, x -> x.stretch(0, 1, what));
      refused(NO_SUCH, x -> x.stretch(1, 3, what));
    }
    for (int what : new int[] {LEAST, -1, 3, GREATEST}) {
      refused(BAD_VALUE, x -> x.stretch(0, 0, what));
      refused(BAD_VALUE, x -> x.stretch(1, 2, what));
    }
  }

  private static void noSuchPlaceInTheRow() {
    sentence("NO_SUCH if there is no such place in the row");
    in(MeanLocks::new);
    refused(NO_SUCH, x -> x.inRow(0));
    in(ArgumentsTest::busy);
    refused(NO_SUCH, x -> x.inRow(2));
    in(Check::halfACircle);
    refused(NO_SUCH, x -> x.inRow(1));
  }

  private static void thePadWouldBeTooLong() {
    sentence("TOO_MANY if the pad would be longer than 80");
    in(ArgumentsTest::broken);
    refused(TOO_MANY, x -> x.put('a'));
    refused(TOO_MANY, x -> x.put(pack("~~~~~~~~")));
    refused(BAD_VALUE, x -> x.put(0));
    refused(BAD_VALUE, x -> x.put(' '));
  }

  private static void thePadHasAFault() {
    sentence("BAD_TEXT if the pad has a fault");
    in(MeanLocks::new, Check::fullRow, Check::halfACircle);
    refused(BAD_TEXT, MeanLocks::carryOut);
  }

  private static void anEmptyHistory() {
    sentence("undo: NOT_POSSIBLE if there is none");
    in(MeanLocks::new);
    refused(NOT_POSSIBLE, MeanLocks::undo);
  }

  private static void anEmptySlot() {
    sentence("restore: NOT_POSSIBLE if nothing was saved in it");
    in(MeanLocks::new, Check::halfACircle);
    refused(NOT_POSSIBLE, x -> x.restore(0));
    refused(NOT_POSSIBLE, x -> x.restore(1));
    in(ArgumentsTest::busy);
    refused(NOT_POSSIBLE, x -> x.restore(1));
  }

  // ---- questions change nothing either

  private static void unchangedBy(Sight.Call call) {
    for (int i = 0; i < makers.size(); i++) same(unchanged.get(i).toString(), Sight.through(makers.get(i), call).toString());
  }

  private static void whatIfChangesNothing() {
    sentence("what if (as if no request of this owner waited); nothing changes");
    for (int owner = 0; owner < 8; owner++) {
      int o = owner;
      for (int kind = READ; kind <= WRITE; kind++) {
        int k = kind;
        unchangedBy(x -> x.couldGive(o, k, 0, 300));
        unchangedBy(x -> x.inTheWay(o, k, 0, 300));
        unchangedBy(x -> x.ring(o, k, 0, 300));
        unchangedBy(x -> x.ring(o, k, 20, 23));
        unchangedBy(x -> x.firstFor(o, k, 3, 0));
        unchangedBy(x -> x.longestFor(o, k, 1));
      }
      unchangedBy(x -> x.givenIf(o));
    }
    unchangedBy(x -> x.greatestBar(0) + x.greatestBar(1));
    unchangedBy(x -> x.at(0, 0) + x.owners(0, FREE) + x.waitsFor(0) + x.fault());
  }

  // ---- the least and the greatest values themselves

  private static void theLeastAndTheGreatestValues() {
    sentence("the least and the greatest value of each argument");
    MeanLocks x = new MeanLocks();
    due(1, x.set(FAIR, 0));
    due(0, x.set(FAIR, 1));
    due(0, x.set(BREAK, 1));
    due(0, x.set(PATIENCE, 200));
    due(200, x.set(PATIENCE, 0));
    due(1, x.request(0, READ, 0, 1, 0));
    due(1, x.request(7, WRITE, 299, 300, 1));
    due(1, x.couldGive(0, READ, 0, 299));
    due(1, x.couldGive(7, WRITE, 299, 300));
    due(0, x.inTheWay(0, READ, 0, 1));
    due(128, x.inTheWay(0, WRITE, 299, 300));
    due(0, x.ring(0, READ, 0, 1));
    due(0, x.ring(7, WRITE, 299, 300));
    due(0, x.firstFor(0, READ, 1, 0));
    due(299, x.firstFor(7, WRITE, 1, 299));
    due(NONE, x.firstFor(0, READ, 300, 0));
    due(0, x.longestFor(0, READ, 0));
    due(299, x.longestFor(7, WRITE, 1));
    due(0, x.givenIf(0));
    due(0, x.givenIf(7));
    due(READ, x.at(0, 0));
    due(WRITE, x.at(7, 299));
    due(254, x.owners(0, FREE));
    due(128, x.owners(299, WRITE));
    due(1, x.ofOwner(0, 0));
    due(0, x.ofOwner(7, 12));
    due(READ, x.stretch(0, 0, 0));
    due(1, x.stretch(7, 0, 2));
    due(0, x.waitsFor(0));
    due(0, x.waitsFor(7));
    due(0, x.count(0));
    due(6, x.count(10));
    due(1, x.free(7, 299, 300));
    due(1, x.free(0, 0, 1));
    due(0, x.leave(0));
    due(0, x.leave(7));
    due(0, x.ticks(1));
    due(0, x.ticks(300));
    due(301, x.save(0));
    due(301, x.save(1));
    due(301, x.restore(0));
    due(301, x.restore(1));
  }

  public static void main(String[] args) {
    inAll();
    noSuchOwner();
    kindIsOutOfRange();
    noRangeIsTold();
    waitIsOneOrZero();
    noSuchPlace();
    noSuchSetting();
    whatIsOutOfRange();
    ticksOutOfRange();
    lengthOutOfRange();
    noSuchSlot();
    noCharacters();
    whatIfChangesNothing();
    fairWhileARequestWaits();
    aSecondRequest();
    itCannotBeGivenAndIsNotToWait();
    itsOwnerWouldBeInACircle();
    noneWaits();
    noSuchStretch();
    noSuchPlaceInTheRow();
    thePadWouldBeTooLong();
    thePadHasAFault();
    anEmptyHistory();
    anEmptySlot();
    theLeastAndTheGreatestValues();
    end("the arguments are tested, and what is refused changes nothing");
  }
}
