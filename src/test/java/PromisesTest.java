/** Each promise of the document with ordinary arguments, at its edges, and with wrong ones. */
public final class PromisesTest extends Check {
  private static void newObject() {
    promise(1);
    for (int owner = 0; owner < 8; owner++) {
      MeanLocks x = new MeanLocks();
      for (int what = 0; what <= 12; what++) due(what >= 4 && what <= 8 ? NONE : 0, x.ofOwner(owner, what));
      for (int place = 0; place < 300; place++) due(FREE, x.at(owner, place));
      due(0, x.waitsFor(owner));
    }
    MeanLocks x = new MeanLocks();
    for (int what = 0; what <= 10; what++) due(what == 3 ? 1 : 0, x.count(what));
    due(255, x.owners(0, FREE));
    due(NO_SUCH, x.inRow(0));
    due(0, x.fault());
    due(NOT_POSSIBLE, x.undo());
    due(NOT_POSSIBLE, x.restore(0));
    due(NOT_POSSIBLE, x.restore(1));
  }

  private static void set() {
    promise(2);
    MeanLocks x = new MeanLocks();
    due(1, x.set(FAIR, 0));
    due(0, x.set(FAIR, 1));
    due(0, x.set(BREAK, 1));
    due(1, x.set(BREAK, 0));
    due(0, x.set(PATIENCE, 200));
    due(200, x.set(PATIENCE, 0));
    due(BAD_VALUE, x.set(PATIENCE, 201));
    due(BAD_VALUE, x.set(PATIENCE, -1));
    due(BAD_VALUE, x.set(FAIR, 2));
    due(BAD_VALUE, x.set(FAIR, -1));
    due(BAD_VALUE, x.set(BREAK, 2));
    due(BAD_VALUE, x.set(BREAK, -1));
    due(BAD_VALUE, x.set(3, 0));
    due(BAD_VALUE, x.set(-1, 0));
    due(BAD_VALUE, x.set(LEAST, GREATEST));
    due(6, x.count(10));
    x.request(0, WRITE, 0, 1, 0);
    x.request(1, WRITE, 0, 1, 1);
    due(NOT_POSSIBLE, x.set(FAIR, 1));
    due(NOT_POSSIBLE, x.set(FAIR, 0));
    due(BAD_VALUE, x.set(FAIR, 2));
    due(0, x.set(BREAK, 1));
    due(0, x.set(PATIENCE, 7));
    due(1, x.count(4));
    due(7, x.count(5));
    due(1, x.count(3));
  }

  private static void requestErrors() {
    promise(3);
    MeanLocks x = new MeanLocks();
    due(NO_SUCH, x.request(-1, READ, 0, 1, 0));
    due(NO_SUCH, x.request(8, 0, -1, 0, 9));
    due(BAD_VALUE, x.request(0, FREE, 0, 1, 0));
    due(BAD_VALUE, x.request(0, 4, 0, 1, 0));
    due(BAD_VALUE, x.request(0, READ, -1, 1, 0));
    due(BAD_VALUE, x.request(0, READ, 300, 301, 0));
    due(BAD_VALUE, x.request(0, READ, 299, 301, 0));
    due(BAD_VALUE, x.request(0, READ, 7, 7, 0));
    due(BAD_VALUE, x.request(0, READ, 7, 6, 0));
    due(BAD_VALUE, x.request(0, READ, GREATEST, LEAST, 0));
    due(BAD_VALUE, x.request(0, READ, 0, 1, 2));
    due(BAD_VALUE, x.request(0, READ, 0, 1, -1));
    due(0, x.count(10));
    due(1, x.request(0, READ, 0, 1, 0));
    due(1, x.request(7, WRITE, 299, 300, 1));
    due(1, x.request(6, READ, 1, 299, 1));
    due(0, x.request(1, WRITE, 0, 300, 1));
    due(BAD_VALUE, x.request(1, READ, 5, 5, 1));
    due(NOT_POSSIBLE, x.request(1, READ, 5, 6, 1));
    due(NOT_POSSIBLE, x.request(1, READ, 5, 6, 0));
    due(NOT_POSSIBLE, x.request(2, READ, 0, 1, 0));
    due(4, x.count(10));
    due(1, x.count(1));
  }

  private static void kindsThatGoTogether() {
    promise(3);
    int[][] together = {{1, 1, 0}, {1, 0, 0}, {0, 0, 0}};
    for (int first = READ; first <= WRITE; first++) {
      for (int second = READ; second <= WRITE; second++) {
        MeanLocks x = new MeanLocks();
        due(1, x.request(3, first, 20, 30, 0));
        int want = together[first - 1][second - 1] == 1 ? 1 : NOT_POSSIBLE;
        due(want, x.request(4, second, 29, 40, 0));
        due(1, x.request(4, second, 30, 40, 0));
        due(want, x.request(5, second, 10, 21, 0));
        due(1, x.request(5, second, 10, 20, 0));
      }
    }
  }

  private static void requestsChangeKinds() {
    promise(3);
    MeanLocks x = new MeanLocks();
    x.request(0, WRITE, 0, 10, 0);
    due(0, x.request(1, READ, 5, 6, 1));
    due(1, x.request(0, READ, 2, 8, 0));
    due(READ, x.at(1, 5));
    due(0, x.count(1));
    due(READ, x.at(0, 2));
    due(WRITE, x.at(0, 1));
    due(READ, x.at(0, 7));
    due(WRITE, x.at(0, 8));
    due(NOT_POSSIBLE, x.request(0, WRITE, 2, 8, 0));
    due(1, x.request(0, MEAN, 2, 8, 0));
    due(1, x.request(0, WRITE, 6, 8, 0));
    due(1, x.request(0, MEAN, 4, 6, 0));
  }

  private static void fairness() {
    promise(3);
    MeanLocks x = new MeanLocks();
    x.request(0, READ, 0, 10, 0);
    x.request(1, READ, 0, 3, 0);
    due(0, x.request(2, WRITE, 0, 10, 1));
    due(NOT_POSSIBLE, x.request(3, READ, 9, 11, 0));
    due(1, x.request(3, READ, 10, 11, 0));
    due(1, x.request(1, READ, 0, 3, 0));
    due(NOT_POSSIBLE, x.request(1, READ, 0, 4, 0));
    due(0, x.request(4, READ, 5, 6, 1));
    due(4, x.waitsFor(4));
    due(10, x.free(0, 0, 10));
    due(3, x.free(1, 0, 3));
    due(WRITE, x.at(2, 5));
    due(4, x.inRow(0));
    MeanLocks y = new MeanLocks();
    y.set(FAIR, 0);
    y.request(0, READ, 0, 10, 0);
    due(0, y.request(2, WRITE, 0, 10, 1));
    due(1, y.request(3, READ, 9, 11, 1));
    due(9, y.waitsFor(2));
  }

  private static void requestsThatGoTogetherDoNotWait() {
    promise(3);
    MeanLocks x = new MeanLocks();
    x.request(0, WRITE, 0, 1, 0);
    due(0, x.request(1, READ, 0, 5, 1));
    due(1, x.request(2, READ, 1, 5, 0));
    due(1, x.request(3, MEAN, 1, 3, 0));
    due(NOT_POSSIBLE, x.request(4, WRITE, 3, 5, 0));
    due(1, x.request(4, WRITE, 5, 6, 0));
  }

  private static void circlesRefused() {
    promise(3);
    MeanLocks x = halfACircle();
    int undoable = x.count(10);
    due(NOT_POSSIBLE, x.request(1, READ, 1, 2, 1));
    due(undoable, x.count(10));
    due(1, x.count(1));
    due(0, x.inRow(0));
    due(0, x.ofOwner(1, 10));
    due(NONE, x.ofOwner(1, 4));
    due(0, x.request(2, WRITE, 12, 14, 1));
    due(3, x.waitsFor(2));
    due(NOT_POSSIBLE, x.request(1, WRITE, 0, 1, 1));
    due(1, x.request(1, WRITE, 2, 10, 1));
  }

  private static void circlesBroken() {
    promise(3);
    MeanLocks x = halfACircle();
    x.set(BREAK, 1);
    // Owner 0 would give up 2 places, owner 1 would give up 3: so owner 0 does, and owner 1 gets its lock.
    due(1, x.request(1, READ, 0, 2, 1));
    due(READ, x.at(1, 0));
    due(FREE, x.at(0, 0));
    due(2, x.ofOwner(0, 11));
    due(0, x.ofOwner(1, 11));
    due(1, x.ofOwner(1, 10));
    due(0, x.ofOwner(1, 12));
    due(2, x.ofOwner(1, 9));
    due(1, x.count(8));
    due(0, x.inRow(0));
    due(2, x.waitsFor(0));
    MeanLocks y = halfACircle();
    y.set(BREAK, 1);
    y.free(1, 12, 13);
    // Now 2 places each: the owner with the higher number gives up.
    due(0, y.request(1, WRITE, 0, 2, 1));
    due(2, y.ofOwner(1, 11));
    due(WRITE, y.at(0, 12));
    due(WRITE, y.at(0, 0));
    due(1, y.inRow(0));
    due(1, y.waitsFor(1));
  }

  private static void onlyPlacesInDisputeAreGivenUp() {
    promise(3);
    MeanLocks x = new MeanLocks();
    x.set(BREAK, 1);
    x.request(0, READ, 0, 20, 0);
    x.request(1, READ, 5, 40, 0);
    due(0, x.request(0, WRITE, 10, 15, 1));
    // Each would give up 10 to 14, and owner 0 also 5 to 9, where it stands in the way of owner 1.
    due(0, x.request(1, WRITE, 5, 15, 1));
    due(5, x.ofOwner(1, 11));
    due(READ, x.at(1, 9));
    due(FREE, x.at(1, 10));
    due(READ, x.at(1, 15));
    due(WRITE, x.at(0, 14));
    due(READ, x.at(0, 15));
    due(2, x.ofOwner(0, 9));
  }

  private static void aPlaceThatDoesNotStopIsNotGivenUp() {
    promise(3);
    MeanLocks x = new MeanLocks();
    x.set(BREAK, 1);
    // Owner 1 may keep its READ where owner 0 has MEAN and asks for MEAN, as READ goes together with it.
    x.request(0, MEAN, 0, 4, 0);
    x.request(1, READ, 0, 4, 0);
    x.request(1, WRITE, 10, 12, 0);
    due(0, x.request(0, MEAN, 0, 11, 1));
    // Owner 0 would give up 4 places, owner 1 one only.
    due(0, x.request(1, WRITE, 0, 4, 1));
    due(1, x.ofOwner(1, 11));
    due(READ, x.at(1, 0));
    due(FREE, x.at(1, 10));
    due(WRITE, x.at(1, 11));
    due(MEAN, x.at(0, 10));
  }

  private static void circlesBrokenAgainAndAgain() {
    promise(3);
    MeanLocks x = new MeanLocks();
    x.set(BREAK, 1);
    // Owners 0 and 1 wait for owner 2, who then waits for both: first owner 0 gives 1 place up, then owner 1 its 2.
    x.request(0, WRITE, 0, 1, 0);
    x.request(1, WRITE, 1, 3, 0);
    x.request(2, WRITE, 10, 20, 0);
    x.request(0, READ, 10, 12, 1);
    x.request(1, READ, 14, 17, 1);
    due(1, x.request(2, WRITE, 0, 3, 1));
    due(2, x.count(8));
    due(1, x.ofOwner(0, 11));
    due(2, x.ofOwner(1, 11));
    due(0, x.ofOwner(2, 11));
    due(WRITE, x.at(2, 0));
    due(2, x.count(1));
    x.undo();
    x.cancel(1);
    x.request(1, READ, 14, 16, 1);
    // Now the second circle costs owner 2 but 2 places: those that owner 0 waits for are no part of it any more.
    due(0, x.request(2, WRITE, 0, 3, 1));
    due(2, x.count(8));
    due(1, x.ofOwner(0, 11));
    due(0, x.ofOwner(1, 11));
    due(2, x.ofOwner(2, 11));
    due(READ, x.at(1, 14));
    due(WRITE, x.at(2, 10));
    due(2, x.waitsFor(2));
  }

  private static void theRowIsGoneThroughAfterEachBreak() {
    promise(3);
    MeanLocks x = new MeanLocks();
    x.set(BREAK, 1);
    x.set(FAIR, 0);
    // Owner 2 stands in the way of owner 0 at one place and of owner 1 at three; each of these has five that it wants.
    x.request(0, WRITE, 0, 5, 0);
    x.request(1, WRITE, 5, 10, 0);
    x.request(2, WRITE, 20, 21, 0);
    due(0, x.request(0, WRITE, 20, 21, 1));
    due(0, x.request(1, WRITE, 20, 21, 1));
    due(0, x.request(2, WRITE, 0, 10, 1));
    due(1, x.count(8));
    due(1, x.ofOwner(2, 11));
    // Given to the first of the row, in going through it after the break.
    due(WRITE, x.at(0, 20));
    due(3, x.waitsFor(2));
    due(1, x.waitsFor(1));
    due(1, x.inRow(0));
    due(2, x.inRow(1));
  }

  private static void aCircleByTheRowAlone() {
    promise(3);
    MeanLocks x = new MeanLocks();
    x.request(1, WRITE, 10, 12, 0);
    x.request(7, WRITE, 10, 20, 1);
    // Owner 1 waits for owner 7 only as that one's request is ahead: owner 7 has nothing to give up.
    due(NOT_POSSIBLE, x.request(1, READ, 15, 16, 1));
    x.set(BREAK, 1);
    due(0, x.request(1, READ, 15, 16, 1));
    due(2, x.ofOwner(1, 11));
    due(0, x.ofOwner(7, 11));
    due(WRITE, x.at(7, 15));
    due(1, x.inRow(0));
  }

  private static void allPlacesGivenUp() {
    promise(3);
    MeanLocks x = new MeanLocks();
    x.set(BREAK, 1);
    x.request(0, READ, 0, 300, 0);
    x.request(1, READ, 0, 300, 0);
    x.request(0, WRITE, 0, 300, 1);
    due(0, x.request(1, WRITE, 0, 300, 1));
    due(300, x.ofOwner(1, 11));
    due(300, x.ofOwner(0, 2));
  }

  private static void theFirstOfTheRowIsGivenFirst() {
    promise(3);
    MeanLocks x = new MeanLocks();
    x.request(0, WRITE, 0, 10, 0);
    x.request(2, WRITE, 12, 13, 0);
    due(0, x.request(1, READ, 0, 3, 1));
    due(0, x.request(0, READ, 0, 15, 1));
    due(0, x.request(3, WRITE, 12, 14, 1));
    // Owner 0 gets READ, and is weaker by that: so owner 1, who stands ahead of it, gets its lock after it.
    due(1, x.free(2, 12, 13));
    due(READ, x.at(0, 0));
    due(READ, x.at(1, 2));
    due(1, x.count(1));
    due(3, x.inRow(0));
  }

  private static void free() {
    promise(4);
    MeanLocks x = new MeanLocks();
    x.request(0, WRITE, 10, 20, 0);
    due(NO_SUCH, x.free(8, 0, 1));
    due(NO_SUCH, x.free(-1, 5, 5));
    due(BAD_VALUE, x.free(0, -1, 1));
    due(BAD_VALUE, x.free(0, 300, 301));
    due(BAD_VALUE, x.free(0, 0, 301));
    due(BAD_VALUE, x.free(0, 5, 5));
    due(BAD_VALUE, x.free(0, GREATEST, GREATEST));
    due(1, x.count(10));
    due(0, x.free(0, 0, 10));
    due(0, x.free(1, 0, 300));
    due(2, x.free(0, 5, 12));
    due(FREE, x.at(0, 11));
    due(WRITE, x.at(0, 12));
    due(0, x.request(1, READ, 14, 16, 1));
    due(1, x.free(0, 14, 15));
    due(FREE, x.at(1, 14));
    due(1, x.free(0, 15, 16));
    due(READ, x.at(1, 15));
    due(0, x.request(1, READ, 12, 14, 1));
    due(2, x.free(1, 0, 300));
    due(1, x.inRow(0));
    due(6, x.free(0, 0, 300));
    due(0, x.count(1));
  }

  private static void cancel() {
    promise(5);
    MeanLocks x = new MeanLocks();
    due(NO_SUCH, x.cancel(8));
    due(NO_SUCH, x.cancel(-1));
    due(NOT_POSSIBLE, x.cancel(0));
    due(0, x.count(10));
    x.request(0, READ, 0, 10, 0);
    x.request(1, WRITE, 0, 10, 1);
    x.ticks(3);
    x.request(2, READ, 0, 10, 1);
    x.request(3, MEAN, 0, 10, 1);
    due(0, x.cancel(3));
    x.ticks(1);
    due(4, x.cancel(1));
    due(READ, x.at(2, 0));
    due(0, x.count(1));
    due(1, x.ofOwner(2, 12));
    due(NOT_POSSIBLE, x.cancel(1));
    due(1, x.request(1, READ, 0, 10, 0));
  }

  private static void leave() {
    promise(6);
    MeanLocks x = new MeanLocks();
    due(NO_SUCH, x.leave(8));
    due(NO_SUCH, x.leave(LEAST));
    due(0, x.leave(7));
    due(1, x.count(10));
    x.request(0, WRITE, 0, 5, 0);
    x.request(0, READ, 290, 300, 0);
    x.request(1, WRITE, 20, 30, 0);
    x.request(0, WRITE, 20, 30, 1);
    x.request(2, WRITE, 3, 4, 1);
    x.request(3, WRITE, 30, 31, 0);
    x.request(4, WRITE, 29, 31, 1);
    due(15, x.leave(0));
    due(0, x.ofOwner(0, 3));
    due(NONE, x.ofOwner(0, 4));
    due(WRITE, x.at(2, 3));
    due(4, x.inRow(0));
    due(1, x.count(1));
    due(1, x.request(0, READ, 0, 3, 0));
    due(3, x.leave(0));
    due(0, x.leave(0));
  }

  private static void ticks() {
    promise(7);
    MeanLocks x = new MeanLocks();
    due(BAD_VALUE, x.ticks(0));
    due(BAD_VALUE, x.ticks(301));
    due(BAD_VALUE, x.ticks(-1));
    due(0, x.ticks(300));
    due(0, x.ticks(1));
    due(301, x.count(0));
    x.request(0, WRITE, 0, 10, 0);
    x.request(1, WRITE, 0, 10, 1);
    due(0, x.ticks(300));
    due(300, x.ofOwner(1, 8));
    x.request(2, READ, 20, 30, 0);
    x.request(3, WRITE, 20, 30, 1);
    x.request(4, READ, 20, 30, 1);
    due(0, x.ticks(1));
    x.set(PATIENCE, 2);
    // Owners 1, 3 and 4 have waited 2 ticks or more in this one; all three go away, so owner 4 is given nothing.
    due(3, x.ticks(1));
    due(3, x.count(7));
    due(FREE, x.at(4, 20));
    due(0, x.count(1));
    x.request(3, WRITE, 20, 30, 1);
    x.ticks(1);
    x.request(4, READ, 20, 30, 1);
    // The first one goes away, and so the second one is given at once.
    due(1, x.ticks(5));
    due(READ, x.at(4, 20));
    due(1, x.ofOwner(4, 12));
    due(4, x.count(7));
    due(609, x.count(0));
  }

  private static void at() {
    promise(8);
    MeanLocks x = new MeanLocks();
    x.request(7, MEAN, 299, 300, 0);
    x.request(0, READ, 0, 2, 0);
    due(MEAN, x.at(7, 299));
    due(FREE, x.at(7, 298));
    due(READ, x.at(0, 1));
    due(FREE, x.at(0, 2));
    due(NO_SUCH, x.at(-1, 0));
    due(NO_SUCH, x.at(8, 0));
    due(NO_SUCH, x.at(0, -1));
    due(NO_SUCH, x.at(0, 300));
  }

  private static void owners() {
    promise(9);
    MeanLocks x = new MeanLocks();
    x.request(0, READ, 5, 6, 0);
    x.request(7, READ, 5, 6, 0);
    x.request(3, MEAN, 5, 6, 0);
    x.request(2, WRITE, 6, 7, 0);
    due(129, x.owners(5, READ));
    due(8, x.owners(5, MEAN));
    due(0, x.owners(5, WRITE));
    due(255 - 129 - 8, x.owners(5, FREE));
    due(4, x.owners(6, WRITE));
    due(255, x.owners(299, FREE));
    due(NO_SUCH, x.owners(-1, 9));
    due(NO_SUCH, x.owners(300, READ));
    due(BAD_VALUE, x.owners(0, -1));
    due(BAD_VALUE, x.owners(0, 4));
  }

  private static void ofOwner() {
    promise(10);
    MeanLocks x = new MeanLocks();
    x.request(2, READ, 0, 10, 0);
    x.request(2, WRITE, 3, 5, 0);
    x.request(2, MEAN, 5, 6, 0);
    x.request(2, WRITE, 298, 300, 0);
    due(7, x.ofOwner(2, 0));
    due(1, x.ofOwner(2, 1));
    due(4, x.ofOwner(2, 2));
    due(5, x.ofOwner(2, 3));
    due(4, x.ofOwner(2, 9));
    x.request(3, MEAN, 4, 5, 1);
    x.request(0, READ, 4, 7, 1);
    x.ticks(2);
    due(1, x.ofOwner(0, 4));
    due(READ, x.ofOwner(0, 5));
    due(4, x.ofOwner(0, 6));
    due(7, x.ofOwner(0, 7));
    due(2, x.ofOwner(0, 8));
    due(0, x.ofOwner(3, 4));
    due(MEAN, x.ofOwner(3, 5));
    due(1, x.ofOwner(0, 10));
    due(0, x.ofOwner(0, 9));
    x.free(2, 4, 6);
    due(2, x.ofOwner(0, 12));
    due(1, x.ofOwner(0, 9));
    for (int what = 4; what <= 8; what++) due(NONE, x.ofOwner(0, what));
    x.request(0, WRITE, 299, 300, 1);
    x.leave(2);
    due(2, x.ofOwner(0, 12));
    due(2, x.ofOwner(0, 10));
    due(NO_SUCH, x.ofOwner(-1, 99));
    due(NO_SUCH, x.ofOwner(8, 0));
    due(BAD_VALUE, x.ofOwner(0, -1));
    due(BAD_VALUE, x.ofOwner(0, 13));
  }

  private static void stretch() {
    promise(11);
    MeanLocks x = new MeanLocks();
    due(NO_SUCH, x.stretch(1, 0, 0));
    x.request(1, READ, 0, 10, 0);
    x.request(1, READ, 10, 12, 0);
    x.request(1, MEAN, 12, 13, 0);
    x.request(1, WRITE, 290, 300, 0);
    int[][] all = {{READ, 0, 12}, {MEAN, 12, 1}, {WRITE, 290, 10}};
    for (int s = 0; s < 3; s++) for (int what = 0; what < 3; what++) due(all[s][what], x.stretch(1, s, what));
    due(NO_SUCH, x.stretch(1, 3, 0));
    due(NO_SUCH, x.stretch(1, 3, 9));
    due(NO_SUCH, x.stretch(1, -1, 0));
    due(NO_SUCH, x.stretch(8, 0, 0));
    due(NO_SUCH, x.stretch(-1, 0, 0));
    due(BAD_VALUE, x.stretch(1, 0, 3));
    due(BAD_VALUE, x.stretch(1, 0, -1));
    x.free(1, 5, 6);
    due(5, x.stretch(1, 0, 2));
    due(6, x.stretch(1, 1, 1));
    due(4, x.ofOwner(1, 3));
  }

  private static void inRow() {
    promise(12);
    MeanLocks x = new MeanLocks();
    x.request(0, WRITE, 0, 300, 0);
    for (int owner = 7; owner >= 1; owner--) x.request(owner, READ, owner, owner + 1, 1);
    for (int place = 0; place < 7; place++) due(7 - place, x.inRow(place));
    due(NO_SUCH, x.inRow(7));
    due(NO_SUCH, x.inRow(-1));
    due(NO_SUCH, x.inRow(GREATEST));
    x.cancel(5);
    due(4, x.inRow(2));
    due(NO_SUCH, x.inRow(6));
    x.request(5, READ, 5, 6, 1);
    due(5, x.inRow(6));
    due(1, x.free(0, 7, 8));
    due(6, x.inRow(0));
  }

  private static void waitsFor() {
    promise(13);
    MeanLocks x = new MeanLocks();
    due(NO_SUCH, x.waitsFor(8));
    due(NO_SUCH, x.waitsFor(-1));
    x.request(0, READ, 0, 10, 0);
    x.request(1, MEAN, 5, 10, 0);
    x.request(2, MEAN, 7, 20, 1);
    due(2, x.waitsFor(2));
    x.request(3, WRITE, 4, 5, 1);
    due(1, x.waitsFor(3));
    x.request(4, WRITE, 4, 8, 1);
    due(1 + 2 + 4 + 8, x.waitsFor(4));
    x.request(5, READ, 5, 6, 1);
    due(16, x.waitsFor(5));
    due(0, x.waitsFor(0));
    due(0, x.waitsFor(7));
  }

  private static void waitsForOnlyWhereStopped() {
    promise(13);
    MeanLocks x = new MeanLocks();
    x.request(0, WRITE, 0, 1, 0);
    x.request(1, READ, 5, 10, 0);
    x.request(2, WRITE, 5, 6, 1);
    // Owner 1 has READ at 5 already, so nobody stops it there; only owner 0 stops it.
    due(0, x.request(1, READ, 0, 6, 1));
    due(1, x.waitsFor(1));
    due(2, x.waitsFor(2));
  }

  private static void count() {
    promise(14);
    MeanLocks x = new MeanLocks();
    x.request(0, READ, 0, 10, 0);
    x.request(1, READ, 5, 15, 0);
    x.request(2, WRITE, 299, 300, 0);
    x.request(3, WRITE, 0, 1, 1);
    x.ticks(4);
    due(4, x.count(0));
    due(1, x.count(1));
    due(16, x.count(2));
    due(1, x.count(3));
    due(0, x.count(4));
    due(0, x.count(5));
    due(3, x.count(6));
    due(5, x.count(10));
    x.put(pack("r0"));
    due(2, x.count(9));
    x.free(0, 0, 1);
    due(4, x.count(6));
    due(16, x.count(2));
    due(6, x.count(10));
    x.ticks(1);
    due(6, x.count(10));
    due(BAD_VALUE, x.count(-1));
    due(BAD_VALUE, x.count(11));
  }

  private static void wrongAsks() {
    int[][] asks = {{-1, 1, 0, 1, NO_SUCH}, {8, 0, 0, 0, NO_SUCH}, {0, 0, 0, 1, BAD_VALUE}, {0, 4, 0, 1, BAD_VALUE},
        {0, 1, -1, 1, BAD_VALUE}, {0, 1, 300, 301, BAD_VALUE}, {0, 1, 0, 301, BAD_VALUE}, {0, 1, 3, 3, BAD_VALUE},
        {0, 1, 4, 3, BAD_VALUE}, {0, 1, GREATEST, LEAST, BAD_VALUE}};
    MeanLocks x = new MeanLocks();
    for (int[] a : asks) {
      promise(15);
      due(a[4], x.couldGive(a[0], a[1], a[2], a[3]));
      promise(16);
      due(a[4], x.inTheWay(a[0], a[1], a[2], a[3]));
      promise(17);
      due(a[4], x.ring(a[0], a[1], a[2], a[3]));
    }
  }

  private static void couldGive() {
    promise(15);
    MeanLocks x = new MeanLocks();
    due(1, x.couldGive(0, WRITE, 0, 300));
    x.request(0, MEAN, 0, 10, 0);
    x.request(1, WRITE, 5, 20, 1);
    due(1, x.couldGive(0, MEAN, 0, 10));
    due(1, x.couldGive(0, WRITE, 0, 5));
    due(0, x.couldGive(0, WRITE, 0, 6));
    due(1, x.couldGive(2, READ, 0, 5));
    due(0, x.couldGive(2, READ, 0, 6));
    due(0, x.couldGive(2, READ, 19, 20));
    due(1, x.couldGive(2, READ, 20, 21));
    // As if its own request did not wait.
    due(1, x.couldGive(1, READ, 10, 20));
    due(1, x.couldGive(1, WRITE, 10, 20));
    due(2, x.count(10));
    due(1, x.inRow(0));
  }

  private static void inTheWay() {
    promise(16);
    MeanLocks x = new MeanLocks();
    x.request(0, READ, 0, 10, 0);
    x.request(1, READ, 9, 20, 0);
    x.request(2, WRITE, 19, 30, 1);
    due(0, x.inTheWay(3, READ, 0, 19));
    due(3, x.inTheWay(3, WRITE, 0, 19));
    due(1, x.inTheWay(3, WRITE, 0, 9));
    due(7, x.inTheWay(3, WRITE, 0, 20));
    due(4, x.inTheWay(3, READ, 29, 30));
    due(0, x.inTheWay(3, WRITE, 30, 300));
    due(2, x.inTheWay(2, WRITE, 10, 40));
    due(4, x.inTheWay(0, MEAN, 0, 30));
    due(2 + 4, x.inTheWay(0, WRITE, 0, 30));
    // Its own request waits no more then, so it is not ahead of others either.
    x.request(3, READ, 25, 26, 1);
    due(2 + 8, x.inTheWay(2, WRITE, 19, 30));
    x.request(1, READ, 19, 30, 1);
    due(4, x.inTheWay(1, READ, 19, 30));
    due(2, x.inTheWay(0, WRITE, 10, 12));
  }

  private static void ring() {
    promise(17);
    MeanLocks x = halfACircle();
    due(3, x.ring(1, READ, 1, 5));
    due(3, x.ring(1, WRITE, 0, 300));
    due(0, x.ring(1, READ, 2, 5));
    due(0, x.ring(2, WRITE, 0, 300));
    x.request(2, WRITE, 100, 110, 0);
    x.request(2, READ, 0, 1, 1);
    due(7, x.ring(1, READ, 100, 101));
    due(7, x.ring(1, READ, 0, 101));
    // Owner 2 waits for owner 0, but nobody of a circle waits for it.
    due(3, x.ring(1, READ, 1, 2));
    due(2, x.count(1));
    // With its request taken as the last one: owner 0 waits for owner 1 only, who does not wait.
    due(0, x.ring(0, WRITE, 10, 13));
    due(5, x.ring(0, WRITE, 100, 101));
    MeanLocks y = new MeanLocks();
    y.request(1, WRITE, 10, 11, 0);
    y.request(2, WRITE, 20, 21, 0);
    y.request(0, WRITE, 10, 12, 1);
    y.request(2, WRITE, 11, 12, 1);
    due(1, y.waitsFor(2));
    // As the last one of the row owner 0 would not stand ahead of owner 2 any more.
    due(0, y.ring(0, WRITE, 20, 21));
    due(0, y.ring(0, WRITE, 11, 12));
    x.set(BREAK, 1);
    due(3, x.ring(1, READ, 1, 5));
    due(0, x.count(8));
  }

  private static void firstFor() {
    promise(18);
    MeanLocks x = new MeanLocks();
    due(0, x.firstFor(0, WRITE, 300, 0));
    due(NONE, x.firstFor(0, WRITE, 300, 1));
    due(299, x.firstFor(0, WRITE, 1, 299));
    x.request(1, READ, 10, 20, 0);
    x.request(2, MEAN, 30, 40, 0);
    x.request(3, WRITE, 45, 50, 0);
    x.request(4, WRITE, 38, 46, 1);
    due(0, x.firstFor(0, WRITE, 10, 0));
    due(20, x.firstFor(0, WRITE, 10, 1));
    due(50, x.firstFor(0, WRITE, 11, 0));
    due(1, x.firstFor(0, READ, 10, 1));
    due(0, x.firstFor(0, READ, 38, 0));
    due(50, x.firstFor(0, READ, 39, 0));
    due(0, x.firstFor(0, MEAN, 30, 0));
    due(50, x.firstFor(0, MEAN, 31, 0));
    due(50, x.firstFor(4, WRITE, 11, 0));
    due(40, x.firstFor(4, WRITE, 5, 26));
    due(NONE, x.firstFor(0, READ, 251, 0));
    due(50, x.firstFor(0, READ, 250, 0));
    due(NO_SUCH, x.firstFor(8, 0, 0, -1));
    due(NO_SUCH, x.firstFor(-1, READ, 1, 0));
    due(BAD_VALUE, x.firstFor(0, FREE, 1, 0));
    due(BAD_VALUE, x.firstFor(0, 4, 1, 0));
    due(BAD_VALUE, x.firstFor(0, READ, 0, 0));
    due(BAD_VALUE, x.firstFor(0, READ, 301, 0));
    due(BAD_VALUE, x.firstFor(0, READ, 1, -1));
    due(BAD_VALUE, x.firstFor(0, READ, 1, 300));
  }

  private static void longestFor() {
    promise(19);
    MeanLocks x = new MeanLocks();
    due(0, x.longestFor(7, WRITE, 0));
    due(300, x.longestFor(7, WRITE, 1));
    x.request(1, READ, 100, 200, 0);
    due(0, x.longestFor(0, WRITE, 0));
    due(100, x.longestFor(0, WRITE, 1));
    x.request(2, WRITE, 0, 1, 0);
    due(200, x.longestFor(0, WRITE, 0));
    due(100, x.longestFor(0, WRITE, 1));
    due(1, x.longestFor(0, READ, 0));
    due(299, x.longestFor(0, READ, 1));
    due(299, x.longestFor(0, MEAN, 1));
    due(1, x.longestFor(1, WRITE, 0));
    x.request(3, WRITE, 0, 300, 1);
    due(NONE, x.longestFor(0, READ, 0));
    due(NONE, x.longestFor(0, READ, 1));
    due(100, x.longestFor(1, READ, 0));
    due(NONE, x.longestFor(1, WRITE, 0));
    due(200, x.longestFor(3, WRITE, 0));
    due(NO_SUCH, x.longestFor(8, 0, 2));
    due(NO_SUCH, x.longestFor(-1, READ, 0));
    due(BAD_VALUE, x.longestFor(0, FREE, 0));
    due(BAD_VALUE, x.longestFor(0, 4, 0));
    due(BAD_VALUE, x.longestFor(0, READ, 2));
    due(BAD_VALUE, x.longestFor(0, READ, -1));
  }

  private static void givenIf() {
    promise(20);
    MeanLocks x = new MeanLocks();
    due(NO_SUCH, x.givenIf(8));
    due(NO_SUCH, x.givenIf(-1));
    due(0, x.givenIf(0));
    x.request(0, WRITE, 0, 10, 0);
    x.request(1, READ, 20, 30, 0);
    x.request(2, READ, 0, 5, 1);
    x.request(3, MEAN, 2, 8, 1);
    x.request(4, WRITE, 7, 9, 1);
    x.request(5, WRITE, 20, 21, 1);
    x.request(6, READ, 20, 22, 1);
    due(4 + 8, x.givenIf(0));
    due(32, x.givenIf(1));
    due(64, x.givenIf(5));
    due(0, x.givenIf(2));
    due(0, x.givenIf(7));
    due(5, x.count(1));
    due(WRITE, x.at(0, 0));
    due(6, x.count(10));
  }

  private static void greatestBar() {
    promise(21);
    MeanLocks x = new MeanLocks();
    due(BAD_VALUE, x.greatestBar(2));
    due(BAD_VALUE, x.greatestBar(-1));
    due(NONE, x.greatestBar(0));
    due(NONE, x.greatestBar(1));
    x.request(3, WRITE, 0, 10, 0);
    x.request(1, WRITE, 20, 30, 0);
    due(NONE, x.greatestBar(1));
    x.request(4, READ, 5, 6, 1);
    due(3, x.greatestBar(0));
    due(1, x.greatestBar(1));
    x.request(5, READ, 25, 26, 1);
    due(1, x.greatestBar(0));
    due(1, x.greatestBar(1));
    x.request(6, READ, 5, 7, 1);
    due(3, x.greatestBar(0));
    due(2, x.greatestBar(1));
    due(3, x.count(1));
    x.request(0, WRITE, 40, 50, 0);
    for (int owner = 1; owner <= 7; owner++) x.request(owner, WRITE, 40 + owner, 41 + owner, 1);
    // 4, 5 and 6 wait already; 1, 2, 3 and 7 wait for owner 0.
    due(0, x.greatestBar(0));
    due(4, x.greatestBar(1));
  }

  private static void put() {
    promise(22);
    MeanLocks x = new MeanLocks();
    due(BAD_VALUE, x.put(0));
    due(BAD_VALUE, x.put(32));
    due(BAD_VALUE, x.put(127));
    due(1, x.put(33));
    due(2, x.put(126));
    due(BAD_VALUE, x.put(256L * 'a'));
    due(BAD_VALUE, x.put(65536L * 'a' + 'a'));
    due(BAD_VALUE, x.put(256L * 'a' + 32));
    due(BAD_VALUE, x.put(256L * 32 + 'a'));
    due(BAD_VALUE, x.put((1L << 63) + 'a'));
    due(BAD_VALUE, x.put(-1));
    due(BAD_VALUE, x.put(Long.MIN_VALUE));
    due(10, x.put(pack("abcdefgh")));
    for (int length = 18; length <= 74; length += 8) due(length, x.put(pack("~~~~~~~~")));
    due(TOO_MANY, x.put(pack("abcdefg")));
    due(BAD_VALUE, x.put(127));
    due(74, x.count(9));
    due(80, x.put(pack("abcdef")));
    due(TOO_MANY, x.put('a'));
    due(80, x.count(9));
    due(0, x.count(10));
    MeanLocks y = new MeanLocks();
    y.put(pack("x"));
    y.put(pack("7;t"));
    y.put(pack("42"));
    due(NONE, y.fault());
    due(2, y.carryOut());
    due(42, y.count(0));
  }

  private static void wipe() {
    promise(23);
    MeanLocks x = new MeanLocks();
    due(0, x.wipe());
    type(x, "t1;t2");
    due(5, x.wipe());
    due(0, x.count(9));
    due(0, x.fault());
    due(0, x.wipe());
    type(x, "t3");
    due(1, x.carryOut());
    due(3, x.count(0));
    due(1, x.count(10));
  }

  private static void fault() {
    promise(24);
    String[] good = {"r0:0-300", "m7:300-0!", "w1:5-5!", "f2:10-29", "c3", "x4", "t0", "t300", "t9;t10;t100", "c0;x0;f0:0-0;w0:1-2!;t1"};
    for (String text : good) due(NONE, faultOf(text));
    String[] cut = {"", "r", "r0", "r0:", "r0:1", "r0:1-", "f", "f5:2", "c", "x", "t", "c1;", "t5;", "w0:0-1!;"};
    for (String text : cut) due(text.length(), faultOf(text));
    due(0, faultOf("R0:0-1"));
    due(0, faultOf(";c1"));
    due(1, faultOf("c8"));
    due(1, faultOf("r:0-1"));
    due(2, faultOf("c12"));
    due(2, faultOf("x1!"));
    due(2, faultOf("r0-1"));
    due(3, faultOf("r0:-1"));
    due(4, faultOf("r0:01-2"));
    due(4, faultOf("r0:00"));
    due(8, faultOf("r0:31-310"));
    due(5, faultOf("r0:301-2"));
    due(6, faultOf("r0:3000"));
    due(5, faultOf("r0:310"));
    due(2, faultOf("t01"));
    due(3, faultOf("t301"));
    due(4, faultOf("t3000"));
    due(4, faultOf("t1000"));
    due(8, faultOf("f0:1-300!"));
    due(9, faultOf("r0:1-300!!"));
    due(4, faultOf("r0:1;c0"));
    due(3, faultOf("c0;;c0"));
    due(2, faultOf("c0,c1"));
    due(2, faultOf("t1!"));
    due(1, faultOf("t-1"));
  }

  private static void carryOut() {
    promise(25);
    MeanLocks x = new MeanLocks();
    due(BAD_TEXT, x.carryOut());
    type(x, "t1;t");
    due(BAD_TEXT, x.carryOut());
    due(4, x.count(9));
    due(0, x.count(0));
    due(0, x.count(10));
    due(5, x.put('5'));
    due(2, x.carryOut());
    due(6, x.count(0));
    due(0, x.count(9));
    due(1, x.count(10));
    due(6, carry(x, "r0:0-5;m1:0-5;w2:0-5!;t7;f0:0-3;x1"));
    due(READ, x.at(0, 4));
    due(7, x.ofOwner(2, 8));
    due(2, x.count(10));
    due(1, carry(x, "c2"));
    due(0, x.count(1));
    // The second one waits not, as it is not told to.
    due(1, carry(x, "w3:9-10;w4:9-10;t9"));
    due(13, x.count(0));
    due(0, x.count(1));
    due(0, carry(x, "c4;t9"));
    due(5, x.count(10));
    due(0, x.count(9));
    due(0, carry(x, "t0"));
    due(0, carry(x, "r0:5-5"));
    due(0, carry(x, "r0:300-300"));
    due(1, carry(x, "t300"));
    due(313, x.count(0));
    due(27, carry(x, "x1;x2;x3;x4;x5;x6;x7;x0;x1;x2;x3;x4;x5;x6;x7;x0;x1;x2;x3;x4;x5;x6;x7;x0;x1;x2;x3"));
  }

  private static void undo() {
    promise(26);
    MeanLocks x = new MeanLocks();
    due(NOT_POSSIBLE, x.undo());
    for (int i = 0; i < 8; i++) x.request(0, READ, i, i + 1, 0);
    due(6, x.count(10));
    for (int left = 5; left >= 0; left--) due(left, x.undo());
    due(NOT_POSSIBLE, x.undo());
    due(2, x.ofOwner(0, 0));
    due(2, x.ofOwner(0, 9));
    x.free(7, 0, 1);
    due(1, x.count(10));
    due(NO_SUCH, x.free(8, 0, 1));
    due(1, x.request(0, READ, 0, 1, 0));
    due(2, x.count(10));
    x.set(PATIENCE, 9);
    x.ticks(5);
    x.request(1, WRITE, 0, 1, 1);
    type(x, "c1");
    x.save(0);
    due(5, x.count(10));
    due(4, x.undo());
    due(0, x.count(1));
    due(2, x.count(9));
    due(3, x.undo());
    due(0, x.count(0));
    due(9, x.count(5));
    due(2, x.undo());
    due(0, x.count(5));
    due(5, x.restore(0));
    due(1, x.count(1));
    due(1, x.carryOut());
    due(0, x.count(1));
    due(3, x.undo());
    due(0, x.count(9));
    due(1, x.inRow(0));
    due(2, x.undo());
    due(0, x.count(5));
  }

  private static void eachChangeIsUndone() {
    promise(26);
    MeanLocks x = new MeanLocks();
    x.request(0, WRITE, 0, 10, 0);
    x.request(1, WRITE, 0, 10, 1);
    x.ticks(3);
    x.set(PATIENCE, 4);
    x.undo();
    due(0, x.count(5));
    due(3, x.cancel(1));
    x.undo();
    due(3, x.ofOwner(1, 8));
    x.free(0, 0, 10);
    due(3, x.ofOwner(1, 12));
    x.undo();
    due(0, x.ofOwner(1, 12));
    due(0, x.ofOwner(1, 9));
    due(1, x.inRow(0));
    due(10, x.ofOwner(0, 2));
    x.leave(0);
    x.undo();
    due(10, x.ofOwner(0, 2));
    x.leave(1);
    x.undo();
    due(1, x.inRow(0));
    due(3, x.ofOwner(1, 8));
    x.set(PATIENCE, 1);
    due(1, x.ticks(1));
    due(1, x.count(7));
    x.undo();
    due(0, x.count(7));
    due(3, x.count(0));
    due(3, x.ofOwner(1, 8));
    x.request(2, READ, 0, 1, 1);
    due(1, x.ofOwner(2, 10));
    x.undo();
    due(0, x.ofOwner(2, 10));
    due(NONE, x.ofOwner(2, 4));
    type(x, "c1;x0;t9");
    due(3, x.carryOut());
    x.undo();
    due(3, x.count(0));
    due(1, x.count(1));
    due(10, x.ofOwner(0, 2));
    due(3, x.save(0));
    x.leave(0);
    x.restore(0);
    x.undo();
    due(0, x.ofOwner(0, 2));
    MeanLocks y = halfACircle();
    y.set(BREAK, 1);
    y.request(1, READ, 0, 2, 1);
    y.undo();
    due(0, y.count(8));
    due(0, y.ofOwner(0, 11));
    due(WRITE, y.at(0, 0));
    due(NOT_POSSIBLE, y.set(FAIR, 0));
    due(0, y.ofOwner(1, 10));
    due(1, y.ofOwner(0, 10));
  }

  private static int changed(MeanLocks x, int which) {
    switch (which) {
      case 0: return x.set(PATIENCE, 9);
      case 1: return x.request(0, READ, 0, 10, 0);
      case 2: return x.free(0, 0, 10);
      case 3: return x.cancel(1);
      case 4: return x.leave(0);
      case 5: return x.ticks(2);
      case 6: return x.restore(1);
      default: return x.carryOut();
    }
  }

  private static void eachChangeRecordsTheStateBeforeIt() {
    promise(26);
    int[] answers = {0, 1, 10, 3, 10, 0, 0, 2};
    for (int which = 0; which < answers.length; which++) {
      MeanLocks x = new MeanLocks();
      x.save(1);
      x.request(0, WRITE, 0, 10, 0);
      x.request(1, READ, 0, 10, 1);
      x.ticks(3);
      type(x, "x0;t4");
      due(answers[which], changed(x, which));
      due(4, x.count(10));
      due(3, x.undo());
      due(0, x.count(5));
      due(3, x.count(0));
      due(10, x.ofOwner(0, 2));
      due(0, x.ofOwner(1, 0));
      due(3, x.ofOwner(1, 8));
      due(1, x.inRow(0));
      due(1, x.count(6));
    }
  }

  private static void ownersThatThereAreNot() {
    MeanLocks x = new MeanLocks();
    x.request(0, READ, 0, 300, 0);
    x.request(1, WRITE, 0, 300, 1);
    for (int owner : new int[] {-1, 8, 9, 31, 32, 33, -31, -32, 64, LEAST, LEAST + 1, GREATEST}) {
      promise(3);
      due(NO_SUCH, x.request(owner, READ, 0, 1, 0));
      promise(4);
      due(NO_SUCH, x.free(owner, 0, 1));
      promise(5);
      due(NO_SUCH, x.cancel(owner));
      promise(6);
      due(NO_SUCH, x.leave(owner));
      promise(8);
      due(NO_SUCH, x.at(owner, 0));
      promise(10);
      due(NO_SUCH, x.ofOwner(owner, 0));
      promise(11);
      due(NO_SUCH, x.stretch(owner, 0, 0));
      promise(13);
      due(NO_SUCH, x.waitsFor(owner));
      promise(15);
      due(NO_SUCH, x.couldGive(owner, READ, 0, 1));
      promise(16);
      due(NO_SUCH, x.inTheWay(owner, READ, 0, 1));
      promise(17);
      due(NO_SUCH, x.ring(owner, READ, 0, 1));
      promise(18);
      due(NO_SUCH, x.firstFor(owner, READ, 1, 0));
      promise(19);
      due(NO_SUCH, x.longestFor(owner, READ, 0));
      promise(20);
      due(NO_SUCH, x.givenIf(owner));
    }
    due(2, x.count(10));
  }

  private static void save() {
    promise(27);
    MeanLocks x = new MeanLocks();
    due(BAD_VALUE, x.save(-1));
    due(BAD_VALUE, x.save(2));
    due(0, x.save(0));
    x.ticks(3);
    x.request(5, WRITE, 0, 9, 0);
    due(3, x.save(1));
    due(2, x.count(10));
    due(0, x.restore(0));
    due(0, x.count(2));
    due(3, x.restore(1));
    due(9, x.count(2));
    x.ticks(4);
    due(7, x.save(1));
    due(0, x.restore(0));
    due(7, x.restore(1));
  }

  private static void restore() {
    promise(28);
    MeanLocks x = new MeanLocks();
    due(BAD_VALUE, x.restore(-1));
    due(BAD_VALUE, x.restore(2));
    due(NOT_POSSIBLE, x.restore(0));
    due(0, x.count(10));
    x.set(BREAK, 1);
    x.set(PATIENCE, 50);
    x.request(0, READ, 0, 10, 0);
    x.request(1, READ, 0, 10, 0);
    x.request(0, WRITE, 0, 10, 1);
    x.ticks(2);
    x.save(1);
    due(NOT_POSSIBLE, x.restore(0));
    type(x, "t1");
    x.request(1, WRITE, 0, 10, 1);
    due(1, x.count(8));
    x.leave(0);
    x.leave(1);
    x.set(BREAK, 0);
    due(2, x.restore(1));
    due(6, x.count(10));
    due(2, x.count(9));
    due(0, x.count(8));
    due(1, x.count(4));
    due(50, x.count(5));
    due(0, x.inRow(0));
    due(2, x.ofOwner(0, 8));
    due(WRITE, x.ofOwner(0, 5));
    due(10, x.ofOwner(0, 7));
    due(1, x.ofOwner(0, 10));
    due(10, x.ofOwner(1, 0));
    x.leave(1);
    due(WRITE, x.at(0, 0));
    due(2, x.ofOwner(0, 12));
    due(2, x.restore(1));
    due(READ, x.at(0, 0));
    due(5, x.undo());
    due(WRITE, x.at(0, 0));
  }

  public static void main(String[] args) {
    newObject();
    set();
    requestErrors();
    kindsThatGoTogether();
    requestsChangeKinds();
    fairness();
    requestsThatGoTogetherDoNotWait();
    circlesRefused();
    circlesBroken();
    onlyPlacesInDisputeAreGivenUp();
    aPlaceThatDoesNotStopIsNotGivenUp();
    aCircleByTheRowAlone();
    allPlacesGivenUp();
    theFirstOfTheRowIsGivenFirst();
    circlesBrokenAgainAndAgain();
    theRowIsGoneThroughAfterEachBreak();
    free();
    cancel();
    leave();
    ticks();
    at();
    owners();
    ofOwner();
    stretch();
    inRow();
    waitsFor();
    waitsForOnlyWhereStopped();
    count();
    wrongAsks();
    couldGive();
    inTheWay();
    ring();
    firstFor();
    longestFor();
    givenIf();
    greatestBar();
    put();
    wipe();
    fault();
    carryOut();
    undo();
    eachChangeIsUndone();
    eachChangeRecordsTheStateBeforeIt();
    ownersThatThereAreNot();
    save();
    restore();
    end("all promises are kept");
  }
}
