/** The sentences of the promises that name a boundary, each in a test of its own: what is empty, what is full, what is just enough. */
public final class EdgesTest extends Check {
  private static void anEmptyFile() {
    promise(1);
    MeanLocks x = new MeanLocks();
    for (int owner = 0; owner < 8; owner++) {
      due(0, x.ofOwner(owner, 3));
      due(NO_SUCH, x.stretch(owner, 0, 0));
      due(0, x.waitsFor(owner));
      due(0, x.givenIf(owner));
      for (int kind = READ; kind <= WRITE; kind++) {
        due(1, x.couldGive(owner, kind, 0, 300));
        due(0, x.inTheWay(owner, kind, 0, 300));
        due(0, x.ring(owner, kind, 0, 300));
        due(0, x.firstFor(owner, kind, 300, 0));
        due(299, x.firstFor(owner, kind, 1, 299));
        due(0, x.longestFor(owner, kind, 0));
        due(300, x.longestFor(owner, kind, 1));
      }
    }
    due(NONE, x.greatestBar(0));
    due(NONE, x.greatestBar(1));
    due(0, x.count(2));
    due(0, x.free(0, 0, 300));
    due(0, x.leave(7));
    due(0, x.ticks(300));
  }

  private static void setReturnsThePreviousValue() {
    promise(2);
    MeanLocks x = new MeanLocks();
    due(1, x.set(FAIR, 1));
    due(1, x.set(FAIR, 0));
    due(0, x.set(FAIR, 0));
    due(0, x.set(BREAK, 0));
    due(0, x.set(BREAK, 1));
    due(1, x.set(BREAK, 1));
    for (int patience : new int[] {0, 1, 100, 200, 200}) x.set(PATIENCE, patience);
    due(200, x.set(PATIENCE, 0));
    due(0, x.set(PATIENCE, 1));
  }

  private static void fairCanBeSetAsSoonAsNoneWaits() {
    promise(2);
    MeanLocks x = new MeanLocks();
    x.request(0, WRITE, 0, 1, 0);
    due(1, x.set(FAIR, 1));
    x.request(1, READ, 0, 1, 1);
    due(NOT_POSSIBLE, x.set(FAIR, 1));
    due(NOT_POSSIBLE, x.set(FAIR, 0));
    due(0, x.set(BREAK, 1));
    due(0, x.set(PATIENCE, 1));
    due(1, x.ticks(1));
    due(1, x.set(FAIR, 0));
    x.request(1, READ, 0, 1, 1);
    due(NOT_POSSIBLE, x.set(FAIR, 1));
    due(0, x.cancel(1));
    due(0, x.set(FAIR, 1));
  }

  private static void settingDoesNotGoThroughTheRow() {
    promise(2);
    MeanLocks x = new MeanLocks();
    x.request(0, WRITE, 0, 1, 0);
    x.request(1, READ, 0, 1, 1);
    x.ticks(9);
    due(0, x.set(PATIENCE, 9));
    due(1, x.count(1));
    due(0, x.count(7));
    due(1, x.ticks(1));
  }

  private static void theAnswersOfRequest() {
    promise(3);
    MeanLocks x = new MeanLocks();
    due(1, x.request(0, WRITE, 0, 1, 0));
    due(1, x.request(0, WRITE, 0, 1, 1));
    due(2, x.ofOwner(0, 9));
    due(0, x.ofOwner(0, 10));
    due(0, x.request(1, WRITE, 0, 1, 1));
    due(1, x.ofOwner(1, 10));
    due(NOT_POSSIBLE, x.request(2, WRITE, 0, 1, 0));
    due(0, x.ofOwner(2, 10));
    due(0, x.ofOwner(2, 9));
    due(2, x.count(6));
  }

  private static void freeCountsThePlacesThatBecameFree() {
    promise(4);
    MeanLocks x = new MeanLocks();
    x.request(0, READ, 0, 300, 0);
    x.request(0, WRITE, 100, 101, 0);
    due(1, x.free(0, 0, 1));
    due(0, x.free(0, 0, 1));
    due(1, x.free(0, 299, 300));
    due(1, x.free(0, 99, 100));
    due(1, x.free(0, 99, 101));
    due(READ, x.at(0, 101));
    due(READ, x.at(0, 98));
    due(296, x.ofOwner(0, 0));
    due(296, x.free(0, 0, 300));
    due(0, x.free(0, 0, 300));
    due(0, x.free(7, 0, 300));
  }

  private static void whoFreesGoesOnWaiting() {
    promise(4);
    MeanLocks x = new MeanLocks();
    x.request(0, WRITE, 0, 1, 0);
    x.request(1, READ, 5, 6, 0);
    due(0, x.request(1, READ, 0, 7, 1));
    x.ticks(2);
    due(1, x.free(1, 0, 300));
    due(1, x.inRow(0));
    due(2, x.ofOwner(1, 8));
    // Freeing its own place it can get its own request: the places that became FREE count all the same.
    MeanLocks y = new MeanLocks();
    y.request(0, WRITE, 0, 1, 0);
    y.request(1, WRITE, 5, 6, 0);
    y.request(2, WRITE, 0, 7, 1);
    due(1, y.free(0, 0, 1));
    due(1, y.free(1, 0, 300));
    due(7, y.ofOwner(2, 2));
  }

  private static void cancelReturnsTheTicksWaited() {
    promise(5);
    MeanLocks x = new MeanLocks();
    x.request(0, WRITE, 0, 1, 0);
    for (int ticks : new int[] {1, 2, 300}) {
      x.request(1, READ, 0, 1, 1);
      x.ticks(ticks);
      due(ticks, x.cancel(1));
      due(NOT_POSSIBLE, x.cancel(1));
    }
    x.request(1, READ, 0, 1, 1);
    due(0, x.cancel(1));
    due(0, x.ofOwner(1, 12));
    due(4, x.ofOwner(1, 10));
    due(0, x.count(7));
  }

  private static void cancelGoesThroughTheRow() {
    promise(5);
    MeanLocks x = new MeanLocks();
    x.request(0, READ, 0, 1, 0);
    x.request(1, WRITE, 0, 10, 1);
    x.request(2, READ, 9, 10, 1);
    due(0, x.cancel(1));
    due(READ, x.at(2, 9));
    due(0, x.count(1));
    due(READ, x.at(0, 0));
  }

  private static void leaveCountsThePlacesThatBecameFree() {
    promise(6);
    MeanLocks x = new MeanLocks();
    due(0, x.leave(0));
    x.request(0, READ, 0, 300, 0);
    due(300, x.leave(0));
    due(0, x.leave(0));
    x.request(0, WRITE, 299, 300, 0);
    x.request(1, READ, 299, 300, 1);
    // Owner 1 waits only: its request goes away, and no place becomes FREE.
    due(0, x.leave(1));
    due(0, x.count(1));
    due(NONE, x.ofOwner(1, 4));
    x.request(1, READ, 299, 300, 1);
    due(1, x.leave(0));
    due(READ, x.at(1, 299));
    due(1, x.request(0, READ, 299, 300, 0));
    due(3, x.ofOwner(0, 9));
  }

  private static void ticksReturnsHowManyWentAway() {
    promise(7);
    MeanLocks x = new MeanLocks();
    x.set(PATIENCE, 200);
    due(0, x.ticks(1));
    due(0, x.ticks(300));
    x.request(0, WRITE, 0, 1, 0);
    for (int owner = 1; owner < 8; owner++) {
      x.request(owner, WRITE, 0, 1, 1);
      x.ticks(1);
    }
    due(0, x.ticks(192));
    due(1, x.ticks(1));
    due(6, x.ticks(300));
    due(7, x.count(7));
    due(0, x.ticks(300));
  }

  private static void atEachKindAtTheEnds() {
    promise(8);
    for (int owner : new int[] {0, 7}) {
      for (int kind = READ; kind <= WRITE; kind++) {
        MeanLocks x = new MeanLocks();
        x.request(owner, kind, 0, 1, 0);
        x.request(owner, kind, 299, 300, 0);
        due(kind, x.at(owner, 0));
        due(FREE, x.at(owner, 1));
        due(FREE, x.at(owner, 298));
        due(kind, x.at(owner, 299));
        due(FREE, x.at(7 - owner, 0));
      }
    }
  }

  private static void ownersOfEachKind() {
    promise(9);
    for (int place : new int[] {0, 299}) {
      MeanLocks x = new MeanLocks();
      due(255, x.owners(place, FREE));
      for (int owner = 0; owner < 8; owner++) x.request(owner, READ, place, place + 1, 0);
      due(255, x.owners(place, READ));
      due(0, x.owners(place, FREE));
      x.request(3, MEAN, place, place + 1, 0);
      due(247, x.owners(place, READ));
      due(8, x.owners(place, MEAN));
      due(0, x.owners(place, WRITE));
      for (int owner = 0; owner < 8; owner++) if (owner != 3) x.leave(owner);
      x.request(3, WRITE, place, place + 1, 0);
      due(8, x.owners(place, WRITE));
      due(0, x.owners(place, MEAN));
      due(247, x.owners(place, FREE));
    }
  }

  private static void ofOwnerWithAllPlaces() {
    promise(10);
    for (int kind = READ; kind <= WRITE; kind++) {
      MeanLocks x = new MeanLocks();
      x.request(7, kind, 0, 300, 0);
      for (int other = READ; other <= WRITE; other++) due(other == kind ? 300 : 0, x.ofOwner(7, other - 1));
      due(1, x.ofOwner(7, 3));
    }
  }

  private static void ofOwnerWithAWaitingRequest() {
    promise(10);
    MeanLocks x = new MeanLocks();
    for (int what = 4; what <= 8; what++) due(NONE, x.ofOwner(1, what));
    x.request(0, WRITE, 0, 300, 0);
    x.request(1, READ, 0, 300, 1);
    int[] want = {0, READ, 0, 300, 0};
    for (int what = 4; what <= 8; what++) due(want[what - 4], x.ofOwner(1, what));
    x.request(2, WRITE, 299, 300, 1);
    x.ticks(300);
    int[] second = {1, WRITE, 299, 300, 300};
    for (int what = 4; what <= 8; what++) due(second[what - 4], x.ofOwner(2, what));
    x.cancel(1);
    due(0, x.ofOwner(2, 4));
    x.cancel(2);
    for (int what = 4; what <= 8; what++) due(NONE, x.ofOwner(2, what));
  }

  private static void theLongestWait() {
    promise(10);
    MeanLocks x = new MeanLocks();
    due(0, x.ofOwner(1, 12));
    int longest = 0;
    for (int ticks : new int[] {3, 2, 300, 299}) {
      x.request(0, WRITE, 0, 1, 0);
      x.request(1, READ, 0, 1, 1);
      x.ticks(ticks);
      due(longest, x.ofOwner(1, 12));
      x.leave(0);
      longest = Math.max(longest, ticks);
      due(longest, x.ofOwner(1, 12));
      x.leave(1);
    }
    // A request that goes away, or is cancelled, was not given out of the row.
    x.request(0, WRITE, 0, 1, 0);
    x.request(1, READ, 0, 1, 1);
    x.ticks(300);
    x.ticks(100);
    due(400, x.cancel(1));
    due(300, x.ofOwner(1, 12));
    due(0, x.ofOwner(0, 12));
  }

  private static void stretchesOfOnePlace() {
    promise(11);
    MeanLocks x = new MeanLocks();
    x.request(6, READ, 0, 300, 0);
    for (int place = 1; place < 300; place += 2) x.request(6, MEAN, place, place + 1, 0);
    due(300, x.ofOwner(6, 3));
    for (int s : new int[] {0, 1, 150, 298, 299}) {
      due(s % 2 == 0 ? READ : MEAN, x.stretch(6, s, 0));
      due(s, x.stretch(6, s, 1));
      due(1, x.stretch(6, s, 2));
    }
    due(NO_SUCH, x.stretch(6, 300, 0));
    due(150, x.ofOwner(6, 0));
    due(150, x.ofOwner(6, 1));
  }

  private static void aStretchIsAGreatestRangeOfOneKind() {
    promise(11);
    MeanLocks x = new MeanLocks();
    x.request(1, READ, 5, 10, 0);
    x.request(1, READ, 0, 5, 0);
    x.request(1, WRITE, 10, 12, 0);
    x.request(1, READ, 12, 13, 0);
    x.request(1, READ, 14, 15, 0);
    int[][] want = {{READ, 0, 10}, {WRITE, 10, 2}, {READ, 12, 1}, {READ, 14, 1}};
    due(4, x.ofOwner(1, 3));
    for (int s = 0; s < 4; s++) for (int what = 0; what < 3; what++) due(want[s][what], x.stretch(1, s, what));
    x.request(1, READ, 13, 14, 0);
    due(3, x.ofOwner(1, 3));
    due(3, x.stretch(1, 2, 2));
    x.request(1, READ, 10, 12, 0);
    due(1, x.ofOwner(1, 3));
    due(15, x.stretch(1, 0, 2));
    // Two owners' locks at places side by side are two stretches.
    x.request(2, READ, 15, 20, 0);
    due(15, x.stretch(1, 0, 2));
  }

  private static void aRowOfAllEight() {
    promise(12);
    MeanLocks x = fullRow();
    int[] row = {6, 7, 0, 1, 2, 3, 4, 5};
    for (int place = 0; place < 8; place++) {
      due(row[place], x.inRow(place));
      due(place, x.ofOwner(row[place], 4));
    }
    due(NO_SUCH, x.inRow(8));
    due(NO_SUCH, x.inRow(-1));
    due(8, x.count(1));
    due(128, x.waitsFor(6));
    due(64, x.waitsFor(7));
    for (int owner = 0; owner < 6; owner++) due(64, x.waitsFor(owner));
    due(223, x.inTheWay(5, WRITE, 21, 22));
    due(0, x.ring(5, WRITE, 21, 22));
    due(0, x.couldGive(5, READ, 21, 22));
    due(1, x.couldGive(5, READ, 23, 24));
    due(191, x.givenIf(6));
    due(64, x.givenIf(7));
    due(0, x.givenIf(5));
    due(6, x.greatestBar(0));
    due(7, x.greatestBar(1));
  }

  private static void anEmptyRow() {
    promise(12);
    MeanLocks x = new MeanLocks();
    due(NO_SUCH, x.inRow(0));
    x.request(0, WRITE, 0, 1, 0);
    due(NO_SUCH, x.inRow(0));
    x.request(1, WRITE, 0, 1, 1);
    due(1, x.inRow(0));
    due(NO_SUCH, x.inRow(1));
    x.cancel(1);
    due(NO_SUCH, x.inRow(0));
    due(0, x.count(1));
  }

  private static void whoseRequestDoesNotWaitWaitsForNobody() {
    promise(13);
    MeanLocks x = new MeanLocks();
    x.request(0, WRITE, 0, 1, 0);
    due(0, x.waitsFor(1));
    x.request(1, WRITE, 0, 1, 1);
    due(1, x.waitsFor(1));
    due(0, x.waitsFor(0));
    x.free(0, 0, 1);
    due(0, x.waitsFor(1));
    for (int owner = 2; owner < 8; owner++) x.request(owner, READ, 0, 1, 1);
    for (int owner = 2; owner < 8; owner++) due(2, x.waitsFor(owner));
    due(0, x.request(0, WRITE, 0, 1, 1));
    due(254, x.waitsFor(0));
  }

  private static void countOfPlaces() {
    promise(14);
    MeanLocks x = new MeanLocks();
    due(0, x.count(2));
    x.request(0, READ, 0, 1, 0);
    due(1, x.count(2));
    x.request(7, READ, 0, 1, 0);
    due(1, x.count(2));
    x.request(7, WRITE, 299, 300, 0);
    due(2, x.count(2));
    x.request(3, READ, 0, 299, 0);
    due(300, x.count(2));
    x.free(0, 0, 1);
    due(300, x.count(2));
    x.leave(3);
    due(2, x.count(2));
  }

  private static void countOfEverythingElse() {
    promise(14);
    MeanLocks x = halfACircle();
    x.set(PATIENCE, 5);
    x.set(BREAK, 1);
    int[] first = {0, 1, 5, 1, 1, 5, 2, 0, 0, 0, 5};
    for (int what = 0; what <= 10; what++) due(first[what], x.count(what));
    x.request(1, READ, 0, 2, 1);
    x.ticks(5);
    type(x, "t1");
    int[] then = {5, 0, 5, 1, 1, 5, 3, 1, 1, 2, 6};
    for (int what = 0; what <= 10; what++) due(then[what], x.count(what));
  }

  private static void firstForThatJustFits() {
    promise(18);
    MeanLocks x = new MeanLocks();
    x.request(1, WRITE, 0, 10, 0);
    x.request(1, WRITE, 20, 30, 0);
    x.request(1, WRITE, 290, 299, 0);
    due(10, x.firstFor(0, READ, 10, 0));
    due(10, x.firstFor(0, READ, 10, 10));
    due(30, x.firstFor(0, READ, 10, 11));
    due(11, x.firstFor(0, READ, 9, 11));
    due(30, x.firstFor(0, READ, 11, 0));
    due(30, x.firstFor(0, READ, 260, 0));
    due(NONE, x.firstFor(0, READ, 261, 0));
    due(NONE, x.firstFor(0, READ, 260, 31));
    due(31, x.firstFor(0, READ, 259, 31));
    due(299, x.firstFor(0, READ, 1, 290));
    due(299, x.firstFor(0, READ, 1, 299));
    due(NONE, x.firstFor(0, READ, 2, 290));
    due(0, x.firstFor(1, WRITE, 300, 0));
    due(NONE, x.firstFor(1, WRITE, 300, 1));
    due(1, x.firstFor(1, WRITE, 299, 1));
    due(NONE, x.firstFor(1, WRITE, 2, 299));
  }

  private static void longestForOfOnePlace() {
    promise(19);
    MeanLocks x = new MeanLocks();
    x.request(1, WRITE, 1, 300, 0);
    due(0, x.longestFor(0, READ, 0));
    due(1, x.longestFor(0, READ, 1));
    x.request(2, WRITE, 0, 1, 0);
    due(NONE, x.longestFor(0, READ, 0));
    due(NONE, x.longestFor(0, READ, 1));
    x.free(1, 299, 300);
    due(299, x.longestFor(0, READ, 0));
    due(1, x.longestFor(0, READ, 1));
  }

  private static void ofSeveralLongestTheFirst() {
    promise(19);
    MeanLocks x = new MeanLocks();
    x.request(1, WRITE, 100, 101, 0);
    x.request(1, WRITE, 201, 202, 0);
    // 0 to 99 and 101 to 200 have 100 places each, 202 to 299 have 98.
    due(0, x.longestFor(0, READ, 0));
    due(100, x.longestFor(0, READ, 1));
    x.request(1, WRITE, 99, 100, 0);
    due(101, x.longestFor(0, READ, 0));
    due(100, x.longestFor(0, READ, 1));
    x.request(1, WRITE, 200, 201, 0);
    due(0, x.longestFor(0, READ, 0));
    due(99, x.longestFor(0, READ, 1));
    x.request(1, WRITE, 0, 2, 0);
    x.request(1, WRITE, 198, 200, 0);
    due(202, x.longestFor(0, READ, 0));
    due(98, x.longestFor(0, READ, 1));
  }

  private static void givenIfOneLeavesWhoHasNothing() {
    promise(20);
    MeanLocks x = new MeanLocks();
    x.request(0, READ, 0, 1, 0);
    x.request(1, WRITE, 0, 10, 1);
    x.request(2, READ, 9, 10, 1);
    due(0, x.givenIf(3));
    due(0, x.givenIf(2));
    // Only its request is in the way of owner 2.
    due(4, x.givenIf(1));
    // Owner 1's request is given then, and goes on being in the way.
    due(2, x.givenIf(0));
    due(2, x.count(1));
  }

  private static void theGreatestBarOfSeveralTheLowest() {
    promise(21);
    MeanLocks x = new MeanLocks();
    for (int owner = 0; owner < 4; owner++) x.request(owner, WRITE, owner, owner + 1, 0);
    due(NONE, x.greatestBar(0));
    x.request(7, READ, 3, 4, 1);
    due(3, x.greatestBar(0));
    due(1, x.greatestBar(1));
    x.request(6, READ, 2, 3, 1);
    due(2, x.greatestBar(0));
    x.request(5, READ, 0, 1, 1);
    due(0, x.greatestBar(0));
    due(1, x.greatestBar(1));
    x.request(4, READ, 3, 4, 1);
    due(3, x.greatestBar(0));
    due(2, x.greatestBar(1));
    // Nobody's leaving alone would help one who waits for two.
    MeanLocks y = new MeanLocks();
    y.request(0, READ, 0, 1, 0);
    y.request(1, READ, 0, 1, 0);
    y.request(2, WRITE, 0, 1, 1);
    due(NONE, y.greatestBar(0));
    due(NONE, y.greatestBar(1));
  }

  private static void sevenAreGivenIfOneLeaves() {
    promise(21);
    MeanLocks x = new MeanLocks();
    x.request(7, WRITE, 0, 300, 0);
    for (int owner = 0; owner < 7; owner++) x.request(owner, READ, 0, 300, 1);
    due(127, x.givenIf(7));
    due(7, x.greatestBar(0));
    due(7, x.greatestBar(1));
  }

  // ---- undo and saving

  private static void sixStatesAndTheOldestIsDropped() {
    promise(26);
    for (int changes = 0; changes <= 9; changes++) {
      MeanLocks x = new MeanLocks();
      for (int i = 0; i < changes; i++) x.ticks(1);
      int kept = Math.min(changes, 6);
      due(kept, x.count(10));
      for (int left = kept - 1; left >= 0; left--) {
        due(left, x.undo());
        due(changes - kept + left, x.count(0));
        due(left, x.count(10));
      }
      due(NOT_POSSIBLE, x.undo());
      due(changes - kept, x.count(0));
    }
  }

  private static void undoneStatesAreGone() {
    promise(26);
    MeanLocks x = new MeanLocks();
    for (int i = 0; i < 6; i++) x.ticks(1);
    for (int i = 0; i < 4; i++) x.undo();
    due(2, x.count(0));
    for (int i = 0; i < 3; i++) x.ticks(10);
    due(5, x.count(10));
    int[] ticks = {22, 12, 2, 1, 0};
    for (int i = 0; i < 5; i++) {
      due(4 - i, x.undo());
      due(ticks[i], x.count(0));
    }
    due(NOT_POSSIBLE, x.undo());
  }

  private static void aChangeThatChangesNothingIsRecorded() {
    promise(26);
    MeanLocks x = new MeanLocks();
    due(0, x.set(BREAK, 0));
    due(1, x.count(10));
    due(0, x.free(0, 0, 300));
    due(2, x.count(10));
    due(0, x.leave(0));
    due(3, x.count(10));
    x.save(0);
    due(0, x.restore(0));
    due(4, x.count(10));
    due(0, carry(x, "t0"));
    due(5, x.count(10));
    due(1, x.request(0, READ, 0, 1, 0));
    due(6, x.count(10));
    due(1, x.request(0, READ, 0, 1, 0));
    due(6, x.count(10));
    due(5, x.undo());
    due(1, x.ofOwner(0, 9));
  }

  private static void whatIsNoChangeIsNotRecorded() {
    promise(26);
    MeanLocks x = new MeanLocks();
    x.ticks(1);
    x.save(0);
    x.save(1);
    x.put('t');
    x.fault();
    x.wipe();
    x.carryOut();
    x.couldGive(0, READ, 0, 1);
    x.givenIf(0);
    x.greatestBar(0);
    due(1, x.count(10));
    due(0, x.undo());
    due(0, x.count(10));
  }

  private static void thePadTheSlotsAndTheHistoryStay() {
    promise(26);
    MeanLocks x = new MeanLocks();
    x.ticks(5);
    type(x, "t1");
    x.save(0);
    x.ticks(2);
    type(x, ";t2");
    due(1, x.undo());
    due(5, x.count(9));
    due(0, x.undo());
    due(5, x.count(9));
    due(5, x.restore(0));
    due(2, x.carryOut());
    due(8, x.count(0));
    due(1, x.undo());
    due(0, x.count(9));
    due(5, x.count(0));
    due(0, x.wipe());
    type(x, "t7");
    due(0, x.undo());
    due(0, x.count(0));
    due(2, x.count(9));
  }

  private static void anEmptySlotAndOneSavedTwice() {
    promise(27);
    for (int slot = 0; slot <= 1; slot++) {
      MeanLocks x = new MeanLocks();
      due(NOT_POSSIBLE, x.restore(slot));
      due(0, x.save(slot));
      due(NOT_POSSIBLE, x.restore(1 - slot));
      x.ticks(3);
      due(0, x.restore(slot));
      due(0, x.count(0));
      x.ticks(4);
      due(4, x.save(slot));
      x.ticks(5);
      due(4, x.restore(slot));
      due(4, x.restore(slot));
      due(NOT_POSSIBLE, x.restore(1 - slot));
    }
  }

  private static void aSlotKeepsWhatWasSaved() {
    promise(28);
    MeanLocks x = new MeanLocks();
    x.request(0, WRITE, 0, 10, 0);
    x.request(1, READ, 0, 10, 1);
    x.save(0);
    for (int i = 0; i < 3; i++) {
      x.leave(0);
      x.ticks(7);
      x.set(PATIENCE, 3);
      due(0, x.restore(0));
      due(10, x.ofOwner(0, 2));
      due(1, x.inRow(0));
      due(0, x.count(5));
      due(0, x.count(0));
    }
    due(6, x.count(10));
  }

  private static void aRestoreIsUndone() {
    promise(28);
    MeanLocks x = new MeanLocks();
    x.save(1);
    x.ticks(9);
    due(0, x.restore(1));
    due(2, x.count(10));
    due(1, x.undo());
    due(9, x.count(0));
    due(0, x.undo());
    due(0, x.count(0));
    // After all was undone the slot still holds it.
    due(0, x.restore(1));
    due(1, x.count(10));
  }

  private static void theLastOfTheCallsThatArePromised() {
    sentence("An object is used for at most 512 calls after it has been made");
    MeanLocks x = new MeanLocks();
    x.request(0, WRITE, 0, 1, 0);
    x.request(1, READ, 0, 1, 1);
    for (int calls = 3; calls <= 509; calls++) due(0, x.ticks(300));
    due(507 * 300, x.count(0));
    due(507 * 300, x.ofOwner(1, 8));
    due(5, x.undo());
    MeanLocks y = new MeanLocks();
    for (int calls = 1; calls <= 511; calls++) due(1, y.request(calls % 8, READ, 0, 300, 0));
    due(511, y.count(6));
  }

  public static void main(String[] args) {
    anEmptyFile();
    setReturnsThePreviousValue();
    fairCanBeSetAsSoonAsNoneWaits();
    settingDoesNotGoThroughTheRow();
    theAnswersOfRequest();
    freeCountsThePlacesThatBecameFree();
    whoFreesGoesOnWaiting();
    cancelReturnsTheTicksWaited();
    cancelGoesThroughTheRow();
    leaveCountsThePlacesThatBecameFree();
    ticksReturnsHowManyWentAway();
    atEachKindAtTheEnds();
    ownersOfEachKind();
    ofOwnerWithAllPlaces();
    ofOwnerWithAWaitingRequest();
    theLongestWait();
    stretchesOfOnePlace();
    aStretchIsAGreatestRangeOfOneKind();
    aRowOfAllEight();
    anEmptyRow();
    whoseRequestDoesNotWaitWaitsForNobody();
    countOfPlaces();
    countOfEverythingElse();
    firstForThatJustFits();
    longestForOfOnePlace();
    ofSeveralLongestTheFirst();
    givenIfOneLeavesWhoHasNothing();
    theGreatestBarOfSeveralTheLowest();
    sevenAreGivenIfOneLeaves();
    sixStatesAndTheOldestIsDropped();
    undoneStatesAreGone();
    aChangeThatChangesNothingIsRecorded();
    whatIsNoChangeIsNotRecorded();
    thePadTheSlotsAndTheHistoryStay();
    anEmptySlotAndOneSavedTwice();
    aSlotKeepsWhatWasSaved();
    aRestoreIsUndone();
    theLastOfTheCallsThatArePromised();
    end("the edges of the promises hold");
  }
}
