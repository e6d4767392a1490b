/** The sentences under "Terms" that name a boundary, each in a test of its own: settings to ticks. */
public final class TermsTest extends Check {
  private static final boolean[][] TOGETHER = {
      {true, true, true, true}, {true, true, true, false}, {true, true, false, false}, {true, false, false, false}};

  // ---- conventions and settings

  private static void noneIsReturnedOnlyIfNoErrorApplies() {
    sentence("NONE is not an error; it is returned only if no error applies");
    MeanLocks x = new MeanLocks();
    x.request(7, WRITE, 0, 300, 0);
    due(NONE, x.ofOwner(0, 4));
    due(NO_SUCH, x.ofOwner(8, 4));
    due(NONE, x.firstFor(0, READ, 300, 0));
    due(NO_SUCH, x.firstFor(8, READ, 300, 0));
    due(BAD_VALUE, x.firstFor(0, READ, 301, 0));
    due(NONE, x.longestFor(0, READ, 1));
    due(NO_SUCH, x.longestFor(8, READ, 1));
    due(BAD_VALUE, x.longestFor(0, READ, 2));
    due(NONE, x.greatestBar(1));
    due(BAD_VALUE, x.greatestBar(2));
  }

  private static void everythingIsNumberedFromZero() {
    sentence("Everything is numbered from 0");
    MeanLocks x = new MeanLocks();
    due(1, x.request(0, WRITE, 0, 1, 0));
    due(0, x.request(1, READ, 0, 1, 1));
    due(WRITE, x.at(0, 0));
    due(0, x.stretch(0, 0, 1));
    due(1, x.inRow(0));
    due(0, x.ofOwner(1, 4));
    due(0, x.ofOwner(1, 6));
    due(0, x.longestFor(0, WRITE, 0));
    due(0, faultOf("?"));
  }

  private static void setsAreBitMasks() {
    sentence("Sets of owners are bit masks");
    for (int owner = 0; owner < 8; owner++) {
      MeanLocks x = new MeanLocks();
      int other = (owner + 1) % 8;
      x.request(owner, WRITE, 5, 6, 0);
      x.request(other, WRITE, 5, 6, 1);
      due(1 << owner, x.owners(5, WRITE));
      due(255 - (1 << owner), x.owners(5, FREE));
      due(1 << owner, x.waitsFor(other));
      due(1 << owner, x.inTheWay(other, READ, 5, 6));
      due(1 << other, x.givenIf(owner));
    }
    MeanLocks x = new MeanLocks();
    due(255, x.owners(0, FREE));
    for (int owner = 0; owner < 8; owner++) x.request(owner, READ, 0, 1, 0);
    due(255, x.owners(0, READ));
    due(127, x.inTheWay(7, WRITE, 0, 1));
    due(254, x.inTheWay(0, WRITE, 0, 1));
  }

  private static void theTickIsZeroAtFirst() {
    sentence("The tick is 0 at first");
    MeanLocks x = new MeanLocks();
    due(0, x.count(0));
    due(0, x.save(0));
    x.ticks(1);
    due(1, x.count(0));
    due(1, x.save(1));
  }

  private static void eachSettingHasItsRangeAndItsFirstValue() {
    sentence("FAIR (0 or 1; 1). BREAK (0 or 1; 0). PATIENCE (0 to 200; 0)");
    MeanLocks x = new MeanLocks();
    int[] first = {1, 0, 0};
    int[] most = {1, 1, 200};
    for (int setting = FAIR; setting <= PATIENCE; setting++) {
      due(first[setting], x.count(3 + setting));
      int before = first[setting];
      for (int value = 0; value <= most[setting]; value++) {
        due(before, x.set(setting, value));
        before = value;
      }
      for (int value : new int[] {LEAST, -1, most[setting] + 1, GREATEST}) due(BAD_VALUE, x.set(setting, value));
      due(most[setting], x.count(3 + setting));
    }
  }

  private static void patienceOfZeroNeverEnds() {
    sentence("PATIENCE, in ticks (0: it never ends)");
    MeanLocks x = new MeanLocks();
    x.request(0, WRITE, 0, 1, 0);
    x.request(1, WRITE, 0, 1, 1);
    for (int i = 1; i <= 20; i++) due(0, x.ticks(300));
    due(6000, x.ofOwner(1, 8));
    due(1, x.inRow(0));
    due(0, x.count(7));
  }

  // ---- places, owners, kinds

  private static void eachOwnerIsFreeAtFirst() {
    sentence("FREE (0, at first)");
    MeanLocks x = new MeanLocks();
    for (int place = 0; place < 300; place++) due(255, x.owners(place, FREE));
    for (int kind = READ; kind <= WRITE; kind++) due(0, x.owners(0, kind) + x.owners(299, kind));
  }

  private static void aGreaterNumberIsAStrongerKind() {
    sentence("a greater number is a stronger kind");
    for (int has = FREE; has <= WRITE; has++) {
      for (int asks = READ; asks <= WRITE; asks++) {
        MeanLocks x = new MeanLocks();
        // Somebody has to keep owner 2 waiting; owner 0 only if owner 1 has no lock.
        x.request(has == FREE ? 0 : 1, has == FREE ? READ : has, 5, 6, 0);
        due(0, x.request(2, WRITE, 5, 6, 1));
        due(has >= asks ? 1 : NOT_POSSIBLE, x.request(1, asks, 5, 6, 0));
        due(has >= asks ? asks : has, x.at(1, 5));
      }
    }
  }

  private static void twoKindsGoTogetherAsLocks() {
    sentence("Two kinds go together if one of them is FREE, or both are READ, or one is READ and the other one is MEAN");
    for (int has = FREE; has <= WRITE; has++) {
      for (int asks = READ; asks <= WRITE; asks++) {
        MeanLocks x = new MeanLocks();
        if (has != FREE) x.request(3, has, 7, 8, 0);
        boolean together = TOGETHER[has][asks];
        due(together ? 1 : 0, x.couldGive(4, asks, 7, 8));
        due(together ? 0 : 8, x.inTheWay(4, asks, 7, 8));
        due(together ? 1 : NOT_POSSIBLE, x.request(4, asks, 7, 8, 0));
        due(together ? asks : FREE, x.at(4, 7));
      }
    }
  }

  private static void twoKindsGoTogetherAsRequests() {
    sentence("(with FAIR as 1) with that of a request of another owner that waits ahead of it");
    for (int fair = 0; fair <= 1; fair++) {
      for (int waits = READ; waits <= WRITE; waits++) {
        for (int asks = READ; asks <= WRITE; asks++) {
          MeanLocks x = new MeanLocks();
          x.set(FAIR, fair);
          x.request(0, WRITE, 8, 9, 0);
          due(0, x.request(3, waits, 7, 9, 1));
          boolean given = fair == 0 || TOGETHER[waits][asks];
          due(given ? 1 : 0, x.couldGive(4, asks, 7, 8));
          due(given ? 0 : 8, x.inTheWay(4, asks, 7, 8));
          due(given ? 1 : 0, x.request(4, asks, 7, 8, 1));
          due(given ? 0 : 8, x.waitsFor(4));
        }
      }
    }
  }

  private static void aRangeOfOnePlace() {
    sentence("A range is told by its first place (from, 0 to 299) and the place behind its last one (to, from + 1 to 300)");
    for (int place : new int[] {0, 1, 150, 298, 299}) {
      MeanLocks x = new MeanLocks();
      due(1, x.request(5, WRITE, place, place + 1, 0));
      due(1, x.ofOwner(5, 2));
      due(1, x.count(2));
      due(WRITE, x.at(5, place));
      due(32, x.inTheWay(6, READ, place, place + 1));
      if (place > 0) due(1, x.couldGive(6, READ, 0, place));
      if (place < 299) due(1, x.couldGive(6, READ, place + 1, 300));
      due(0, x.request(6, MEAN, place, place + 1, 1));
      due(place, x.ofOwner(6, 6));
      due(place + 1, x.ofOwner(6, 7));
      due(1, x.free(5, place, place + 1));
      due(MEAN, x.at(6, place));
      due(1, x.count(2));
    }
  }

  private static void aRangeOfAllPlaces() {
    sentence("A range of all 300 places");
    MeanLocks x = new MeanLocks();
    due(1, x.couldGive(5, WRITE, 0, 300));
    due(1, x.request(5, WRITE, 0, 300, 0));
    due(300, x.ofOwner(5, 2));
    due(300, x.count(2));
    due(1, x.ofOwner(5, 3));
    due(300, x.stretch(5, 0, 2));
    due(0, x.request(6, READ, 0, 300, 1));
    due(0, x.ofOwner(6, 6));
    due(300, x.ofOwner(6, 7));
    due(299, x.free(5, 0, 299));
    due(32, x.waitsFor(6));
    due(1, x.free(5, 299, 300));
    due(300, x.ofOwner(6, 0));
    due(300, x.leave(6));
    due(0, x.count(2));
  }

  // ---- requests

  private static void requestsWaitInTheOrderInWhichTheyBegan() {
    sentence("these are in a row, in the order in which they began to wait");
    MeanLocks x = new MeanLocks();
    due(NO_SUCH, x.inRow(0));
    x.request(0, WRITE, 0, 10, 0);
    for (int owner : new int[] {5, 2, 7}) due(0, x.request(owner, READ, owner, owner + 1, 1));
    due(5, x.inRow(0));
    due(2, x.inRow(1));
    due(7, x.inRow(2));
    due(0, x.cancel(5));
    due(0, x.request(5, READ, 5, 6, 1));
    due(2, x.inRow(0));
    due(7, x.inRow(1));
    due(5, x.inRow(2));
    due(NO_SUCH, x.inRow(3));
  }

  private static void anOwnerHasOneWaitingRequestAtMost() {
    sentence("an owner has one waiting request at most");
    MeanLocks x = new MeanLocks();
    x.request(0, WRITE, 0, 10, 0);
    due(0, x.request(1, READ, 0, 1, 1));
    due(NOT_POSSIBLE, x.request(1, READ, 0, 1, 1));
    due(NOT_POSSIBLE, x.request(1, READ, 5, 6, 1));
    // Also if it could be given.
    due(1, x.couldGive(1, READ, 20, 21));
    due(NOT_POSSIBLE, x.request(1, READ, 20, 21, 1));
    due(1, x.count(1));
    due(0, x.cancel(1));
    due(0, x.request(1, READ, 5, 6, 1));
    due(1, x.free(0, 5, 6));
    due(0, x.request(1, READ, 0, 1, 1));
    x.set(PATIENCE, 1);
    due(1, x.ticks(1));
    due(0, x.request(1, READ, 0, 1, 1));
    due(0, x.leave(2));
    due(1, x.leave(1));
    due(0, x.request(1, READ, 0, 1, 1));
  }

  private static void aPlaceOfTheRangeStopsARequest() {
    sentence("A request can be given if no place of its range stops it");
    for (int place = 98; place <= 111; place++) {
      MeanLocks x = new MeanLocks();
      x.request(0, WRITE, place, place + 1, 0);
      boolean inside = place >= 100 && place <= 109;
      due(inside ? 0 : 1, x.couldGive(1, READ, 100, 110));
      due(inside ? 1 : 0, x.inTheWay(1, READ, 100, 110));
      due(inside ? 0 : 1, x.request(1, READ, 100, 110, 1));
      due(inside ? 1 : 0, x.count(1));
    }
  }

  private static void aRequestAheadHasThisPlaceInItsRange() {
    sentence("and has this place in its range");
    for (int fair = 0; fair <= 1; fair++) {
      MeanLocks x = new MeanLocks();
      x.set(FAIR, fair);
      x.request(0, WRITE, 104, 105, 0);
      due(0, x.request(2, WRITE, 100, 110, 1));
      for (int place = 98; place <= 111; place++) {
        int way = place == 104 ? 1 : 0;
        if (fair == 1 && place >= 100 && place <= 109) way |= 4;
        due(way, x.inTheWay(1, READ, place, place + 1));
        due(way == 0 ? 1 : 0, x.couldGive(1, READ, place, place + 1));
      }
      due(fair == 1 ? 5 : 1, x.inTheWay(1, READ, 95, 105));
      due(fair == 1 ? 4 : 0, x.inTheWay(1, READ, 95, 101));
      due(0, x.inTheWay(1, READ, 95, 100));
      due(fair == 1 ? 4 : 0, x.inTheWay(1, READ, 109, 115));
      due(0, x.inTheWay(1, READ, 110, 115));
      due(fair == 1 ? 5 : 1, x.inTheWay(1, READ, 0, 300));
    }
  }

  private static void onlyARequestAheadStops() {
    sentence("that waits ahead of it");
    MeanLocks x = new MeanLocks();
    x.request(0, READ, 0, 1, 0);
    due(0, x.request(2, WRITE, 0, 5, 1));
    due(0, x.request(3, WRITE, 0, 10, 1));
    due(1, x.waitsFor(2));
    due(5, x.waitsFor(3));
    due(1, x.free(0, 0, 1));
    due(WRITE, x.at(2, 4));
    due(3, x.inRow(0));
    due(4, x.waitsFor(3));
  }

  private static void allWaitingRequestsAreAheadOfOneThatDoesNotWait() {
    sentence("(All waiting requests are ahead of one that does not wait.)");
    MeanLocks x = new MeanLocks();
    x.request(0, READ, 0, 1, 0);
    due(0, x.request(2, WRITE, 0, 5, 1));
    due(0, x.request(3, WRITE, 0, 10, 1));
    due(NOT_POSSIBLE, x.request(4, READ, 4, 5, 0));
    due(NOT_POSSIBLE, x.request(4, READ, 9, 10, 0));
    due(1, x.request(4, READ, 10, 11, 0));
  }

  private static void anOwnersOwnLocksAndRequestDoNotStopIt() {
    sentence("of some other owner there");
    for (int has = READ; has <= WRITE; has++) {
      for (int asks = READ; asks <= WRITE; asks++) {
        MeanLocks x = new MeanLocks();
        x.request(1, has, 5, 10, 0);
        due(1, x.request(1, asks, 0, 15, 0));
        due(asks, x.at(1, 5));
      }
    }
    MeanLocks x = new MeanLocks();
    x.request(0, WRITE, 0, 1, 0);
    x.request(1, WRITE, 0, 10, 1);
    due(1, x.couldGive(1, WRITE, 1, 10));
    due(1, x.inTheWay(1, WRITE, 0, 10));
    due(1, x.firstFor(1, WRITE, 1, 0));
    due(299, x.longestFor(1, WRITE, 1));
    due(0, x.couldGive(2, WRITE, 1, 10));
  }

  private static void toGiveARequestMakesAlsoStrongerKindsWeaker() {
    sentence("its owner has this kind at each place of the range then (also where it was stronger)");
    for (int has = FREE; has <= WRITE; has++) {
      for (int asks = READ; asks <= WRITE; asks++) {
        MeanLocks x = new MeanLocks();
        if (has != FREE) x.request(1, has, 0, 10, 0);
        due(1, x.request(1, asks, 2, 8, 0));
        int[] want = {has, has, asks, asks, asks, asks, asks, asks, has, has};
        for (int place = 0; place < 10; place++) due(want[place], x.at(1, place));
        due(FREE, x.at(1, 10));
      }
    }
    MeanLocks x = new MeanLocks();
    x.request(1, WRITE, 0, 5, 0);
    x.request(0, WRITE, 5, 6, 0);
    due(0, x.request(1, READ, 0, 6, 1));
    due(0, x.request(2, READ, 0, 5, 1));
    due(1, x.free(0, 5, 6));
    due(6, x.ofOwner(1, 0));
    due(5, x.ofOwner(2, 0));
  }

  private static void theFirstOfTheRowIsGiven() {
    sentence("as long as some waiting request can be given, the first such one in the row is given, and leaves the row");
    for (int fair = 0; fair <= 1; fair++) {
      MeanLocks x = new MeanLocks();
      x.set(FAIR, fair);
      x.request(0, WRITE, 0, 1, 0);
      x.request(3, WRITE, 0, 1, 1);
      x.request(1, WRITE, 0, 1, 1);
      due(1, x.leave(0));
      due(WRITE, x.at(3, 0));
      due(1, x.inRow(0));
      due(NO_SUCH, x.inRow(1));
      due(1, x.leave(3));
      due(WRITE, x.at(1, 0));
      due(0, x.count(1));
    }
  }

  private static void oneBehindIsGivenIfTheFirstCannotBe() {
    sentence("the first such one");
    for (int fair = 0; fair <= 1; fair++) {
      MeanLocks x = new MeanLocks();
      x.set(FAIR, fair);
      x.request(0, WRITE, 0, 1, 0);
      x.request(5, WRITE, 10, 11, 0);
      x.request(3, WRITE, 0, 11, 1);
      x.request(1, READ, 0, 1, 1);
      due(1, x.free(0, 0, 1));
      due(fair == 1 ? FREE : READ, x.at(1, 0));
      due(3, x.inRow(0));
      due(fair == 1 ? 2 : 1, x.count(1));
    }
  }

  private static void allOfAFullRowAreGivenOneAfterTheOther() {
    sentence("as long as some waiting request can be given");
    MeanLocks x = fullRow();
    due(8, x.count(1));
    due(0, x.cancel(6));
    due(0, x.count(1));
    due(11, x.ofOwner(7, 0));
    for (int owner = 0; owner <= 5; owner++) due(READ, x.at(owner, 21));
  }

  // ---- circles

  private static void nobodyWaitsForItself() {
    sentence("waits for each other owner");
    MeanLocks x = new MeanLocks();
    x.request(0, READ, 0, 5, 0);
    x.request(1, READ, 8, 9, 0);
    due(0, x.ring(0, WRITE, 0, 10));
    due(0, x.request(0, WRITE, 0, 10, 1));
    due(2, x.waitsFor(0));
    due(0, x.ring(0, WRITE, 0, 10));
  }

  private static void aRingOfTwo() {
    sentence("The ring of an owner in a circle (two owners)");
    MeanLocks x = halfACircle();
    due(3, x.ring(1, READ, 0, 2));
    due(3, x.ring(1, READ, 1, 2));
    due(0, x.ring(1, READ, 2, 3));
    due(0, x.ring(1, WRITE, 2, 300));
    due(0, x.ring(1, WRITE, 10, 13));
  }

  /** Owner i has WRITE at place i, and waits for place i + 1; only owner 7 does not wait. */
  private static MeanLocks chainOfEight() {
    MeanLocks x = new MeanLocks();
    for (int owner = 0; owner < 8; owner++) x.request(owner, WRITE, owner, owner + 1, 0);
    for (int owner = 0; owner < 7; owner++) due(0, x.request(owner, READ, owner + 1, owner + 2, 1));
    return x;
  }

  private static void aRingOfAllEight() {
    sentence("The ring of an owner in a circle (all eight owners)");
    MeanLocks x = chainOfEight();
    for (int owner = 0; owner < 7; owner++) due(2 << owner, x.waitsFor(owner));
    for (int place = 0; place < 7; place++) due(255 >> place << place, x.ring(7, READ, place, place + 1));
    due(0, x.ring(7, WRITE, 7, 8));
    due(NOT_POSSIBLE, x.request(7, READ, 0, 1, 1));
    due(7, x.count(1));
    x.set(BREAK, 1);
    due(0, x.request(7, READ, 0, 1, 1));
    due(1, x.count(8));
    due(1, x.ofOwner(7, 11));
    due(FREE, x.at(7, 7));
    due(READ, x.at(6, 7));
    due(7, x.inRow(6));
    due(1, x.waitsFor(7));
  }

  private static void anOwnerWhoWaitsForACircleIsInNone() {
    sentence("back to this owner");
    for (int breaking = 0; breaking <= 1; breaking++) {
      MeanLocks x = circleLeftByFree();
      x.set(BREAK, breaking);
      due(128, x.waitsFor(6));
      due(64, x.waitsFor(7));
      due(0, x.ring(0, READ, 21, 22));
      due(0, x.request(0, READ, 21, 22, 1));
      due(64, x.waitsFor(0));
      due(3, x.count(1));
      due(0, x.count(8));
    }
  }

  private static void aCircleIsLookedForOnlyWhenARequestBeginsToWait() {
    sentence("When a request begins to wait, and its owner is in a circle then");
    MeanLocks x = circleLeftByFree();
    x.set(BREAK, 1);
    due(0, x.ticks(1));
    due(0, x.free(0, 0, 300));
    due(0, x.leave(1));
    due(1, x.request(2, WRITE, 100, 110, 1));
    due(2, x.count(1));
    due(0, x.count(8));
  }

  private static void fewestPlacesAreGivenUp(int first, int second) {
    MeanLocks x = new MeanLocks();
    x.set(BREAK, 1);
    x.request(0, WRITE, 0, first, 0);
    x.request(1, WRITE, 150, 150 + second, 0);
    due(0, x.request(0, READ, 150, 150 + second, 1));
    boolean firstGives = first < second;
    due(firstGives ? 1 : 0, x.request(1, READ, 0, first, 1));
    due(1, x.count(8));
    due(firstGives ? first : 0, x.ofOwner(0, 11));
    due(firstGives ? 0 : second, x.ofOwner(1, 11));
    due(firstGives ? FREE : WRITE, x.at(0, 0));
    due(firstGives ? READ : FREE, x.at(1, first - 1));
    due(firstGives ? WRITE : FREE, x.at(1, 149 + second));
    due(firstGives ? FREE : READ, x.at(0, 149 + second));
    // Who gives up goes on waiting only if its request is not given then.
    due(firstGives ? 0 : 1, x.inRow(0));
    due(1, x.count(1));
  }

  private static void theFewestAndOfSeveralTheHighestNumber() {
    sentence("the one with the fewest such places, of several the one with the highest number, gives these places up");
    int[][] sizes = {{1, 1}, {1, 2}, {2, 1}, {2, 2}, {1, 150}, {150, 1}, {149, 150}, {150, 149}, {150, 150}};
    for (int[] size : sizes) fewestPlacesAreGivenUp(size[0], size[1]);
  }

  private static void ofThreeTheHighestNumber() {
    sentence("of several the one with the highest number");
    int[][] orders = {{5, 2, 3}, {2, 3, 5}, {3, 5, 2}, {5, 3, 2}, {3, 2, 5}, {2, 5, 3}};
    for (int[] o : orders) {
      MeanLocks x = new MeanLocks();
      x.set(BREAK, 1);
      for (int i = 0; i < 3; i++) x.request(o[i], WRITE, i, i + 1, 0);
      due(0, x.request(o[0], READ, 1, 2, 1));
      due(0, x.request(o[1], READ, 2, 3, 1));
      due(44, x.ring(o[2], READ, 0, 1));
      // The one who waits for owner 5 gets its lock.
      due(o[0] == 5 ? 1 : 0, x.request(o[2], READ, 0, 1, 1));
      due(1, x.ofOwner(5, 11));
      due(0, x.ofOwner(2, 11) + x.ofOwner(3, 11));
      due(1, x.count(8));
      due(2, x.count(1));
    }
  }

  private static void onlyPlacesOfTheRangeAreGivenUp() {
    sentence("in whose range this place is");
    MeanLocks x = new MeanLocks();
    x.set(BREAK, 1);
    x.request(0, WRITE, 0, 4, 0);
    x.request(1, WRITE, 10, 20, 0);
    due(0, x.request(0, READ, 12, 15, 1));
    due(0, x.request(1, READ, 0, 9, 1));
    due(3, x.ofOwner(1, 11));
    int[] want = {WRITE, WRITE, FREE, FREE, FREE, WRITE, WRITE, WRITE, WRITE, WRITE};
    for (int place = 10; place < 20; place++) due(want[place - 10], x.at(1, place));
    due(3, x.ofOwner(0, 0));
  }

  private static void onlyRequestsOfTheRingCount() {
    sentence("a waiting request of another owner of the ring");
    MeanLocks x = new MeanLocks();
    x.set(BREAK, 1);
    x.request(0, WRITE, 0, 4, 0);
    x.request(1, WRITE, 10, 20, 0);
    due(0, x.request(0, READ, 12, 15, 1));
    // For this one owner 1 would give up 3 places more than owner 0; but it is in no circle.
    due(0, x.request(2, READ, 16, 19, 1));
    due(0, x.request(1, READ, 0, 9, 1));
    due(3, x.ofOwner(1, 11));
    due(0, x.ofOwner(0, 11));
    due(WRITE, x.at(1, 16));
    due(2, x.waitsFor(2));
  }

  private static void onlyKindsThatDoNotGoTogetherAreGivenUp() {
    sentence("at which the kind of x does not go together with the kind of a waiting request");
    MeanLocks x = new MeanLocks();
    x.set(BREAK, 1);
    x.request(1, READ, 10, 20, 0);
    x.request(1, MEAN, 12, 14, 0);
    x.request(0, WRITE, 0, 5, 0);
    // MEAN goes together with READ, not with MEAN.
    due(0, x.request(0, MEAN, 10, 20, 1));
    due(0, x.request(1, READ, 0, 5, 1));
    due(2, x.ofOwner(1, 11));
    due(READ, x.at(1, 11));
    due(FREE, x.at(1, 12));
    due(FREE, x.at(1, 13));
    due(READ, x.at(1, 14));
    due(10, x.ofOwner(0, 1));
  }

  private static void withoutACircleNothingIsBroken() {
    sentence("With BREAK as 1 the circle is broken (none, no break)");
    MeanLocks x = new MeanLocks();
    x.set(BREAK, 1);
    x.request(0, WRITE, 0, 5, 0);
    due(0, x.request(1, WRITE, 4, 6, 1));
    due(0, x.request(2, WRITE, 4, 6, 1));
    due(0, x.count(8));
    due(5, x.ofOwner(0, 2));
    due(3, x.waitsFor(2));
    // Not told to wait, it breaks none.
    due(1, x.request(3, WRITE, 20, 21, 0));
    due(NOT_POSSIBLE, x.request(0, READ, 20, 21, 0));
    due(0, x.request(0, READ, 20, 21, 1));
    due(9, x.ring(3, READ, 0, 1));
    due(NOT_POSSIBLE, x.request(3, READ, 0, 1, 0));
    due(0, x.count(8));
  }

  /** The eighth request that waits closes a circle of owners 0 and 5. */
  private static void aCircleInAFullRow(int placesOfOwner0) {
    MeanLocks x = circleLeftByFree();
    x.set(BREAK, 1);
    x.request(5, WRITE, 50, 55, 0);
    x.request(0, WRITE, 60, 60 + placesOfOwner0, 0);
    due(0, x.request(0, WRITE, 50, 52, 1));
    for (int owner = 1; owner <= 4; owner++) due(0, x.request(owner, READ, 21, 22, 1));
    due(7, x.count(1));
    due(33, x.ring(5, READ, 60, 60 + placesOfOwner0));
    boolean owner0Gives = placesOfOwner0 < 2;
    due(owner0Gives ? 1 : 0, x.request(5, READ, 60, 60 + placesOfOwner0, 1));
    due(1, x.count(8));
    due(owner0Gives ? placesOfOwner0 : 0, x.ofOwner(0, 11));
    due(owner0Gives ? 0 : 2, x.ofOwner(5, 11));
    due(7, x.count(1));
    due(owner0Gives ? 0 : 1, x.inRow(2));
    due(owner0Gives ? 4 : 5, x.inRow(6));
  }

  private static void aCircleInAFullRowIsBroken() {
    sentence("the circle is broken (in a row of all eight)");
    aCircleInAFullRow(1);
    aCircleInAFullRow(2);
    aCircleInAFullRow(3);
  }

  private static void refusedItDoesNotWait() {
    sentence("With BREAK as 0 the request is refused: it does not wait");
    MeanLocks x = halfACircle();
    due(NOT_POSSIBLE, x.request(1, READ, 1, 2, 1));
    due(NONE, x.ofOwner(1, 4));
    due(0, x.ofOwner(1, 10));
    due(0, x.waitsFor(1));
    due(NO_SUCH, x.inRow(1));
    due(WRITE, x.at(0, 1));
    due(NOT_POSSIBLE, x.cancel(1));
  }

  // ---- ticks

  private static void patienceEndsInItsTickAndNotBefore() {
    sentence("all requests that have waited PATIENCE ticks or more go away");
    for (int patience : new int[] {1, 2, 199, 200}) {
      MeanLocks x = new MeanLocks();
      x.set(PATIENCE, patience);
      x.request(0, WRITE, 0, 1, 0);
      x.request(1, WRITE, 0, 1, 1);
      if (patience > 1) due(0, x.ticks(patience - 1));
      due(1, x.count(1));
      due(patience - 1, x.ofOwner(1, 8));
      due(1, x.ticks(1));
      due(0, x.count(1));
      due(1, x.count(7));
      due(NONE, x.ofOwner(1, 8));
      due(FREE, x.at(1, 0));
      due(patience, x.count(0));
    }
  }

  private static void patienceMadeShorterEndsInTheNextTick() {
    sentence("PATIENCE ticks or more");
    MeanLocks x = new MeanLocks();
    x.request(0, WRITE, 0, 1, 0);
    x.request(1, WRITE, 0, 1, 1);
    x.ticks(50);
    x.request(2, WRITE, 0, 1, 1);
    x.ticks(3);
    due(0, x.set(PATIENCE, 5));
    due(2, x.count(1));
    due(1, x.ticks(1));
    due(2, x.inRow(0));
    due(4, x.ofOwner(2, 8));
    due(5, x.set(PATIENCE, 0));
    due(0, x.ticks(1));
    due(0, x.set(PATIENCE, 200));
    due(0, x.ticks(194));
    due(1, x.ticks(1));
    due(2, x.count(7));
  }

  private static void allGoAwayBeforeTheRowIsGoneThrough() {
    sentence("2. all requests that have waited PATIENCE ticks or more go away. 3. The row is gone through");
    MeanLocks x = new MeanLocks();
    x.set(PATIENCE, 3);
    x.request(0, READ, 0, 1, 0);
    x.request(1, WRITE, 0, 5, 1);
    x.request(2, READ, 4, 5, 1);
    x.ticks(1);
    x.request(3, READ, 3, 4, 1);
    // Owner 2 waits for owner 1 alone, but its own patience ends in the same tick.
    due(2, x.ticks(2));
    due(FREE, x.at(2, 4));
    due(READ, x.at(3, 3));
    due(2, x.ofOwner(3, 12));
    due(0, x.count(1));
    due(2, x.count(7));
    due(0, x.ofOwner(2, 12));
  }

  private static void thoseThatStayKeepTheirOrder() {
    sentence("go away (the others stay in their order)");
    MeanLocks x = new MeanLocks();
    x.request(0, WRITE, 0, 10, 0);
    x.request(4, READ, 0, 1, 1);
    x.ticks(1);
    x.request(1, READ, 1, 2, 1);
    x.request(6, READ, 2, 3, 1);
    x.request(2, READ, 3, 4, 1);
    x.set(PATIENCE, 3);
    due(1, x.ticks(2));
    due(1, x.inRow(0));
    due(6, x.inRow(1));
    due(2, x.inRow(2));
    due(2, x.cancel(6));
    x.request(6, READ, 2, 3, 1);
    due(2, x.ticks(1));
    due(6, x.inRow(0));
    due(1, x.ofOwner(6, 8));
  }

  private static void allOfAFullRowGoAway() {
    sentence("all requests that have waited PATIENCE ticks or more go away (all eight)");
    MeanLocks x = fullRow();
    x.ticks(1);
    x.set(PATIENCE, 2);
    due(8, x.ticks(1));
    due(0, x.count(1));
    due(8, x.count(7));
    due(NO_SUCH, x.inRow(0));
    due(2, x.ofOwner(7, 0));
    due(2, x.count(2));
  }

  private static void theTickIncreasesByOneEachTick() {
    sentence("Then the tick increases by 1");
    MeanLocks x = new MeanLocks();
    int tick = 0;
    for (int ticks : new int[] {1, 2, 3, 299, 300, 300}) {
      due(0, x.ticks(ticks));
      tick += ticks;
      due(tick, x.count(0));
    }
  }

  public static void main(String[] args) {
    noneIsReturnedOnlyIfNoErrorApplies();
    everythingIsNumberedFromZero();
    setsAreBitMasks();
    theTickIsZeroAtFirst();
    eachSettingHasItsRangeAndItsFirstValue();
    patienceOfZeroNeverEnds();
    eachOwnerIsFreeAtFirst();
    aGreaterNumberIsAStrongerKind();
    twoKindsGoTogetherAsLocks();
    twoKindsGoTogetherAsRequests();
    aRangeOfOnePlace();
    aRangeOfAllPlaces();
    requestsWaitInTheOrderInWhichTheyBegan();
    anOwnerHasOneWaitingRequestAtMost();
    aPlaceOfTheRangeStopsARequest();
    aRequestAheadHasThisPlaceInItsRange();
    onlyARequestAheadStops();
    allWaitingRequestsAreAheadOfOneThatDoesNotWait();
    anOwnersOwnLocksAndRequestDoNotStopIt();
    toGiveARequestMakesAlsoStrongerKindsWeaker();
    theFirstOfTheRowIsGiven();
    oneBehindIsGivenIfTheFirstCannotBe();
    allOfAFullRowAreGivenOneAfterTheOther();
    nobodyWaitsForItself();
    aRingOfTwo();
    aRingOfAllEight();
    anOwnerWhoWaitsForACircleIsInNone();
    aCircleIsLookedForOnlyWhenARequestBeginsToWait();
    theFewestAndOfSeveralTheHighestNumber();
    ofThreeTheHighestNumber();
    onlyPlacesOfTheRangeAreGivenUp();
    onlyRequestsOfTheRingCount();
    onlyKindsThatDoNotGoTogetherAreGivenUp();
    withoutACircleNothingIsBroken();
    aCircleInAFullRowIsBroken();
    refusedItDoesNotWait();
    patienceEndsInItsTickAndNotBefore();
    patienceMadeShorterEndsInTheNextTick();
    allGoAwayBeforeTheRowIsGoneThrough();
    thoseThatStayKeepTheirOrder();
    allOfAFullRowGoAway();
    theTickIncreasesByOneEachTick();
    end("the terms hold");
  }
}
