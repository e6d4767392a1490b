/** The sentences about texts that name a boundary, each in a test of its own: the pad, the grammar, the fault, the carrying out. */
public final class TextsTest extends Check {
  private static final String DIGITS = "0123456789", OWNERS = "01234567", LETTERS = "rmwfcxt";

  // ---- what can stand at each place

  /** Exactly these characters can stand behind a text: each of the 94 is tried, also with more behind it. */
  private static void behind(String text, String allowed) {
    for (int code = 33; code <= 126; code++) {
      String longer = text + (char) code;
      boolean good = allowed.indexOf(code) >= 0;
      int fault = faultOf(longer);
      due(good ? 1 : 0, fault == text.length() ? 0 : 1);
      if (good && fault != NONE) due(longer.length(), fault);
      due(longer.length() - (good ? 0 : 1), faultOf(longer + "~~"));
    }
  }

  private static void anOrderBeginsWithItsLetter() {
    sentence("order = kind .. | \"f\" .. | \"c\" .. | \"x\" .. | \"t\" .., kind = \"r\" | \"m\" | \"w\"");
    behind("", LETTERS);
    behind("c0;", LETTERS);
    behind("t300;", LETTERS);
    behind("r0:0-300!;", LETTERS);
  }

  private static void anOwnerIsADigitFromZeroToSeven() {
    sentence("An owner is a digit from 0 to 7");
    for (String letter : new String[] {"r", "m", "w", "f", "c", "x"}) behind(letter, OWNERS);
    behind("t1;c", OWNERS);
    for (int owner = 0; owner <= 7; owner++) {
      for (String letter : new String[] {"r", "m", "w", "f"}) behind(letter + owner, ":");
      for (String letter : new String[] {"c", "x"}) behind(letter + owner, ";");
    }
  }

  private static void aNumberHasNoLeadingZeros() {
    sentence("without leading zeros");
    behind("t0", ";");
    behind("r0:0", "-");
    behind("m7:5-0", "!;");
    behind("f3:5-0", ";");
    due(NONE, faultOf("t0"));
    due(2, faultOf("t00"));
    due(2, faultOf("t01"));
    due(2, faultOf("t000"));
    due(4, faultOf("r0:00-1"));
    due(6, faultOf("r0:1-05"));
  }

  private static void aNumberIsAtMostThreeHundred() {
    sentence("A number is 0 to 300 (also of a digit by which a number would be above 300)");
    behind("t", DIGITS);
    for (String number : new String[] {"1", "2", "3", "4", "9", "10", "29", "30", "31", "99", "100", "299", "300"}) {
      int value = Integer.parseInt(number);
      StringBuilder digits = new StringBuilder();
      for (int digit = 0; digit <= 9; digit++) if (value * 10 + digit <= 300) digits.append(digit);
      behind("t" + number, digits + ";");
      behind("r0:" + number, digits + "-");
      behind("r0:0-" + number, digits + "!;");
      behind("f0:" + number, digits + "-");
      behind("f0:0-" + number, digits + ";");
    }
    for (int number = 0; number <= 300; number++) due(NONE, faultOf("t" + number));
    for (int number : new int[] {301, 302, 309, 310, 399, 400, 999}) due(3, faultOf("t" + number));
    for (int number : new int[] {1000, 2999, 3000, 3001, 9999}) due(number < 3010 ? 4 : 3, faultOf("t" + number));
  }

  private static void aRangeIsTwoNumbers() {
    sentence("\":\" number \"-\" number");
    for (String letter : new String[] {"r", "m", "w", "f"}) {
      behind(letter + "0:", DIGITS);
      behind(letter + "0:300-", DIGITS);
    }
    // The text knows no ranges: these are orders, which return an error when they are carried out.
    for (String text : new String[] {"r0:0-0", "w0:300-300!", "f0:300-0", "m0:7-6"}) due(NONE, faultOf(text));
  }

  private static void onlyARequestCanBeToldToWait() {
    sentence("[ \"!\" ]");
    for (String letter : new String[] {"r", "m", "w"}) {
      due(NONE, faultOf(letter + "0:1-2!"));
      behind(letter + "0:1-2!", ";");
    }
    due(6, faultOf("f0:1-2!"));
    due(2, faultOf("c0!"));
    due(2, faultOf("x0!"));
    due(2, faultOf("t1!"));
  }

  /** The order stands whole from a length on; cut shorter it ends too early, also behind another order. */
  private static void cutShort(String order, int whole) {
    for (int length = 1; length <= order.length(); length++) {
      String part = order.substring(0, length);
      due(length >= whole ? NONE : length, faultOf(part));
      due(length >= whole ? NONE : length + 3, faultOf("c0;" + part));
    }
  }

  private static void aTextThatEndsTooEarly() {
    sentence("if there is none and the text ends too early (also if it is empty), it is the length of the text");
    due(0, new MeanLocks().fault());
    due(0, faultOf(""));
    cutShort("r0:10-300!", 7);
    cutShort("m1:200-5!", 8);
    cutShort("w7:0-1", 6);
    cutShort("f3:4-50", 6);
    cutShort("c6", 2);
    cutShort("x7", 2);
    cutShort("t300", 2);
    due(3, faultOf("c0;"));
    due(5, faultOf("t300;"));
    due(11, faultOf("r0:10-300!;"));
  }

  private static void theFirstFaultCounts() {
    sentence("the index of the first character that cannot stand at its place when the text is read from left to right");
    due(0, faultOf("~~~~"));
    due(0, faultOf("8"));
    due(1, faultOf("r~c8"));
    due(4, faultOf("c0;r9;c9"));
    due(3, faultOf("c0;;"));
    due(0, faultOf(";"));
    due(0, faultOf("R0:0-1"));
    due(2, faultOf("c00"));
    due(2, faultOf("r0;c0"));
  }

  // ---- the pad

  private static void eachCodeAtEachPlace() {
    sentence("BAD_VALUE if .. a code is not 33 to 126");
    for (int at = 0; at < 8; at++) {
      for (int code = 0; code <= 255; code++) {
        MeanLocks x = new MeanLocks();
        long number = 0;
        for (int i = 0; i < 8; i++) number |= (long) (i == at ? code : 'a') << 8 * i;
        boolean good = code >= 33 && code <= 126 || code == 0 && at == 7;
        int length = code == 0 ? 7 : 8;
        due(good ? length : BAD_VALUE, x.put(number));
        due(good ? length : 0, x.count(9));
      }
    }
  }

  private static void anythingAboveZeroBits() {
    sentence("8 bits that are 0 mean that there are no more characters, and everything above them has to be 0, too");
    MeanLocks x = new MeanLocks();
    for (int many = 0; many < 7; many++) {
      long number = pack("abcdefgh".substring(0, many));
      for (int bit = 8 * many + 8; bit < 64; bit++) due(BAD_VALUE, new MeanLocks().put(number | 1L << bit));
    }
    due(0, x.count(9));
    due(BAD_VALUE, x.put(0));
    due(BAD_VALUE, x.put(Long.MIN_VALUE));
    due(BAD_VALUE, x.put(Long.MIN_VALUE + 'a'));
    due(BAD_VALUE, x.put(Long.MAX_VALUE));
    due(BAD_VALUE, x.put(-1));
    due(0, x.count(9));
  }

  private static void oneToEightCharacters() {
    sentence("1 to 8 characters; its lowest 8 bits are the last character, the next 8 bits the one before");
    String text = "x0;x1;t9";
    for (int many = 1; many <= 8; many++) {
      MeanLocks x = new MeanLocks();
      due(many, x.put(pack(text.substring(0, many))));
      if (many < 8) due(8, x.put(pack(text.substring(many))));
      due(NONE, x.fault());
      due(3, x.carryOut());
      due(9, x.count(0));
    }
    due(1, new MeanLocks().put(33));
    due(1, new MeanLocks().put(126));
    due(8, new MeanLocks().put(pack("!!!!!!!!")));
    due(8, new MeanLocks().put(pack("~~~~~~~~")));
  }

  private static MeanLocks padOf(int length) {
    MeanLocks x = new MeanLocks();
    type(x, FULL_TEXT.substring(0, length));
    due(length, x.count(9));
    return x;
  }

  private static void thePadIsFullAtEighty() {
    sentence("TOO_MANY if the pad would be longer than 80");
    for (int length = 72; length <= 80; length++) {
      for (int many = 1; many <= 8; many++) {
        MeanLocks x = padOf(length);
        boolean fits = length + many <= 80;
        due(fits ? length + many : TOO_MANY, x.put(pack("~~~~~~~~".substring(0, many))));
        due(fits ? length + many : length, x.count(9));
      }
    }
  }

  private static void aFullPadIsReadAndCarriedOut() {
    sentence("The pad is a text of at most 80 characters");
    MeanLocks x = padOf(80);
    due(NONE, x.fault());
    due(27, x.carryOut());
    due(0, x.count(9));
    due(79, faultOf("x0;".repeat(26) + "x8"));
    due(80, faultOf("x0;".repeat(26) + "r7"));
    due(80, faultOf("t300;".repeat(16)));
    due(0, faultOf("~".repeat(80)));
    MeanLocks y = new MeanLocks();
    due(16, carry(y, "t300;".repeat(15) + "t300"));
    due(4800, y.count(0));
  }

  private static void anEmptyPad() {
    sentence("An empty pad");
    MeanLocks x = new MeanLocks();
    due(0, x.count(9));
    due(0, x.fault());
    due(BAD_TEXT, x.carryOut());
    due(0, x.wipe());
    due(0, x.count(10));
    due(80, wipedAfter(FULL_TEXT));
    due(1, wipedAfter("~"));
  }

  private static int wipedAfter(String text) {
    MeanLocks x = new MeanLocks();
    type(x, text);
    int length = x.wipe();
    due(0, x.count(9));
    due(0, x.fault());
    due(0, x.wipe());
    due(1, x.put('t'));
    due(2, x.put('5'));
    due(1, x.carryOut());
    due(5, x.count(0));
    return length;
  }

  // ---- carrying out

  /** Owner 0 has WRITE in 0-9, owner 1 READ in 20-29; owner 2 has waited 3 ticks for WRITE in 5-24. */
  private static MeanLocks busy() {
    MeanLocks x = new MeanLocks();
    x.request(0, WRITE, 0, 10, 0);
    x.request(1, READ, 20, 30, 0);
    x.request(2, WRITE, 5, 25, 1);
    x.ticks(3);
    return x;
  }

  private static void asIfCalled(String order, Sight.Call call) {
    MeanLocks x = busy();
    MeanLocks y = busy();
    due(1, carry(x, order));
    due(1, call.on(y) >= 0 ? 1 : 0);
    same(Sight.of(y), Sight.of(x));
    due(4, x.undo());
    due(4, y.undo());
    same(Sight.of(y), Sight.of(x));
  }

  private static void eachOrderIsItsCall() {
    sentence("request() of READ, MEAN or WRITE in a range, which waits if there is a \"!\"; free(); cancel(); leave(); so many ticks()");
    asIfCalled("r3:25-27", x -> x.request(3, READ, 25, 27, 0));
    asIfCalled("r3:30-300", x -> x.request(3, READ, 30, 300, 0));
    asIfCalled("m3:100-101", x -> x.request(3, MEAN, 100, 101, 0));
    asIfCalled("w7:299-300!", x -> x.request(7, WRITE, 299, 300, 1));
    asIfCalled("r3:0-1!", x -> x.request(3, READ, 0, 1, 1));
    asIfCalled("m4:28-32!", x -> x.request(4, MEAN, 28, 32, 1));
    asIfCalled("w5:28-32!", x -> x.request(5, WRITE, 28, 32, 1));
    asIfCalled("f0:5-10", x -> x.free(0, 5, 10));
    asIfCalled("f1:0-300", x -> x.free(1, 0, 300));
    asIfCalled("c2", x -> x.cancel(2));
    asIfCalled("x0", x -> x.leave(0));
    asIfCalled("x7", x -> x.leave(7));
    asIfCalled("t1", x -> x.ticks(1));
    asIfCalled("t300", x -> x.ticks(300));
  }

  private static void upToTheFirstOneThatReturnsAnError() {
    sentence("one after the other, up to the first one that returns an error, and empties the pad");
    String[] errors = {"t0", "c0", "r0:5-5", "r0:6-5", "w3:300-300!", "m3:300-0", "f3:300-300", "f0:5-5", "r3:0-1", "w3:29-31",
        "r2:100-101", "r2:100-101!", "r0:24-25!"};
    for (String error : errors) {
      for (int ahead = 0; ahead <= 3; ahead++) {
        MeanLocks x = busy();
        due(ahead, carry(x, "t2;".repeat(ahead) + error + ";t9;x0"));
        due(3 + 2 * ahead, x.count(0));
        due(10, x.ofOwner(0, 2));
        due(0, x.count(9));
        due(5, x.count(10));
        due(4, x.undo());
        same(Sight.of(busy()), Sight.of(x));
        due(0, x.count(9));
      }
    }
  }

  private static void thatItIsRefusedForACircle() {
    sentence("an order that is refused as its owner would be in a circle");
    MeanLocks x = halfACircle();
    due(1, carry(x, "t1;r1:1-2!;t1"));
    due(1, x.count(0));
    due(1, x.count(1));
    x.set(BREAK, 1);
    due(3, carry(x, "t1;r1:1-2!;t1"));
    due(3, x.count(0));
    due(1, x.count(8));
  }

  private static void aPadWithAFaultStays() {
    sentence("BAD_TEXT if the pad has a fault (then it stays)");
    for (String text : new String[] {"t5;", "t5;x8", "~", "t5;t301", "x0;t5;c", "t300;".repeat(16)}) {
      MeanLocks x = busy();
      type(x, text);
      String before = Sight.of(x);
      due(BAD_TEXT, x.carryOut());
      same(before, Sight.of(x));
      due(text.length(), x.count(9));
      due(3, x.count(0));
    }
    MeanLocks x = new MeanLocks();
    type(x, "t5;t");
    due(BAD_TEXT, x.carryOut());
    due(5, x.put('7'));
    due(2, x.carryOut());
    due(12, x.count(0));
  }

  private static void oneChangeWithAllOfThem() {
    sentence("This is a change (one, with all of them; also if none is carried out). An order of a text records nothing by itself");
    MeanLocks x = new MeanLocks();
    due(27, carry(x, FULL_TEXT));
    due(1, x.count(10));
    due(8, carry(x, "r0:0-9;m1:0-9;t4;f0:1-2;w2:0-1!;c2;x1;t1"));
    due(2, x.count(10));
    due(0, carry(x, "t0"));
    due(3, x.count(10));
    due(2, x.undo());
    due(8, x.ofOwner(0, 0));
    due(1, x.undo());
    due(0, x.count(0));
    due(0, x.ofOwner(0, 0));
    due(0, x.undo());
    due(NOT_POSSIBLE, x.undo());
  }

  public static void main(String[] args) {
    anOrderBeginsWithItsLetter();
    anOwnerIsADigitFromZeroToSeven();
    aNumberHasNoLeadingZeros();
    aNumberIsAtMostThreeHundred();
    aRangeIsTwoNumbers();
    onlyARequestCanBeToldToWait();
    aTextThatEndsTooEarly();
    theFirstFaultCounts();
    eachCodeAtEachPlace();
    anythingAboveZeroBits();
    oneToEightCharacters();
    thePadIsFullAtEighty();
    aFullPadIsReadAndCarriedOut();
    anEmptyPad();
    eachOrderIsItsCall();
    upToTheFirstOneThatReturnsAnError();
    thatItIsRefusedForACircle();
    aPadWithAFaultStays();
    oneChangeWithAllOfThem();
    end("the texts are read and carried out as told");
  }
}
