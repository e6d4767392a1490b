/** What the tests by hand share: answers that are due, texts that are typed, and a state that many begin with. */
class Check {
  static final int NO_SUCH = -1, BAD_VALUE = -2, BAD_TEXT = -3, TOO_MANY = -4, NOT_POSSIBLE = -5, NONE = -6;
  static final int FAIR = 0, BREAK = 1, PATIENCE = 2;
  static final int FREE = 0, READ = 1, MEAN = 2, WRITE = 3;
  static final int LEAST = Integer.MIN_VALUE, GREATEST = Integer.MAX_VALUE;

  /** A text of as many characters as a pad holds. */
  static final String FULL_TEXT = "x0;".repeat(26) + "x0";

  private static int wrong = 0;
  private static int step = 0;
  private static String subject = "";

  static void promise(int number) {
    sentence("promise " + number);
  }

  /** Names the words of the document that the next steps are about. */
  static void sentence(String words) {
    subject = words;
    step = 0;
  }

  static void due(int want, int got) {
    step++;
    if (got != want) fault("answered " + got + ", due is " + want);
  }

  static void same(String want, String got) {
    step++;
    if (got.equals(want)) return;
    int first = 0;
    while (first < got.length() && first < want.length() && got.charAt(first) == want.charAt(first)) first++;
    fault("saw " + around(got, first) + ", due is " + around(want, first));
  }

  private static String around(String text, int at) {
    return ".." + text.substring(Math.max(0, at - 100), Math.min(text.length(), at + 30)) + "..";
  }

  private static void fault(String what) {
    wrong++;
    StackTraceElement from = new Throwable().getStackTrace()[2];
    System.out.println(subject + ", step " + step + ", line " + from.getLineNumber() + ": " + what);
  }

  static void end(String good) {
    System.out.println(wrong == 0 ? good : wrong + " answers are not as due");
    if (wrong != 0) System.exit(1);
  }

  static long pack(String characters) {
    long number = 0;
    for (int i = 0; i < characters.length(); i++) number = number << 8 | characters.charAt(i);
    return number;
  }

  static void type(MeanLocks x, String text) {
    for (int i = 0; i < text.length(); i += 8) x.put(pack(text.substring(i, Math.min(i + 8, text.length()))));
  }

  static int carry(MeanLocks x, String text) {
    type(x, text);
    return x.carryOut();
  }

  static int faultOf(String text) {
    MeanLocks x = new MeanLocks();
    type(x, text);
    return x.fault();
  }

  /** Owner 0 has WRITE in 0-2, owner 1 in 10-13; owner 0 waits for WRITE in 10-13. */
  static MeanLocks halfACircle() {
    MeanLocks x = new MeanLocks();
    x.request(0, WRITE, 0, 2, 0);
    x.request(1, WRITE, 10, 13, 0);
    x.request(0, WRITE, 10, 13, 1);
    return x;
  }

  /** Owners 6 and 7 wait for one another, as owner 7 freed a place that it wants. */
  static MeanLocks circleLeftByFree() {
    MeanLocks x = new MeanLocks();
    x.request(4, READ, 20, 21, 0);
    x.request(7, READ, 20, 23, 0);
    x.request(5, WRITE, 30, 31, 0);
    x.request(6, WRITE, 20, 23, 1);
    x.request(7, READ, 20, 31, 1);
    x.free(7, 20, 21);
    x.leave(5);
    x.leave(4);
    return x;
  }

  /** Each owner waits: the row is 6, 7, 0, 1, 2, 3, 4, 5. */
  static MeanLocks fullRow() {
    MeanLocks x = circleLeftByFree();
    for (int owner = 0; owner <= 5; owner++) x.request(owner, READ, 21, 22, 1);
    return x;
  }
}
