import java.util.Random;

/** Long runs of calls, drawn with fixed seeds, on the program and on PlainModel: each answer has to be the same. */
public final class ModelTest {
  private static final int RUNS = 600;
  private static final int CALLS = 120;
  private static final int[] EDGES = {-1, 0, 1, 2, 3, 5, 10, 11, 150, 298, 299, 300, 301};

  private final Random random;
  private final MeanLocks x = new MeanLocks();
  private final PlainModel model = new PlainModel();
  private final StringBuilder calls = new StringBuilder();
  private final int owners;
  private final int start;
  private final int width;
  private int wrong;

  private static int refused, broken, brokenTwice, givenByBreaking, impatient, carried, undone, circleLeft, bars;

  private ModelTest(int seed) {
    random = new Random(seed);
    owners = 2 + random.nextInt(7);
    width = 2 + random.nextInt(random.nextInt(4) == 0 ? 290 : 14);
    start = random.nextInt(300 - width);
  }

  private int upTo(int n) {
    return random.nextInt(n);
  }

  private boolean rarely() {
    return upTo(40) == 0;
  }

  private int owner() {
    return rarely() ? upTo(11) - 2 : upTo(owners);
  }

  private int kind() {
    return rarely() ? upTo(7) - 2 : 1 + upTo(3);
  }

  private int place() {
    return rarely() ? EDGES[upTo(EDGES.length)] : start + upTo(width);
  }

  private int behind(int from) {
    if (rarely()) return EDGES[upTo(EDGES.length)];
    return from + 1 + upTo(Math.max(1, start + width - from));
  }

  private void same(String call, int got, int due) {
    calls.append(call).append(" = ").append(got).append('\n');
    if (got == due) return;
    wrong++;
    System.out.println(calls + "due is " + due);
  }

  private void request() {
    int owner = owner(), kind = kind(), from = place(), to = behind(from), wait = rarely() ? upTo(5) - 2 : upTo(8) == 0 ? 0 : 1;
    boolean ring = model.ring(owner, kind, from, to) > 0 && model.waitsFor(owner) == 0;
    int breaks = model.count(8);
    int got = x.request(owner, kind, from, to, wait);
    same("request(" + owner + ", " + kind + ", " + from + ", " + to + ", " + wait + ")", got, model.request(owner, kind, from, to, wait));
    if (ring && wait == 1 && got == -5) refused++;
    if (model.count(8) > breaks) broken++;
    if (model.count(8) > breaks + 1) brokenTwice++;
    if (model.count(8) > breaks && got == 1) givenByBreaking++;
  }

  private void free() {
    int owner = owner(), from = place(), to = behind(from);
    same("free(" + owner + ", " + from + ", " + to + ")", x.free(owner, from, to), model.free(owner, from, to));
    for (int o = 0; o < 8; o++) {
      int from2 = model.ofOwner(o, 6);
      if (from2 >= 0 && model.ring(o, model.ofOwner(o, 5), from2, model.ofOwner(o, 7)) != 0) circleLeft++;
    }
  }

  private void ticks() {
    int ticks = rarely() ? EDGES[upTo(EDGES.length)] : 1 + upTo(4);
    int got = x.ticks(ticks);
    if (got > 0) impatient++;
    same("ticks(" + ticks + ")", got, model.ticks(ticks));
  }

  private void set() {
    int setting = rarely() ? upTo(7) - 2 : upTo(3);
    int value = setting == 2 && upTo(3) > 0 ? upTo(12) : rarely() ? upTo(210) - 2 : upTo(2);
    same("set(" + setting + ", " + value + ")", x.set(setting, value), model.set(setting, value));
  }

  private String number() {
    int n = rarely() ? upTo(400) : start + upTo(width);
    return rarely() ? "0" + n : String.valueOf(n);
  }

  private String order() {
    char letter = "rmwrmwrmwfcxt".charAt(upTo(13));
    int owner = rarely() ? upTo(10) : upTo(owners);
    if (letter == 't') return "t" + (1 + upTo(9));
    if (letter == 'c' || letter == 'x') return letter + "" + owner;
    int from = start + upTo(width);
    String to = rarely() ? number() : String.valueOf(behind(from));
    return letter + "" + owner + ":" + (rarely() ? number() : from) + "-" + to + (letter != 'f' && upTo(3) > 0 ? "!" : "");
  }

  private void text() {
    StringBuilder text = new StringBuilder(order());
    for (int more = upTo(5); more > 0; more--) text.append(';').append(order());
    if (upTo(6) == 0) text.setCharAt(upTo(text.length()), "rmwfcxt0123456789:-!;a ~".charAt(upTo(24)));
    if (upTo(20) == 0) text.setLength(upTo(text.length()));
    for (int from = 0; from < text.length(); from += 8) {
      put(text.substring(from, Math.min(from + 8, text.length())));
      same("fault()", x.fault(), model.fault());
    }
    int got = x.carryOut();
    if (got > 1) carried++;
    same("carryOut()", got, model.carryOut());
    if (got < 0 || upTo(9) == 0) same("wipe()", x.wipe(), model.wipe());
  }

  private void put(String characters) {
    long number = 0;
    for (int i = 0; i < characters.length(); i++) number = number << 8 | characters.charAt(i);
    if (rarely()) number = random.nextLong() >>> upTo(64);
    same("put(" + number + ")", x.put(number), model.put(number));
  }

  private void change() {
    int which = upTo(60);
    if (which < 30) request();
    else if (which < 37) free();
    else if (which < 40) ticks();
    else if (which < 43) set();
    else if (which < 47) text();
    else if (which < 50) {
      int owner = owner();
      same("cancel(" + owner + ")", x.cancel(owner), model.cancel(owner));
    } else if (which < 52) {
      int owner = owner();
      same("leave(" + owner + ")", x.leave(owner), model.leave(owner));
    } else if (which < 55) {
      int slot = rarely() ? upTo(5) - 2 : upTo(2);
      same("save(" + slot + ")", x.save(slot), model.save(slot));
    } else if (which < 57) {
      int slot = rarely() ? upTo(5) - 2 : upTo(2);
      same("restore(" + slot + ")", x.restore(slot), model.restore(slot));
    } else {
      for (int times = 1 + upTo(8); times > 0; times--) {
        int got = x.undo();
        if (got >= 0) undone++;
        same("undo()", got, model.undo());
      }
    }
  }

  private void compareAll() {
    for (int what = -1; what <= 11; what++) same("count(" + what + ")", x.count(what), model.count(what));
    for (int place = -1; place <= 8; place++) same("inRow(" + place + ")", x.inRow(place), model.inRow(place));
    for (int owner = -1; owner <= 8; owner++) {
      for (int what = -1; what <= 13; what++) {
        same("ofOwner(" + owner + ", " + what + ")", x.ofOwner(owner, what), model.ofOwner(owner, what));
      }
      same("waitsFor(" + owner + ")", x.waitsFor(owner), model.waitsFor(owner));
      int place = place();
      same("at(" + owner + ", " + place + ")", x.at(owner, place), model.at(owner, place));
    }
    for (int kind = -1; kind <= 4; kind++) {
      int place = place();
      same("owners(" + place + ", " + kind + ")", x.owners(place, kind), model.owners(place, kind));
    }
    int owner = owner();
    for (int stretch = -1; stretch <= Math.max(0, x.ofOwner(owner, 3)); stretch++) {
      for (int what = -1; what <= 3; what++) {
        same("stretch(" + owner + ", " + stretch + ", " + what + ")", x.stretch(owner, stretch, what), model.stretch(owner, stretch, what));
      }
    }
  }

  private void compareWhatIf() {
    int owner = owner(), kind = kind(), from = place(), to = behind(from);
    String ask = "(" + owner + ", " + kind + ", " + from + ", " + to + ")";
    same("couldGive" + ask, x.couldGive(owner, kind, from, to), model.couldGive(owner, kind, from, to));
    same("inTheWay" + ask, x.inTheWay(owner, kind, from, to), model.inTheWay(owner, kind, from, to));
    same("ring" + ask, x.ring(owner, kind, from, to), model.ring(owner, kind, from, to));
    int length = rarely() ? EDGES[upTo(EDGES.length)] : 1 + upTo(width);
    same("firstFor(" + owner + ", " + kind + ", " + length + ", " + from + ")", x.firstFor(owner, kind, length, from), model.firstFor(owner, kind, length, from));
    int what = rarely() ? upTo(5) - 2 : upTo(2);
    same("longestFor(" + owner + ", " + kind + ", " + what + ")", x.longestFor(owner, kind, what), model.longestFor(owner, kind, what));
    same("givenIf(" + owner + ")", x.givenIf(owner), model.givenIf(owner));
    same("greatestBar(" + what + ")", x.greatestBar(what), model.greatestBar(what));
    if (model.greatestBar(1) > 1) bars++;
  }

  private boolean run() {
    if (upTo(3) > 0) same("set(1, 1)", x.set(1, 1), model.set(1, 1));
    if (upTo(4) == 0) same("set(0, 0)", x.set(0, 0), model.set(0, 0));
    for (int i = 0; i < CALLS && wrong == 0; i++) {
      change();
      compareWhatIf();
      if (upTo(4) == 0) compareAll();
    }
    compareAll();
    return wrong == 0;
  }

  public static void main(String[] args) {
    int runs = args.length > 0 ? Integer.parseInt(args[0]) : RUNS;
    int bad = 0;
    for (int seed = 0; seed < runs && bad == 0; seed++) {
      if (!new ModelTest(seed).run()) {
        bad++;
        System.out.println("the run of seed " + seed + " has a wrong answer");
      }
    }
    int[] met = {refused, broken, brokenTwice, givenByBreaking, impatient, carried, undone, circleLeft, bars};
    String[] names = {"refused", "broken", "broken twice", "given by breaking", "impatient", "carried", "undone", "circle left by free()", "bars of more than one"};
    for (int i = 0; i < met.length; i++) {
      System.out.println(names[i] + ": " + met[i]);
      if (met[i] == 0) bad++;
    }
    System.out.println(bad == 0 ? "the program answers as the plain model does" : "failed");
    if (bad != 0) System.exit(1);
  }
}
