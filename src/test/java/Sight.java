import java.util.ArrayList;
import java.util.List;

/** Everything that can be seen of an object: its state, and what its history, its slots and its pad hold. */
final class Sight {
  private Sight() {
  }

  interface Maker {
    MeanLocks make();
  }

  interface Call {
    int on(MeanLocks x);
  }

  /** The state, the length and the fault of the pad, and how many changes can be undone. */
  static String of(MeanLocks x) {
    StringBuilder seen = new StringBuilder("counts");
    for (int what = 0; what <= 10; what++) seen.append(' ').append(x.count(what));
    seen.append(" fault ").append(x.fault()).append(" row");
    for (int place = 0; place <= 8; place++) seen.append(' ').append(x.inRow(place));
    for (int owner = 0; owner < 8; owner++) {
      seen.append(" owner");
      for (int what = 0; what <= 12; what++) seen.append(' ').append(x.ofOwner(owner, what));
      seen.append(" waits for ").append(x.waitsFor(owner));
      int stretches = x.ofOwner(owner, 3);
      for (int stretch = 0; stretch < stretches; stretch++) {
        for (int what = 0; what <= 2; what++) seen.append(what == 0 ? " / " : " ").append(x.stretch(owner, stretch, what));
      }
    }
    return seen.toString();
  }

  /**
   * What is seen at once, after one undo and more, after a restore of each slot, and after the pad was carried
   * out. Each on an object of its own, so that none is used for more calls than are promised.
   */
  static List<String> through(Maker maker, Call call) {
    List<String> all = new ArrayList<>();
    all.add(of(made(maker, call)));
    for (int undone = 1; undone <= 6; undone++) {
      MeanLocks x = made(maker, call);
      int left = 0;
      for (int i = 0; i < undone; i++) left = x.undo();
      all.add(left + " left; " + of(x));
    }
    for (int slot = 0; slot < 2; slot++) {
      MeanLocks x = made(maker, call);
      all.add("restored " + x.restore(slot) + "; " + of(x));
    }
    MeanLocks x = made(maker, call);
    all.add("carried out " + x.carryOut() + "; " + of(x));
    return all;
  }

  private static MeanLocks made(Maker maker, Call call) {
    MeanLocks x = maker.make();
    call.on(x);
    return x;
  }
}
