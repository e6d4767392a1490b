import java.util.ArrayDeque;
import java.util.ArrayList;
import java.util.Deque;
import java.util.HashSet;
import java.util.List;
import java.util.Set;
import java.util.regex.Matcher;
import java.util.regex.Pattern;

/**
 * The document once more, as literally and as slowly as can be, and with nothing of the program's: kinds
 * in a table, requests in a list, places asked one by one, circles by walking, states as whole copies.
 */
final class PlainModel {
  static final int NO_SUCH = -1, BAD_VALUE = -2, BAD_TEXT = -3, TOO_MANY = -4, NOT_POSSIBLE = -5, NONE = -6;

  private static final class Request {
    int owner, kind, from, to, waited;

    Request(int owner, int kind, int from, int to) {
      this.owner = owner;
      this.kind = kind;
      this.from = from;
      this.to = to;
    }

    boolean covers(int place) {
      return from <= place && place < to;
    }

    Request copy() {
      Request r = new Request(owner, kind, from, to);
      r.waited = waited;
      return r;
    }
  }

  private static final class World {
    int[] settings = {1, 0, 0};
    int tick;
    int[][] kind = new int[8][300];
    List<Request> row = new ArrayList<>();
    int[][] numbers = new int[8][13];
    int given, gone, gaveUp;

    World copy() {
      World w = new World();
      w.settings = settings.clone();
      w.tick = tick;
      for (int o = 0; o < 8; o++) {
        w.kind[o] = kind[o].clone();
        w.numbers[o] = numbers[o].clone();
      }
      for (Request r : row) w.row.add(r.copy());
      w.given = given;
      w.gone = gone;
      w.gaveUp = gaveUp;
      return w;
    }

    Request requestOf(int owner) {
      for (Request r : row) if (r.owner == owner) return r;
      return null;
    }

    List<Request> aheadOf(Request r) {
      int at = row.indexOf(r);
      return at < 0 ? row : row.subList(0, at);
    }

    boolean goTogether(int a, int b) {
      if (a == 0 || b == 0) return true;
      if (a == 1 && b == 1) return true;
      return a == 1 && b == 2 || a == 2 && b == 1;
    }

    boolean lockAgainst(Request r, int place, int other) {
      return other != r.owner && !goTogether(r.kind, kind[other][place]);
    }

    boolean requestAgainst(Request r, int place, Request other) {
      return settings[0] == 1 && other.owner != r.owner && other.covers(place) && !goTogether(r.kind, other.kind);
    }

    boolean stops(Request r, int place) {
      if (kind[r.owner][place] >= r.kind) return false;
      for (int other = 0; other < 8; other++) if (lockAgainst(r, place, other)) return true;
      for (Request other : aheadOf(r)) if (requestAgainst(r, place, other)) return true;
      return false;
    }

    boolean canBeGiven(Request r) {
      for (int p = r.from; p < r.to; p++) if (stops(r, p)) return false;
      return true;
    }

    void give(Request r) {
      for (int p = r.from; p < r.to; p++) kind[r.owner][p] = r.kind;
      given++;
      numbers[r.owner][9]++;
    }

    Set<Integer> goThrough() {
      Set<Integer> set = new HashSet<>();
      boolean again = true;
      while (again) {
        again = false;
        for (Request r : row) {
          if (!canBeGiven(r)) continue;
          row.remove(r);
          give(r);
          numbers[r.owner][12] = Math.max(numbers[r.owner][12], r.waited);
          set.add(r.owner);
          again = true;
          break;
        }
      }
      return set;
    }

    Set<Integer> waitsFor(int owner) {
      Set<Integer> set = new HashSet<>();
      Request r = requestOf(owner);
      if (r == null) return set;
      for (int p = r.from; p < r.to; p++) {
        if (!stops(r, p)) continue;
        for (int other = 0; other < 8; other++) if (lockAgainst(r, p, other)) set.add(other);
        for (Request other : aheadOf(r)) if (requestAgainst(r, p, other)) set.add(other.owner);
      }
      return set;
    }

    Set<Integer> waitsInStepsFor(int owner) {
      Set<Integer> seen = new HashSet<>();
      Deque<Integer> open = new ArrayDeque<>(waitsFor(owner));
      while (!open.isEmpty()) {
        int next = open.poll();
        if (seen.add(next)) open.addAll(waitsFor(next));
      }
      return seen;
    }

    Set<Integer> ring(int owner) {
      Set<Integer> set = new HashSet<>();
      for (int x : waitsInStepsFor(owner)) if (waitsInStepsFor(x).contains(owner)) set.add(x);
      return set;
    }

    List<Integer> wouldGiveUp(int x, Set<Integer> ring) {
      List<Integer> places = new ArrayList<>();
      for (int p = 0; p < 300; p++) {
        boolean up = false;
        for (int y : ring) {
          Request r = requestOf(y);
          if (y != x && r != null && r.covers(p) && kind[y][p] < r.kind && !goTogether(kind[x][p], r.kind)) up = true;
        }
        if (up) places.add(p);
      }
      return places;
    }

    void breakCircle(Set<Integer> ring) {
      int giver = -1;
      List<Integer> fewest = null;
      for (int x = 7; x >= 0; x--) {
        if (!ring.contains(x)) continue;
        List<Integer> places = wouldGiveUp(x, ring);
        if (!places.isEmpty() && (fewest == null || places.size() < fewest.size())) {
          fewest = places;
          giver = x;
        }
      }
      if (fewest == null) throw new IllegalStateException("a circle without a place to give up");
      for (int p : fewest) kind[giver][p] = 0;
      numbers[giver][11] += fewest.size();
      gaveUp++;
      goThrough();
    }

    int request(int owner, int kind, int from, int to, int wait) {
      if (owner < 0 || owner > 7) return NO_SUCH;
      if (kind < 1 || kind > 3 || badRange(from, to) || wait != 0 && wait != 1) return BAD_VALUE;
      if (requestOf(owner) != null) return NOT_POSSIBLE;
      Request r = new Request(owner, kind, from, to);
      if (canBeGiven(r)) {
        give(r);
        goThrough();
        return 1;
      }
      if (wait == 0) return NOT_POSSIBLE;
      row.add(r);
      if (settings[1] == 0 && !ring(owner).isEmpty()) {
        row.remove(r);
        return NOT_POSSIBLE;
      }
      numbers[owner][10]++;
      while (!ring(owner).isEmpty()) breakCircle(ring(owner));
      return row.contains(r) ? 0 : 1;
    }

    int free(int owner, int from, int to) {
      if (owner < 0 || owner > 7) return NO_SUCH;
      if (badRange(from, to)) return BAD_VALUE;
      int n = 0;
      for (int p = from; p < to; p++) {
        if (kind[owner][p] != 0) n++;
        kind[owner][p] = 0;
      }
      goThrough();
      return n;
    }

    int cancel(int owner) {
      if (owner < 0 || owner > 7) return NO_SUCH;
      Request r = requestOf(owner);
      if (r == null) return NOT_POSSIBLE;
      row.remove(r);
      goThrough();
      return r.waited;
    }

    Set<Integer> givenByLeaving(int owner) {
      row.remove(requestOf(owner));
      kind[owner] = new int[300];
      return goThrough();
    }

    int leave(int owner) {
      if (owner < 0 || owner > 7) return NO_SUCH;
      int n = 0;
      for (int p = 0; p < 300; p++) if (kind[owner][p] != 0) n++;
      givenByLeaving(owner);
      return n;
    }

    int ticks(int ticks) {
      if (ticks < 1 || ticks > 300) return BAD_VALUE;
      int before = gone;
      for (int i = 0; i < ticks; i++) {
        for (Request r : row) r.waited++;
        int size = row.size();
        if (settings[2] > 0) row.removeIf(r -> r.waited >= settings[2]);
        gone += size - row.size();
        goThrough();
        tick++;
      }
      return gone - before;
    }
  }

  private static boolean badRange(int from, int to) {
    return from < 0 || from > 299 || to < from + 1 || to > 300;
  }

  private static int bits(Set<Integer> set) {
    int bits = 0;
    for (int x : set) bits |= 1 << x;
    return bits;
  }

  private World now = new World();
  private final List<World> history = new ArrayList<>();
  private final World[] slots = new World[2];
  private String pad = "";

  private int recorded(World before, int answer) {
    if (answer < 0) {
      now = before;
      return answer;
    }
    history.add(before);
    if (history.size() > 6) history.remove(0);
    return answer;
  }

  int set(int setting, int value) {
    if (setting < 0 || setting > 2 || value < 0 || value > new int[] {1, 1, 200}[setting]) return BAD_VALUE;
    if (setting == 0 && !now.row.isEmpty()) return NOT_POSSIBLE;
    World before = now.copy();
    int previous = now.settings[setting];
    now.settings[setting] = value;
    return recorded(before, previous);
  }

  int request(int owner, int kind, int from, int to, int wait) {
    World before = now.copy();
    return recorded(before, now.request(owner, kind, from, to, wait));
  }

  int free(int owner, int from, int to) {
    World before = now.copy();
    return recorded(before, now.free(owner, from, to));
  }

  int cancel(int owner) {
    World before = now.copy();
    return recorded(before, now.cancel(owner));
  }

  int leave(int owner) {
    World before = now.copy();
    return recorded(before, now.leave(owner));
  }

  int ticks(int ticks) {
    World before = now.copy();
    return recorded(before, now.ticks(ticks));
  }

  int at(int owner, int place) {
    if (owner < 0 || owner > 7 || place < 0 || place > 299) return NO_SUCH;
    return now.kind[owner][place];
  }

  int owners(int place, int kind) {
    if (place < 0 || place > 299) return NO_SUCH;
    if (kind < 0 || kind > 3) return BAD_VALUE;
    int set = 0;
    for (int o = 0; o < 8; o++) if (now.kind[o][place] == kind) set += 1 << o;
    return set;
  }

  private List<int[]> stretches(int owner) {
    List<int[]> all = new ArrayList<>();
    int p = 0;
    while (p < 300) {
      int kind = now.kind[owner][p];
      int start = p;
      while (p < 300 && now.kind[owner][p] == kind) p++;
      if (kind != 0) all.add(new int[] {kind, start, p - start});
    }
    return all;
  }

  int ofOwner(int owner, int what) {
    if (owner < 0 || owner > 7) return NO_SUCH;
    if (what < 0 || what > 12) return BAD_VALUE;
    if (what <= 2) {
      int n = 0;
      for (int p = 0; p < 300; p++) if (now.kind[owner][p] == what + 1) n++;
      return n;
    }
    if (what == 3) return stretches(owner).size();
    if (what > 8) return now.numbers[owner][what];
    Request r = now.requestOf(owner);
    if (r == null) return NONE;
    return new int[] {now.row.indexOf(r), r.kind, r.from, r.to, r.waited}[what - 4];
  }

  int stretch(int owner, int stretch, int what) {
    if (owner < 0 || owner > 7 || stretch < 0 || stretch >= stretches(owner).size()) return NO_SUCH;
    if (what < 0 || what > 2) return BAD_VALUE;
    return stretches(owner).get(stretch)[what];
  }

  int inRow(int place) {
    return place < 0 || place >= now.row.size() ? NO_SUCH : now.row.get(place).owner;
  }

  int waitsFor(int owner) {
    return owner < 0 || owner > 7 ? NO_SUCH : bits(now.waitsFor(owner));
  }

  int count(int what) {
    if (what < 0 || what > 10) return BAD_VALUE;
    int locked = 0;
    for (int p = 0; p < 300; p++) if (owners(p, 0) != 255) locked++;
    return new int[] {now.tick, now.row.size(), locked, now.settings[0], now.settings[1], now.settings[2], now.given,
        now.gone, now.gaveUp, pad.length(), history.size()}[what];
  }

  private World without(int owner) {
    World w = now.copy();
    w.row.remove(w.requestOf(owner));
    return w;
  }

  private static boolean badAsk(int kind, int from, int to) {
    return kind < 1 || kind > 3 || badRange(from, to);
  }

  int couldGive(int owner, int kind, int from, int to) {
    if (owner < 0 || owner > 7) return NO_SUCH;
    if (badAsk(kind, from, to)) return BAD_VALUE;
    return without(owner).canBeGiven(new Request(owner, kind, from, to)) ? 1 : 0;
  }

  int inTheWay(int owner, int kind, int from, int to) {
    if (owner < 0 || owner > 7) return NO_SUCH;
    if (badAsk(kind, from, to)) return BAD_VALUE;
    World w = without(owner);
    w.row.add(new Request(owner, kind, from, to));
    return bits(w.waitsFor(owner));
  }

  int ring(int owner, int kind, int from, int to) {
    if (owner < 0 || owner > 7) return NO_SUCH;
    if (badAsk(kind, from, to)) return BAD_VALUE;
    World w = without(owner);
    w.row.add(new Request(owner, kind, from, to));
    return bits(w.ring(owner));
  }

  int firstFor(int owner, int kind, int length, int place) {
    if (owner < 0 || owner > 7) return NO_SUCH;
    if (kind < 1 || kind > 3 || length < 1 || length > 300 || place < 0 || place > 299) return BAD_VALUE;
    World w = without(owner);
    for (int p = place; p + length <= 300; p++) {
      if (w.canBeGiven(new Request(owner, kind, p, p + length))) return p;
    }
    return NONE;
  }

  int longestFor(int owner, int kind, int what) {
    if (owner < 0 || owner > 7) return NO_SUCH;
    if (kind < 1 || kind > 3 || what < 0 || what > 1) return BAD_VALUE;
    World w = without(owner);
    int best = 0;
    int first = 0;
    for (int p = 0; p < 300; p++) {
      int q = p;
      while (q < 300 && !w.stops(new Request(owner, kind, p, 300), q)) q++;
      if (q - p > best) {
        best = q - p;
        first = p;
      }
    }
    if (best == 0) return NONE;
    return what == 0 ? first : best;
  }

  int givenIf(int owner) {
    return owner < 0 || owner > 7 ? NO_SUCH : bits(now.copy().givenByLeaving(owner));
  }

  int greatestBar(int what) {
    if (what < 0 || what > 1) return BAD_VALUE;
    int best = -1;
    int most = 0;
    for (int o = 0; o < 8; o++) {
      int n = now.copy().givenByLeaving(o).size();
      if (n > most) {
        most = n;
        best = o;
      }
    }
    if (best < 0) return NONE;
    return what == 0 ? best : most;
  }

  int put(long characters) {
    StringBuilder more = new StringBuilder();
    boolean ended = false;
    for (int i = 0; i < 8; i++) {
      int code = (int) (characters >>> 8 * i & 255);
      if (code == 0) {
        ended = true;
      } else {
        if (ended || code < 33 || code > 126) return BAD_VALUE;
        more.insert(0, (char) code);
      }
    }
    if (more.length() == 0) return BAD_VALUE;
    if (pad.length() + more.length() > 80) return TOO_MANY;
    pad += more;
    return pad.length();
  }

  int wipe() {
    int n = pad.length();
    pad = "";
    return n;
  }

  private static final String NUMBER = "(?:300|[12][0-9][0-9]|[1-9][0-9]|[0-9])";
  private static final String ORDER = "(?:[rmw][0-7]:" + NUMBER + "-" + NUMBER + "!?|f[0-7]:" + NUMBER + "-" + NUMBER
      + "|c[0-7]|x[0-7]|t" + NUMBER + ")";
  private static final Pattern TEXT = Pattern.compile(ORDER + "(?:;" + ORDER + ")*");

  int fault() {
    for (int length = 1; length <= pad.length(); length++) {
      Matcher m = TEXT.matcher(pad.substring(0, length));
      if (!m.matches() && !m.hitEnd()) return length - 1;
    }
    return TEXT.matcher(pad).matches() ? NONE : pad.length();
  }

  int carryOut() {
    if (fault() != NONE) return BAD_TEXT;
    World before = now.copy();
    int done = 0;
    for (String order : pad.split(";")) {
      World ahead = now.copy();
      if (carried(order) < 0) {
        now = ahead;
        break;
      }
      done++;
    }
    pad = "";
    return recorded(before, done);
  }

  private int carried(String order) {
    char letter = order.charAt(0);
    if (letter == 't') return now.ticks(Integer.parseInt(order.substring(1)));
    int owner = order.charAt(1) - '0';
    if (letter == 'c') return now.cancel(owner);
    if (letter == 'x') return now.leave(owner);
    String[] range = order.substring(3).replace("!", "").split("-");
    int from = Integer.parseInt(range[0]);
    int to = Integer.parseInt(range[1]);
    if (letter == 'f') return now.free(owner, from, to);
    int kind = letter == 'r' ? 1 : letter == 'm' ? 2 : 3;
    return now.request(owner, kind, from, to, order.endsWith("!") ? 1 : 0);
  }

  int undo() {
    if (history.isEmpty()) return NOT_POSSIBLE;
    now = history.remove(history.size() - 1);
    return history.size();
  }

  int save(int slot) {
    if (slot != 0 && slot != 1) return BAD_VALUE;
    slots[slot] = now.copy();
    return now.tick;
  }

  int restore(int slot) {
    if (slot != 0 && slot != 1) return BAD_VALUE;
    if (slots[slot] == null) return NOT_POSSIBLE;
    World before = now;
    now = slots[slot].copy();
    return recorded(before, now.tick);
  }
}
