import java.util.ArrayList;
import java.util.Arrays;
import java.util.List;
import java.util.Map;
import java.util.TreeMap;

/**
 * The document told once more, as plainly as can be and by other means than the class: all plans are tried,
 * all ways are followed tick by tick, texts are cut into signs first. RandomRuns holds the two side by side.
 */
final class Model {
  static final int BAD = -1, NOT = -2, FULL = -3, NONE = -4, NULL = -11, CAST = -12, INDEX = -13, SIZE = -14;
  static final int T = 24;

  static final class State {
    int rooms;
    Map<Integer, Integer> doors = new TreeMap<>();
    List<int[]> walks = new ArrayList<>();
    List<Integer> servants = new ArrayList<>();
    List<Boolean> ill = new ArrayList<>();
    int cellar;
    List<int[]> errands = new ArrayList<>();
    List<Integer> folk = new ArrayList<>();
    List<int[]> sayings = new ArrayList<>();
    int[] theft;

    State copy() {
      State s = new State();
      s.rooms = rooms;
      s.doors.putAll(doors);
      s.walks.addAll(walks);
      s.servants.addAll(servants);
      s.ill.addAll(ill);
      s.cellar = cellar;
      s.errands.addAll(errands);
      s.folk.addAll(folk);
      s.sayings.addAll(sayings);
      s.theft = theft;
      return s;
    }
  }

  State s = new State();
  State kept;
  String tape = "";
  int[][] sheets = new int[4][];
  int[] lanes = new int[4];

  // ---- small words

  boolean isRoom(int r) { return 0 <= r && r < s.rooms; }
  static boolean isTick(int t) { return 0 <= t && t < T; }
  static int key(int a, int b) { return Math.min(a, b) * 10 + Math.max(a, b); }
  boolean through(int a, int b, boolean back) {
    Integer kind = a == b ? null : s.doors.get(key(a, b));
    return kind != null && (back || kind == 0);
  }

  // ---- 1

  int room() { return s.rooms == 10 ? FULL : s.rooms++; }

  int door(int a, int b, int kind) {
    if (!isRoom(a) || !isRoom(b) || a == b || kind != 0 && kind != 1) return BAD;
    if (s.doors.containsKey(key(a, b))) return NOT;
    if (s.doors.size() == 16) return FULL;
    s.doors.put(key(a, b), kind);
    return s.doors.size();
  }

  int wall(int a, int b) {
    if (!isRoom(a) || !isRoom(b) || a == b) return BAD;
    if (!s.doors.containsKey(key(a, b))) return NONE;
    for (int[] w : s.walks)
      for (int t = 1; t < T; t++)
        if (w[t] != w[t - 1] && key(w[t], w[t - 1]) == key(a, b)) return NOT;
    return s.doors.remove(key(a, b));
  }

  int type(long w, int n) {
    if (n < 1 || n > 8) return BAD;
    StringBuilder more = new StringBuilder();
    for (int k = 0; k < n; k++) more.insert(0, (char) ((w >>> (8 * k)) & 255));
    for (char c : more.toString().toCharArray()) if (c < ' ' || c > '~') return BAD;
    if (tape.length() + n > 80) return FULL;
    tape += more;
    return tape.length();
  }

  /** The tape's signs without blanks: {place, sign, value}; digits that stand together are one with the sign '0'. */
  List<long[]> signs() {
    List<long[]> all = new ArrayList<>();
    for (int p = 0; p < tape.length();) {
      char c = tape.charAt(p);
      int q = p + 1;
      if (Character.isDigit(c)) {
        while (q < tape.length() && Character.isDigit(tape.charAt(q))) q++;
        java.math.BigInteger big = new java.math.BigInteger(tape.substring(p, q));
        all.add(new long[] {p, '0', big.bitLength() > 20 ? 99999 : big.longValue()});
      } else if (c != ' ') {
        all.add(new long[] {p, c, 0});
      }
      p = q;
    }
    all.add(new long[] {tape.length(), -1, 0});
    return all;
  }

  static int fault(long[] sign) { return (int) (-20 - sign[0]); }

  int walk() {
    List<long[]> all = signs();
    tape = "";
    int[] row = new int[T];
    int at = 0;
    int ahead = -1;
    for (int k = 0;; k++) {
      long[] sign = all.get(k);
      if (k % 2 == 0) {
        if (sign[1] == -1 && k > 0) break;
        int r = (int) sign[1] - 'a';
        if (!isRoom(r) || k == 16 || ahead >= 0 && !through(ahead, r, false)) return fault(sign);
        ahead = r;
      } else {
        if (sign[1] != '0' || sign[2] < 1 || sign[2] > 24 || at + sign[2] > 24) return fault(sign);
        for (int n = 0; n < sign[2]; n++) row[at++] = ahead;
      }
    }
    while (at < T) row[at++] = ahead;
    if (s.walks.size() == 3) return FULL;
    s.walks.add(row);
    return s.walks.size() - 1;
  }

  int guest(int g, int t) { return g < 0 || g >= s.walks.size() || !isTick(t) ? BAD : s.walks.get(g)[t]; }

  boolean met(int room, int t) {
    for (int[] w : s.walks) if (w[t] == room) return true;
    return false;
  }

  boolean mayStep(int u, int v, int t, boolean coals) {
    if (u != v && !through(u, v, true)) return false;
    if (!coals) return true;
    if (met(v, t + 1)) return false;
    for (int[] w : s.walks) if (u != v && w[t] == v && w[t + 1] == u) return false;
    return true;
  }

  /** can[t][r]: from room r at tick t one is in `to` at tick end. */
  boolean[][] canReach(int to, int end, boolean coals) {
    boolean[][] can = new boolean[T][s.rooms];
    can[end][to] = !coals || !met(to, end);
    for (int t = end - 1; t >= 0; t--)
      for (int u = 0; u < s.rooms; u++)
        if (!coals || !met(u, t))
          for (int v = 0; v < s.rooms; v++)
            if (can[t + 1][v] && mayStep(u, v, t, coals)) can[t][u] = true;
    return can;
  }

  /** The rows of rooms from its tick on, or null. */
  int[] tripRow(int from, int tick, int to, boolean coals) {
    forgetEnds();
    for (int end = tick; end < T; end++) {
      boolean[][] can = canSeen[coals ? 1 : 0][to][end];
      if (can == null) can = canSeen[coals ? 1 : 0][to][end] = canReach(to, end, coals);
      if (!can[tick][from]) continue;
      int[] row = new int[end - tick + 1];
      row[0] = from;
      for (int k = 1; k < row.length; k++)
        for (int v = s.rooms - 1; v >= 0; v--)
          if (can[tick + k][v] && mayStep(row[k - 1], v, tick + k - 1, coals)) row[k] = v;
      return row;
    }
    return null;
  }

  int trip(int from, int tick, int to, boolean coals, int at) {
    if (!isRoom(from) || !isRoom(to) || !isTick(tick) || at != -1 && !isTick(at)) return BAD;
    int[] row = tripRow(from, tick, to, coals);
    if (row == null) return NONE;
    if (at == -1) return tick + row.length - 1;
    return at < tick || at >= tick + row.length ? NONE : row[at - tick];
  }

  // ---- 2

  int servant(int room) {
    if (!isRoom(room)) return BAD;
    if (s.servants.size() == 3) return FULL;
    s.servants.add(room);
    s.ill.add(false);
    return s.servants.size() - 1;
  }

  boolean isServant(int v) { return 0 <= v && v < s.servants.size(); }

  int ill(int v, boolean is) { return !isServant(v) ? BAD : s.ill.set(v, is) ? 1 : 0; }

  int cellar(int room) {
    if (!isRoom(room)) return BAD;
    int was = s.cellar;
    s.cellar = room;
    return was;
  }

  boolean errandFits(int[] e) {
    return (e[0] == 0 || e[0] == 1) && isRoom(e[1]) && e[2] >= 1 && e[2] <= 9 && isTick(e[3]) && isTick(e[4]) && e[3] <= e[4];
  }

  int errand(int kind, int room, int rank, int from, int due) {
    int[] e = {kind, room, rank, from, due};
    if (!errandFits(e)) return BAD;
    if (s.errands.size() == 5) return FULL;
    s.errands.add(e);
    return s.errands.size() - 1;
  }

  int drop(int e) {
    if (e < 0 || e >= s.errands.size()) return BAD;
    s.errands.remove(e);
    return s.errands.size();
  }

  /** Ends of trips, [coals][from][tick][to], found anew for each plan's making; -2: not looked for yet. */
  int[][][][] endsSeen;

  int end(int from, int tick, int to, boolean coals) {
    int[] row = endsSeen[coals ? 1 : 0][from][tick];
    if (row[to] == -2) {
      int[] trip = tripRow(from, tick, to, coals);
      row[to] = trip == null ? -1 : tick + trip.length - 1;
    }
    return row[to];
  }

  boolean[][][][][] canSeen;
  String seenIn = "";

  /** What was looked for stays true as long as rooms, doors and walks are the same. */
  void forgetEnds() {
    StringBuilder house = new StringBuilder(s.rooms + " " + s.doors);
    for (int[] w : s.walks) house.append(Arrays.toString(w));
    if (house.toString().equals(seenIn)) return;
    seenIn = house.toString();
    canSeen = new boolean[2][s.rooms][T][][];
    endsSeen = new int[2][s.rooms][T][s.rooms];
    for (int[][][] a : endsSeen) for (int[][] b : a) for (int[] c : b) Arrays.fill(c, -2);
  }

  /** {done, taken}, -1 for what is not. */
  int[] doErrand(int[] e, int room, int free) {
    int[] not = {-1, -1};
    if (free < 0) return not;
    int begin = Math.max(free, e[3]);
    if (e[0] == 0) return new int[] {end(room, begin, e[1], false), -1};
    int there = end(room, begin, s.cellar, false);
    for (int t = there; t >= 0 && t < T; t++) {
      int done = end(s.cellar, t, e[1], true);
      if (done >= 0) return new int[] {done, t};
    }
    return not;
  }

  static int late(int[] e, int done) { return e[2] * (done < 0 ? 24 : Math.max(0, done - e[4])); }

  static final class Outcome {
    int cost;
    int[] servants;
    int[] order;
    int[][] did;
  }

  Outcome follow(int[] servants, int[] order) {
    Outcome o = new Outcome();
    o.servants = servants.clone();
    o.order = order.clone();
    o.did = new int[order.length][];
    int[] where = new int[3];
    int[] free = new int[3];
    for (int v = 0; v < s.servants.size(); v++) where[v] = s.servants.get(v);
    for (int k : order) {
      int v = servants[k];
      int[] e = s.errands.get(k);
      o.did[k] = doErrand(e, where[v], free[v]);
      where[v] = e[1];
      free[v] = o.did[k][0];
      o.cost += late(e, o.did[k][0]);
    }
    return o;
  }

  Outcome bestOf;

  Outcome best(List<Boolean> ill) {
    bestOf = null;
    forgetEnds();
    trySharings(new int[s.errands.size()], 0, ill);
    return bestOf;
  }

  void trySharings(int[] servants, int k, List<Boolean> ill) {
    if (k == servants.length) {
      tryOrders(servants, new int[servants.length], 0, 0);
      return;
    }
    for (int v = 0; v < ill.size(); v++) {
      if (ill.get(v)) continue;
      servants[k] = v;
      trySharings(servants, k + 1, ill);
    }
  }

  void tryOrders(int[] servants, int[] order, int k, int used) {
    if (k == order.length) {
      Outcome o = follow(servants, order);
      if (bestOf == null || o.cost < bestOf.cost) bestOf = o;
      return;
    }
    for (int e = 0; e < order.length; e++) {
      if ((used >> e & 1) != 0) continue;
      order[k] = e;
      tryOrders(servants, order, k + 1, used | 1 << e);
    }
  }

  Outcome rule() {
    forgetEnds();
    List<Integer> order = new ArrayList<>();
    for (int e = 0; e < s.errands.size(); e++) order.add(e);
    order.sort((p, q) -> {
      int[] a = s.errands.get(p), b = s.errands.get(q);
      return a[3] != b[3] ? a[3] - b[3] : a[2] != b[2] ? b[2] - a[2] : p - q;
    });
    int[] servants = new int[order.size()];
    List<Integer> given = new ArrayList<>();
    for (int e : order) {
      given.add(e);
      int[] row = given.stream().mapToInt(x -> x).toArray();
      int chosen = -1, when = 0;
      for (int v = 0; v < s.servants.size(); v++) {
        if (s.ill.get(v)) continue;
        servants[e] = v;
        int done = followPart(servants, row);
        if (chosen < 0 || done >= 0 && (when < 0 || done < when)) { chosen = v; when = done; }
      }
      servants[e] = chosen;
    }
    return follow(servants, order.stream().mapToInt(x -> x).toArray());
  }

  /** When the last errand of a row is done. */
  int followPart(int[] servants, int[] row) {
    int last = row[row.length - 1];
    int room = s.servants.get(servants[last]), free = 0;
    for (int e : row) {
      if (servants[e] != servants[last]) continue;
      free = doErrand(s.errands.get(e), room, free)[0];
      room = s.errands.get(e)[1];
    }
    return free;
  }

  boolean nobody(List<Boolean> ill) { return !ill.contains(false); }

  int told(int e, int what) {
    if (e < 0 || e >= s.errands.size() || what < 0 || what > 7) return BAD;
    if (what < 5) return s.errands.get(e)[what];
    if (what == 7 && s.errands.get(e)[0] == 0) return CAST;
    if (nobody(s.ill)) return NOT;
    Outcome o = best(s.ill);
    if (what == 5) return o.servants[e];
    int t = o.did[e][what - 6];
    return t < 0 ? NONE : t;
  }

  int cost(int how) {
    if (how != 0 && how != 1) return BAD;
    if (nobody(s.ill)) return NOT;
    return how == 0 ? best(s.ill).cost : rule().cost;
  }

  int does(int how, int v, int i) {
    if (how != 0 && how != 1 || !isServant(v) || i < 0) return BAD;
    if (nobody(s.ill)) return NOT;
    Outcome o = how == 0 ? best(s.ill) : rule();
    for (int e : o.order) if (o.servants[e] == v && i-- == 0) return e;
    return NONE;
  }

  int enough() {
    if (nobody(s.ill)) return NOT;
    if (best(s.ill).cost > 0) return NONE;
    int found = 0;
    for (int set = 1; set < 1 << s.servants.size(); set++) {
      List<Boolean> ill = new ArrayList<>(s.ill);
      boolean fits = true;
      for (int v = 0; v < ill.size(); v++) {
        if ((set >> v & 1) == 0) ill.set(v, true);
        else if (s.ill.get(v)) fits = false;
      }
      if (fits && best(ill).cost == 0 && (found == 0 || Integer.bitCount(set) < Integer.bitCount(found))) found = set;
    }
    return found;
  }

  int missed(int v) {
    if (!isServant(v)) return BAD;
    List<Boolean> ill = new ArrayList<>(s.ill);
    ill.set(v, true);
    if (nobody(ill)) return NOT;
    return best(ill).cost - best(s.ill).cost;
  }

  int opened(int a, int b) {
    if (!isRoom(a) || !isRoom(b) || a == b) return BAD;
    if (nobody(s.ill)) return NOT;
    if (s.doors.containsKey(key(a, b))) return NONE;
    int before = best(s.ill).cost;
    s.doors.put(key(a, b), 1);
    int behind = best(s.ill).cost;
    s.doors.remove(key(a, b));
    return Math.max(0, before - behind);
  }

  // ---- 3

  int folk(int kind) {
    if (kind != 0 && kind != 1) return BAD;
    if (s.folk.size() == 5) return FULL;
    s.folk.add(kind);
    return s.folk.size() - 1;
  }

  boolean isOne(int f) { return 0 <= f && f < s.folk.size(); }

  int say(int by, int of, int room, int tick) {
    if (!isOne(by) || !isOne(of) || !isRoom(room) || !isTick(tick)) return BAD;
    if (s.sayings.size() == 12) return FULL;
    s.sayings.add(new int[] {by, of, room, tick});
    return s.sayings.size() - 1;
  }

  int sayings() {
    List<long[]> all = signs();
    tape = "";
    List<int[]> more = new ArrayList<>();
    int[] row = new int[4];
    for (int k = 0;; k++) {
      long[] sign = all.get(k);
      int part = k % 5;
      if (part < 3) {
        row[part] = (int) sign[1] - 'a';
        if (part == 2 ? !isRoom(row[2]) : !isOne(row[part])) return fault(sign);
      } else if (part == 3) {
        if (sign[1] != '0' || sign[2] > 23) return fault(sign);
        row[3] = (int) sign[2];
        more.add(row.clone());
      } else if (sign[1] == -1) {
        break;
      } else if (sign[1] != ';' || more.size() == 6) {
        return fault(sign);
      }
    }
    if (s.sayings.size() + more.size() > 12) return FULL;
    s.sayings.addAll(more);
    return more.size();
  }

  int unsay(int k) {
    if (k < 0 || k >= s.sayings.size()) return BAD;
    s.sayings.remove(k);
    return s.sayings.size();
  }

  /** Rooms of one's ways by tick, all empty if he has none. */
  int[] ways(int one, int liars, List<int[]> sayings) {
    int[] allowed = new int[T];
    Arrays.fill(allowed, (1 << s.rooms) - 1);
    for (int[] say : sayings)
      if ((liars >> say[0] & 1) == 0 && (say[0] == one || say[1] == one)) allowed[say[3]] &= 1 << say[2];
    int[] to = new int[T];
    int[] from = new int[T];
    for (int t = 0; t < T; t++) to[t] = allowed[t] & (t == 0 ? -1 : spread(to[t - 1], one));
    for (int t = T - 1; t >= 0; t--) from[t] = allowed[t] & (t == T - 1 ? -1 : spread(from[t + 1], one));
    for (int t = 0; t < T; t++) to[t] &= from[t];
    return to;
  }

  int spread(int set, int one) {
    int next = set;
    for (int u = 0; u < s.rooms; u++)
      for (int v = 0; v < s.rooms; v++)
        if ((set >> u & 1) != 0 && through(u, v, s.folk.get(one) == 1)) next |= 1 << v;
    return next;
  }

  int liarsOf(List<int[]> sayings) {
    int found = -1;
    for (int set = 0; set < 1 << s.folk.size(); set++) {
      boolean all = true;
      for (int one = 0; one < s.folk.size(); one++) if (ways(one, set, sayings)[0] == 0) all = false;
      if (all && (found < 0 || Integer.bitCount(set) < Integer.bitCount(found))) found = set;
    }
    return found;
  }

  int liars() { return s.rooms == 0 ? NOT : liarsOf(s.sayings); }

  int maybe(int one, int tick) {
    if (!isOne(one) || !isTick(tick)) return BAD;
    if (s.rooms == 0) return NOT;
    return ways(one, liarsOf(s.sayings), s.sayings)[tick];
  }

  int theft(int room, int from, int to) {
    if (!isRoom(room) || !isTick(from) || !isTick(to) || to < from) return BAD;
    s.theft = new int[] {room, from, to};
    return 1;
  }

  int suspectsOf(List<int[]> sayings) {
    int liars = liarsOf(sayings);
    int[][] ways = new int[s.folk.size()][];
    for (int one = 0; one < ways.length; one++) ways[one] = ways(one, liars, sayings);
    int set = 0;
    for (int one = 0; one < ways.length; one++) {
      for (int t = s.theft[1]; t <= s.theft[2]; t++) {
        boolean could = (ways[one][t] >> s.theft[0] & 1) != 0;
        for (int other = 0; other < ways.length; other++)
          if (other != one && ways[other][t] == 1 << s.theft[0]) could = false;
        if (could) set |= 1 << one;
      }
    }
    return set;
  }

  int suspects() { return s.theft == null ? NOT : suspectsOf(s.sayings); }

  int clears(int one) {
    if (!isOne(one)) return BAD;
    if (s.theft == null) return NOT;
    if ((suspectsOf(s.sayings) >> one & 1) != 0) return NONE;
    int set = 0;
    for (int k = 0; k < s.sayings.size(); k++) {
      List<int[]> without = new ArrayList<>(s.sayings);
      without.remove(k);
      if ((suspectsOf(without) >> one & 1) != 0) set |= 1 << k;
    }
    return set;
  }

  int count(int what) {
    int ill = 0;
    for (boolean is : s.ill) if (is) ill++;
    int[] all = {s.rooms, s.doors.size(), s.walks.size(), s.servants.size(), ill, s.errands.size(), s.folk.size(), s.sayings.size()};
    return what < 0 || what > 7 ? BAD : all[what];
  }

  int image() { kept = s.copy(); return 1; }

  int restore() {
    if (kept == null) return NONE;
    s = kept.copy();
    return 1;
  }

  // ---- 4

  static boolean isSheet(int k) { return k >= 0 && k < 4; }
  static boolean isLane(int k) { return k >= 0 && k < 3; }

  boolean outside(int sheet, long i, long n) { return i < 0 || n < 0 || i + n > sheets[sheet].length; }

  int errands(int sheet, int lane, int i, int n) {
    if (!isSheet(sheet) || !isLane(lane) || n < 1 || n > 4) return BAD;
    if (sheets[sheet] == null) return NULL;
    if (lanes[sheet] != lane) return CAST;
    if (outside(sheet, i, 5L * n)) return INDEX;
    List<int[]> more = new ArrayList<>();
    for (int k = 0; k < n; k++) more.add(Arrays.copyOfRange(sheets[sheet], i + 5 * k, i + 5 * k + 5));
    for (int[] e : more) if (!errandFits(e)) return NOT;
    if (s.errands.size() + n > 5) return FULL;
    s.errands.addAll(more);
    return s.errands.size();
  }

  int sheet(int sheet, int lane, int n) {
    if (!isSheet(sheet) || !isLane(lane) || n > 24) return BAD;
    if (n < 0) return SIZE;
    sheets[sheet] = new int[n];
    lanes[sheet] = lane;
    return n;
  }

  int empty(int sheet) {
    if (!isSheet(sheet)) return BAD;
    if (sheets[sheet] == null) return NULL;
    int n = sheets[sheet].length;
    sheets[sheet] = null;
    return n;
  }

  int item(int sheet, int lane, int i, int v) {
    if (!isSheet(sheet) || !isLane(lane)) return BAD;
    if (sheets[sheet] == null) return NULL;
    if (lanes[sheet] != lane) return CAST;
    if (outside(sheet, i, 1)) return INDEX;
    int shift = lane == 0 ? 24 : lane == 1 ? 16 : 0;
    sheets[sheet][i] = v << shift >> shift;
    return 1;
  }

  int copy(int from, int i, int to, int j, int n) {
    if (!isSheet(from) || !isSheet(to)) return BAD;
    if (sheets[from] == null || sheets[to] == null) return NULL;
    if (lanes[from] != lanes[to]) return CAST;
    if (outside(from, i, n) || outside(to, j, n)) return INDEX;
    int[] taken = sheets[from].clone();
    for (int k = 0; k < n; k++) sheets[to][j + k] = taken[i + k];
    return n;
  }
}
