import java.util.ArrayList;
import java.util.List;
import java.util.Random;

/** Random runs of calls, the same for the same seed, on the class and on the Model side by side. */
public final class RandomRuns {
  private final Random random;
  private final BackStairs x = new BackStairs();
  private final Model m = new Model();
  private final List<String> told = new ArrayList<>();
  private boolean wrong;
  private int calls;

  private RandomRuns(long seed) {
    random = new Random(seed);
  }

  private void due(String call, int got, int want) {
    calls++;
    told.add(call + " = " + got);
    if (got != want) {
      wrong = true;
      told.add("   due is " + want);
    }
  }

  // ---- arguments

  private boolean oneIn(int n) { return random.nextInt(n) == 0; }

  /** Mostly one of 0 .. n-1; now and then what can't be. */
  private int pick(int n) {
    if (oneIn(40)) {
      int[] odd = {-1, n, n + 1, -2, Integer.MAX_VALUE, Integer.MIN_VALUE, 1 << 30, 32, -32};
      return odd[random.nextInt(odd.length)];
    }
    return n <= 0 ? 0 : random.nextInt(n);
  }

  private int anyRoom() { return pick(m.s.rooms); }
  private int anyTick() { return pick(24); }
  private int earlyTick() { return oneIn(4) ? anyTick() : random.nextInt(8); }

  // ---- calls

  private void room() { due("room()", x.room(), m.room()); }

  private void door() {
    int a = anyRoom(), b = anyRoom(), k = oneIn(20) ? pick(2) : random.nextInt(2);
    due("door(" + a + ", " + b + ", " + k + ")", x.door(a, b, k), m.door(a, b, k));
  }

  private void wall() {
    int a = anyRoom(), b = anyRoom();
    due("wall(" + a + ", " + b + ")", x.wall(a, b), m.wall(a, b));
  }

  private void type(String text) {
    for (int p = 0; p < text.length(); p += 8) {
      String part = text.substring(p, Math.min(text.length(), p + 8));
      long w = oneIn(2) ? 0 : random.nextLong();
      for (char c : part.toCharArray()) w = w << 8 | c;
      typeBytes(w, part.length());
    }
  }

  private void typeBytes(long w, int n) {
    due("type(" + w + "L, " + n + ")", x.type(w, n), m.type(w, n));
  }

  private String blanks() { return oneIn(5) ? oneIn(3) ? "  " : " " : ""; }
  private String zeros() { return oneIn(8) ? oneIn(3) ? "00" : "0" : ""; }

  private String spoilt(String text) {
    if (!oneIn(3) || text.isEmpty()) return text;
    String signs = "abcdefghijk0123456789;; A~";
    int p = random.nextInt(text.length());
    char c = signs.charAt(random.nextInt(signs.length()));
    switch (random.nextInt(3)) {
      case 0: return text.substring(0, p) + c + text.substring(p);
      case 1: return text.substring(0, p) + text.substring(p + 1);
      default: return text.substring(0, p) + c + text.substring(p + 1);
    }
  }

  private void walk() {
    StringBuilder text = new StringBuilder();
    int at = m.s.rooms == 0 ? 0 : random.nextInt(m.s.rooms);
    int left = 24;
    int stays = oneIn(6) ? 9 : 1 + random.nextInt(6);
    for (int k = 0; k < stays && (left > 0 || oneIn(2)); k++) {
      int ticks = Math.max(1, Math.min(left, 1 + random.nextInt(oneIn(3) ? 12 : 4)));
      if (oneIn(30)) ticks = random.nextInt(30);
      left -= ticks;
      text.append(blanks()).append((char) ('a' + at)).append(blanks()).append(zeros()).append(ticks).append(blanks());
      List<Integer> next = new ArrayList<>();
      for (int r = 0; r < m.s.rooms; r++) if (m.through(at, r, false)) next.add(r);
      if (next.isEmpty() || oneIn(25)) at = m.s.rooms == 0 ? 0 : random.nextInt(m.s.rooms);
      else at = next.get(random.nextInt(next.size()));
    }
    type(spoilt(text.toString()));
    due("walk()", x.walk(), m.walk());
  }

  private void sayings() {
    StringBuilder text = new StringBuilder();
    int clauses = oneIn(10) ? 7 : 1 + random.nextInt(oneIn(3) ? 6 : 2);
    for (int k = 0; k < clauses; k++) {
      if (k > 0) text.append(blanks()).append(";");
      text.append(blanks()).append((char) ('a' + Math.min(5, Math.max(0, pick(m.s.folk.size())))));
      text.append(blanks()).append((char) ('a' + random.nextInt(Math.max(1, m.s.folk.size()))));
      text.append(blanks()).append((char) ('a' + random.nextInt(Math.max(1, m.s.rooms))));
      text.append(blanks()).append(zeros()).append(oneIn(30) ? 24 : random.nextInt(24)).append(blanks());
    }
    type(spoilt(text.toString()));
    due("sayings()", x.sayings(), m.sayings());
  }

  private void guest() {
    int g = pick(m.s.walks.size()), t = anyTick();
    due("guest(" + g + ", " + t + ")", x.guest(g, t), m.guest(g, t));
  }

  private void trip() {
    int a = anyRoom(), t = anyTick(), b = anyRoom();
    boolean coals = !oneIn(3);
    int end = m.trip(a, t, b, coals, -1);
    int at = oneIn(4) || end < 0 || end < t ? pick(25) - 1 : t + random.nextInt(end - t + 2);
    due("trip(" + a + ", " + t + ", " + b + ", " + coals + ", -1)", x.trip(a, t, b, coals, -1), end);
    due("trip(" + a + ", " + t + ", " + b + ", " + coals + ", " + at + ")", x.trip(a, t, b, coals, at), m.trip(a, t, b, coals, at));
  }

  private void servant() {
    int r = anyRoom();
    due("servant(" + r + ")", x.servant(r), m.servant(r));
  }

  private void ill() {
    int v = pick(m.s.servants.size());
    boolean is = oneIn(3);
    due("ill(" + v + ", " + is + ")", x.ill(v, is), m.ill(v, is));
  }

  private void cellar() {
    int r = anyRoom();
    due("cellar(" + r + ")", x.cellar(r), m.cellar(r));
  }

  private int[] anyErrand() {
    int from = earlyTick();
    int due = oneIn(20) ? anyTick() : Math.min(23, Math.max(0, Math.min(from, 23)) + random.nextInt(oneIn(3) ? 20 : 5));
    return new int[] {oneIn(20) ? pick(2) : random.nextInt(2), anyRoom(), oneIn(10) ? pick(10) : 1 + random.nextInt(oneIn(2) ? 2 : 9), from, due};
  }

  private void errand() {
    int[] e = anyErrand();
    due("errand(" + e[0] + ", " + e[1] + ", " + e[2] + ", " + e[3] + ", " + e[4] + ")",
        x.errand(e[0], e[1], e[2], e[3], e[4]), m.errand(e[0], e[1], e[2], e[3], e[4]));
  }

  private void told() {
    int e = pick(m.s.errands.size()), w = pick(8);
    due("told(" + e + ", " + w + ")", x.told(e, w), m.told(e, w));
  }

  private void drop() {
    int e = pick(m.s.errands.size());
    due("drop(" + e + ")", x.drop(e), m.drop(e));
  }

  private void cost() {
    int how = pick(2);
    due("cost(" + how + ")", x.cost(how), m.cost(how));
  }

  private void does() {
    int how = pick(2), v = pick(m.s.servants.size()), i = pick(3);
    due("does(" + how + ", " + v + ", " + i + ")", x.does(how, v, i), m.does(how, v, i));
  }

  private void enough() { due("enough()", x.enough(), m.enough()); }

  private void missed() {
    int v = pick(m.s.servants.size());
    due("missed(" + v + ")", x.missed(v), m.missed(v));
  }

  private void opened() {
    int a = anyRoom(), b = anyRoom();
    due("opened(" + a + ", " + b + ")", x.opened(a, b), m.opened(a, b));
  }

  private void folk() {
    int k = oneIn(10) ? pick(2) : random.nextInt(2);
    due("folk(" + k + ")", x.folk(k), m.folk(k));
  }

  private void say() {
    int by = pick(m.s.folk.size()), of = oneIn(3) ? by : pick(m.s.folk.size()), r = anyRoom(), t = anyTick();
    due("say(" + by + ", " + of + ", " + r + ", " + t + ")", x.say(by, of, r, t), m.say(by, of, r, t));
  }

  private void unsay() {
    int k = pick(m.s.sayings.size());
    due("unsay(" + k + ")", x.unsay(k), m.unsay(k));
  }

  private void liars() { due("liars()", x.liars(), m.liars()); }

  private void maybe() {
    int f = pick(m.s.folk.size()), t = anyTick();
    due("maybe(" + f + ", " + t + ")", x.maybe(f, t), m.maybe(f, t));
  }

  private void theft() {
    int r = anyRoom(), a = anyTick(), b = oneIn(9) ? anyTick() : Math.min(23, Math.max(0, a) + random.nextInt(4));
    due("theft(" + r + ", " + a + ", " + b + ")", x.theft(r, a, b), m.theft(r, a, b));
  }

  private void suspects() { due("suspects()", x.suspects(), m.suspects()); }

  private void clears() {
    int f = pick(m.s.folk.size());
    due("clears(" + f + ")", x.clears(f), m.clears(f));
  }

  private void count() {
    int w = pick(8);
    due("count(" + w + ")", x.count(w), m.count(w));
  }

  private void image() { due("image()", x.image(), m.image()); }
  private void restore() { due("restore()", x.restore(), m.restore()); }

  private int anyLane(int sheet) {
    return sheet >= 0 && sheet < 4 && !oneIn(6) ? m.lanes[sheet] : pick(3);
  }

  private int anyItem(int sheet) {
    boolean there = sheet >= 0 && sheet < 4 && m.sheets[sheet] != null;
    return oneIn(6) ? pick(25) : pick(there ? m.sheets[sheet].length : 3);
  }

  private void sheet() {
    int s = pick(4), lane = pick(3), n = oneIn(2) ? 20 + random.nextInt(5) : pick(25);
    due("sheet(" + s + ", " + lane + ", " + n + ")", x.sheet(s, lane, n), m.sheet(s, lane, n));
  }

  private void empty() {
    int s = pick(4);
    due("empty(" + s + ")", x.empty(s), m.empty(s));
  }

  private void item() {
    int s = pick(4), v = oneIn(3) ? random.nextInt() : random.nextInt(400) - 200;
    item(s, anyLane(s), anyItem(s), v);
  }

  private void item(int s, int lane, int i, int v) {
    due("item(" + s + ", " + lane + ", " + i + ", " + v + ")", x.item(s, lane, i, v), m.item(s, lane, i, v));
  }

  private void copy() {
    int s = pick(4), t = oneIn(3) ? s : pick(4), i = anyItem(s), j = anyItem(t), n = oneIn(3) ? pick(25) : pick(7);
    due("copy(" + s + ", " + i + ", " + t + ", " + j + ", " + n + ")", x.copy(s, i, t, j, n), m.copy(s, i, t, j, n));
  }

  private void errandsFromSheet() {
    int s = random.nextInt(4), n = pick(4) + 1, i = oneIn(3) ? anyItem(s) : 0;
    if (m.sheets[s] != null && !oneIn(4)) {
      for (int k = i; k >= 0 && k + 5 <= m.sheets[s].length && k < i + 5 * n; k += 5) {
        int[] e = anyErrand();
        for (int part = 0; part < 5; part++) item(s, m.lanes[s], k + part, e[part]);
      }
    }
    int lane = anyLane(s);
    due("errands(" + s + ", " + lane + ", " + i + ", " + n + ")", x.errands(s, lane, i, n), m.errands(s, lane, i, n));
  }

  // ---- runs

  private void build() {
    int rooms = oneIn(5) ? random.nextInt(12) : oneIn(5) ? 10 : 3 + random.nextInt(6);
    for (int k = 0; k < rooms; k++) room();
    int doors = random.nextInt(4 + 3 * rooms);
    for (int k = 0; k < doors; k++) door();
    for (int k = random.nextInt(5); k > 0; k--) walk();
    if (!oneIn(4)) for (int k = random.nextInt(4); k > 0; k--) servant();
    if (!oneIn(4)) for (int k = random.nextInt(6); k > 0; k--) errand();
    if (!oneIn(4)) for (int k = random.nextInt(6); k > 0; k--) folk();
    if (!oneIn(4)) for (int k = random.nextInt(oneIn(3) ? 14 : 9); k > 0; k--) say();
    if (oneIn(2)) theft();
    if (oneIn(2)) for (int k = random.nextInt(7); k > 0; k--) sheet();
  }

  private void change() {
    switch (random.nextInt(24)) {
      case 0: if (oneIn(3)) room(); break;
      case 1: case 2: door(); break;
      case 3: case 4: wall(); break;
      case 5: typeBytes(random.nextLong(), pick(9)); break;
      case 6: type(spoilt("0000 ;~a")); break;
      case 7: case 8: walk(); break;
      case 9: servant(); break;
      case 10: ill(); break;
      case 11: cellar(); break;
      case 12: case 13: errand(); break;
      case 14: drop(); break;
      case 15: folk(); break;
      case 16: say(); break;
      case 17: case 18: sayings(); break;
      case 19: unsay(); break;
      case 20: theft(); break;
      case 21: if (oneIn(2)) image(); else restore(); break;
      case 22: sheet(); if (oneIn(2)) item(); break;
      default: if (oneIn(2)) errandsFromSheet(); else if (oneIn(2)) empty(); else copy(); break;
    }
  }

  private void ask() {
    switch (random.nextInt(22)) {
      case 0: guest(); break;
      case 1: case 2: case 3: trip(); break;
      case 4: case 5: case 6: told(); break;
      case 7: case 8: cost(); break;
      case 9: case 10: case 11: does(); break;
      case 12: enough(); break;
      case 13: missed(); break;
      case 14: opened(); break;
      case 15: liars(); break;
      case 16: case 17: maybe(); break;
      case 18: suspects(); break;
      case 19: clears(); break;
      case 20: count(); break;
      default: copy(); item(); break;
    }
  }

  private void run(int length) {
    build();
    while (calls < length && !wrong) {
      if (oneIn(3)) change(); else ask();
    }
  }

  public static void main(String[] args) {
    long first = args.length > 0 ? Long.parseLong(args[0]) : 1;
    int runs = args.length > 1 ? Integer.parseInt(args[1]) : 300;
    int bad = 0;
    long calls = 0;
    for (long seed = first; seed < first + runs; seed++) {
      RandomRuns run = new RandomRuns(seed);
      run.run(160);
      calls += run.calls;
      if (run.wrong) {
        bad++;
        System.out.println("seed " + seed + ":");
        for (String line : run.told) System.out.println("  " + line);
        if (bad == 3) break;
      }
    }
    System.out.println("random runs: " + runs + ", calls: " + calls + ", wrong: " + bad);
    if (bad > 0) System.exit(1);
  }
}
