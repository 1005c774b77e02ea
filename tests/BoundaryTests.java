import java.nio.file.Files;
import java.nio.file.Path;
import java.util.ArrayList;
import java.util.List;
import java.util.Map;
import java.util.TreeMap;
import java.util.regex.Matcher;
import java.util.regex.Pattern;

/**
 * Each sentence of the document that names a boundary: its words as they stand there, and the calls that would show
 * them broken. With the document's path as an argument it looks, too, whether the words do stand there, and whether
 * any refusal or range of the document has been left out.
 */
public final class BoundaryTests extends Kit {
  private static final Map<Integer, List<String>> said = new TreeMap<>();

  private static void says(int where, String what) {
    promise = where;
    words = what;
    said.computeIfAbsent(where, k -> new ArrayList<>()).add(what);
  }

  private static String times(String text, int n) {
    return text.repeat(n);
  }

  // ---- terms: the house

  private static void roomsAndDoors() {
    says(0, "ROOMS 0 .. 9 (a .. j), as they come.");
    BackStairs x = new BackStairs();
    due("no room a", walk(x, "a1"), -20);
    for (int k = 0; k < 10; k++) due("room", x.room(), k);
    due("an 11th", x.room(), FULL);
    due("j", walk(x, "j1"), 0);
    due("is room 9", x.guest(0, 0), 9);
    due("k", walk(x, "k1"), -20);
    due("room 9", x.servant(9), 0);
    due("room 10", x.servant(10), BAD);

    says(0, "DOORS are between two ROOMS (one at most, 16 in all): OPEN (0) or BACK (1: for SERVANTS alone).");
    BackStairs y = house(10);
    for (int k = 1; k < 10; k++) due("from a", y.door(0, k, k % 2), k);
    for (int k = 2; k < 9; k++) due("from b", y.door(k, 1, k % 2), k + 8);
    due("a 17th", y.door(1, 9, OPEN), FULL);
    due("one goes", y.wall(9, 0), BACK);
    due("a 16th again", y.door(1, 9, OPEN), 16);
    due("a second between two", y.door(9, 1, BACK), NOT);
    due("a third kind", y.door(0, 9, 2), BAD);
    due("a kind below 0", y.door(0, 9, -1), BAD);
    BackStairs z = house(3, 0, 1, OPEN, 1, 2, BACK);
    z.folk(0);
    z.folk(1);
    sayings(z, "aab0;bbb0");
    due("a guest of folk by an open one", z.maybe(0, 1), 3);
    due("a servant of folk by both", z.maybe(1, 1), 7);
    due("a guest by an open one", walk(z, "b1a1"), 0);
    due("a guest by a back one", walk(z, "b1c1"), -22);
    due("a servant by an open one", z.trip(1, 0, 0, PLAIN, -1), 1);
    due("a servant by a back one", z.trip(1, 0, 2, PLAIN, -1), 1);
  }

  private static void ticks() {
    says(0, "TICKS are 0 .. 23; in a TICK one goes through a DOOR, or stays.");
    BackStairs x = chain(3);
    walk(x, "a1");
    x.servant(0);
    x.folk(0);
    for (int t : NO_TICK) {
      due("guest at " + t, x.guest(0, t), BAD);
      due("trip from " + t, x.trip(0, t, 0, PLAIN, -1), BAD);
      due("errand from " + t, x.errand(0, 0, 1, t, 23), BAD);
      due("errand due " + t, x.errand(0, 0, 1, 0, t), BAD);
      due("say " + t, x.say(0, 0, 0, t), BAD);
      due("maybe " + t, x.maybe(0, t), BAD);
      due("theft from " + t, x.theft(0, t, 23), BAD);
      due("theft to " + t, x.theft(0, 0, t), BAD);
    }
    int[] edges = {0, 23};
    for (int t : edges) {
      due("guest at " + t, x.guest(0, t), 0);
      due("trip from " + t, x.trip(0, t, 0, PLAIN, -1), t);
      due("trip at " + t, x.trip(0, t, 0, PLAIN, t), 0);
      due("errand from and due " + t, x.errand(0, 0, 1, t, t), t == 0 ? 0 : 1);
      due("say " + t, x.say(0, 0, 0, t), t == 0 ? 0 : 1);
      due("maybe " + t, x.maybe(0, t), 1);
      due("theft at " + t, x.theft(0, t, t), 1);
    }
    due("one door in one tick", x.trip(0, 0, 1, PLAIN, -1), 1);
    due("not two", x.trip(0, 0, 2, PLAIN, -1), 2);
    due("one of folk, too", x.maybe(0, 1), 3);
    due("and two in two", x.maybe(0, 2), 7);
  }

  private static void walks() {
    says(0, "GUESTS 0 .. 2, as they come");
    BackStairs g = chain(2);
    due("none", g.guest(0, 0), BAD);
    for (int k = 0; k < 3; k++) due("guest", walk(g, k == 1 ? "b1" : "a1"), k);
    due("a fourth", walk(g, "a1"), FULL);
    due("the second", g.guest(1, 0), 1);
    due("the third", g.guest(2, 0), 0);
    due("guest 3", g.guest(3, 0), BAD);
    due("guest -1", g.guest(-1, 0), BAD);

    says(0, "1 to 8 times a ROOM's letter (that there is) and a number (1 .. 24): so many TICKS there");
    BackStairs x = chain(3);
    due("no times", walk(x, ""), -20);
    due("9 times", walk(x, times("a1b1", 4) + "a1"), -36);
    due("a letter of no room", walk(x, "d1"), -20);
    due("the sign ahead of a", walk(x, "`1"), -20);
    due("0 ticks", walk(x, "a0"), -21);
    due("25 ticks", walk(x, "a25"), -21);
    due("once", walk(x, "c1"), 0);
    due("8 times", walk(x, times("a1b1", 4)), 1);
    dueText("a tick each", walked(x, 1), "ababababbbbbbbbbbbbbbbbb");
    due("24 ticks", walk(x, "a24"), 2);

    says(0, "from one to the next there must be an OPEN DOOR");
    BackStairs y = house(4, 0, 1, OPEN, 1, 2, BACK);
    due("a back door", walk(y, "b1c1"), -22);
    due("no door", walk(y, "a1d1"), -22);
    due("the same room", walk(y, "a1a1"), -22);
    due("an open one", walk(y, "a1b1"), 0);
    due("from the other side", walk(y, "b1a1"), 1);

    says(0, "all numbers together are 24 at most");
    BackStairs z = chain(2);
    due("25 by two", walk(z, "a12b13"), -24);
    due("25 by a last tick", walk(z, "a24b1"), -24);
    due("25 by three", walk(z, "a8b8a9"), -25);
    due("25 by eight", walk(z, times("a3b3", 3) + "a3b4"), -35);
    due("24 by one", walk(z, "a24"), 0);
    due("24 by two", walk(z, "a23b1"), 1);
    due("24 by eight", walk(z, times("a3b3", 4)), 2);
    due("b at the last tick", z.guest(1, 23) * 10 + z.guest(1, 22), 10);

    says(0, "where he is last he stays");
    BackStairs w = chain(2);
    walk(w, "a1b1");
    dueText("in b", walked(w, 0), "a" + times("b", 23));
  }

  private static void faults() {
    says(0, "-20 less the place of the first byte (behind blanks) that can't stand there (the end: how many bytes there are)");
    BackStairs x = chain(3);
    String[] texts = {"", "   ", "a", "a ", "a1b", "a1b  ", "x", "  x", "ax", "a  x", "a1x", "a1  x", "a1b2;", "1", "a1b1c",
        times(" ", 80), times(" ", 79) + "a", times(" ", 78) + "ax", times(" ", 79) + "x", "a1" + times(" ", 77) + "x"};
    int[] places = {0, 3, 1, 2, 3, 5, 0, 2, 1, 3, 2, 4, 4, 0, 5, 80, 80, 79, 79, 79};
    for (int k = 0; k < texts.length; k++) due("'" + texts[k] + "'", walk(x, texts[k]), -20 - places[k]);
    due("80 bytes without a fault", walk(x, times(" ", 78) + "a1"), 0);
    due("and with blanks behind", walk(x, "b1" + times(" ", 78)), 1);

    says(0, "bytes 32 count for nothing, but end a number");
    due("a number's second part", walk(x, "a2 4"), -23);
    due("a 0 behind", walk(x, "a1 0"), -23);
    due("within all else", walk(x, "  a  2  b  1  "), 2);
    dueText("the same walk", walked(x, 2), "aa" + times("b", 22));

    says(0, "a number may have 0s ahead");
    BackStairs y = chain(2);
    due("0s alone", walk(y, "a000"), -21);
    due("25", walk(y, "a0025"), -21);
    due("1", walk(y, "a01b1"), 0);
    due("24", walk(y, "a000024"), 1);
    due("a tape of them", walk(y, "a" + times("0", 78) + "2"), 2);
    due("as told", y.guest(0, 1) * 10 + y.guest(1, 23), 10);

    says(0, "of a number that may not be its first byte");
    String[] numbers = {"a100", "a 25", "b12c13", "a24b01", "a4294967297", "a2147483648", "a18446744073709551617",
        "a" + times("9", 79), "a1b" + times("0", 77)};
    int[] firsts = {1, 2, 4, 4, 1, 1, 1, 1, 3};
    BackStairs z = chain(3);
    for (int k = 0; k < numbers.length; k++) due(numbers[k], walk(z, numbers[k]), -20 - firsts[k]);

    says(0, "of a ROOM without a DOOR to it its letter");
    due("none", walk(z, "a1c1"), -22);
    due("behind blanks", walk(z, "a1  c1"), -24);
    due("though its number may not be, too", walk(z, "a1c99"), -22);
    due("to itself", walk(z, "a1b1 b1"), -25);

    says(0, "a ninth ROOM can't");
    due("its letter", walk(z, times("a1b1", 4) + "a1"), -36);
    due("behind blanks", walk(z, times("a1b1", 4) + "  a1"), -38);
    due("nor a letter alone", walk(z, times("a1b1", 4) + "a"), -36);
    due("none of these came", z.count(2), 0);
  }

  private static void trips() {
    says(0, "A TRIP from a ROOM at a TICK to another (or the same)");
    BackStairs x = chain(3);
    for (int t = 0; t < 24; t += 23) {
      due("to the same", x.trip(1, t, 1, PLAIN, -1), t);
      due("to the same with coals", x.trip(1, t, 1, COALS, -1), t);
    }
    due("to another", x.trip(1, 0, 2, PLAIN, -1), 1);
    due("to another with coals", x.trip(1, 0, 2, COALS, -1), 1);

    says(0, "the soonest; of like ones the first as a row of ROOMS");
    BackStairs s = house(5, 0, 2, OPEN, 0, 1, BACK, 1, 3, OPEN, 2, 3, OPEN, 3, 4, OPEN);
    dueText("by b, not by c", tripped(s, 0, 0, 4, PLAIN), "abde" + times(".", 20));
    walk(s, "e3d1c1");
    dueText("with coals in a as long as it goes", tripped(s, 0, 0, 4, COALS), "aaabde" + times(".", 18));

    says(0, "at no TICK of it (the first, the last, too) is a GUEST in the ROOM");
    BackStairs f = chain(2);
    walk(f, "a1b1");
    due("at the first", f.trip(0, 0, 0, COALS, -1), NONE);
    due("at the first of a longer one", f.trip(0, 0, 1, COALS, -1), NONE);
    due("at the next tick he has gone", f.trip(0, 1, 0, COALS, -1), 1);
    due("at the last", f.trip(0, 1, 1, COALS, -1), NONE);
    due("where he will come", f.trip(1, 0, 1, COALS, -1), 0);
    due("without coals", f.trip(0, 0, 1, PLAIN, -1), 1);
    BackStairs m = house(4, 0, 1, OPEN, 1, 2, OPEN, 1, 3, OPEN);
    walk(m, "b5d1");
    dueText("in the midst", tripped(m, 0, 0, 2, COALS), "aaaaabc" + times(".", 17));
    dueText("without coals", tripped(m, 0, 0, 2, PLAIN), "abc" + times(".", 21));

    says(0, "from no TICK to the next does one come through the DOOR the other way");
    BackStairs o = house(3, 0, 1, OPEN, 1, 2, OPEN, 0, 2, OPEN);
    walk(o, "b1c1");
    dueText("past him", tripped(o, 2, 0, 1, COALS), "cab" + times(".", 21));
    dueText("past him without coals", tripped(o, 2, 0, 1, PLAIN), "cb" + times(".", 22));
    dueText("behind him", tripped(o, 0, 0, 1, COALS), "ab" + times(".", 22));
    BackStairs p = house(4, 0, 1, OPEN, 0, 2, OPEN, 0, 3, BACK);
    walk(p, "b1a1");
    walk(p, "c1a1");
    due("past the first of two", p.trip(0, 0, 1, COALS, -1), NONE);
    due("past the second", p.trip(0, 0, 2, COALS, -1), NONE);
    due("past none", p.trip(0, 0, 3, COALS, -1), 1);
    BackStairs l = chain(2);
    walk(l, "b23a1");
    due("from 22 to 23", l.trip(0, 22, 1, COALS, -1), NONE);
    due("he stays till 22", l.trip(0, 22, 0, COALS, -1), 22);

    says(0, "By TICK 23, or there is none.");
    for (int with = 0; with < 2; with++) {
      due("at 23", x.trip(0, 21, 2, with == 1, -1), 23);
      due("one tick later", x.trip(0, 22, 2, with == 1, -1), NONE);
      due("begun at 23", x.trip(0, 23, 0, with == 1, -1), 23);
      due("begun at 23 to another", x.trip(0, 23, 1, with == 1, -1), NONE);
    }
  }

  // ---- terms: errands

  private static void servantsAndErrands() {
    says(0, "SERVANTS 0 .. 2, as they come, are each in a ROOM at TICK 0; some are ILL.");
    BackStairs x = chain(4);
    due("the first", x.servant(3), 0);
    due("the second", x.servant(0), 1);
    due("the third", x.servant(1), 2);
    due("a fourth", x.servant(1), FULL);
    x.errand(0, 3, 1, 0, 0);
    due("who is there", x.told(0, 5), 0);
    due("at tick 0", x.told(0, 6), 0);
    x.ill(0, true);
    due("who is nearest", x.told(0, 5), 2);
    due("at tick 2", x.told(0, 6), 2);

    says(0, "THE CELLAR is a ROOM (0 at first).");
    BackStairs y = chain(3);
    y.servant(2);
    y.errand(1, 2, 1, 0, 4);
    due("coals from a", y.told(0, 7), 2);
    due("back at 4", y.told(0, 6), 4);
    due("it was 0", y.cellar(2), 0);
    due("coals from c", y.told(0, 7), 0);
    due("there at once", y.told(0, 6), 0);

    says(0, "ERRANDS 0 .. 4, as they come, are of KINDS, each to a ROOM, with a RANK (1 .. 9), FROM a TICK on, DUE by one (no earlier)");
    BackStairs z = chain(2);
    due("rank 0", z.errand(0, 0, 0, 0, 0), BAD);
    due("rank 10", z.errand(0, 0, 10, 0, 0), BAD);
    due("due 4 from 5", z.errand(0, 0, 1, 5, 4), BAD);
    due("due 0 from 23", z.errand(0, 0, 1, 23, 0), BAD);
    due("rank 1", z.errand(0, 0, 1, 0, 0), 0);
    due("rank 9", z.errand(1, 1, 9, 23, 23), 1);
    due("due 5 from 5", z.errand(0, 0, 1, 5, 5), 2);
    due("a fourth", z.errand(0, 0, 1, 0, 23), 3);
    due("a fifth", z.errand(0, 0, 1, 0, 0), 4);
    due("a sixth", z.errand(0, 0, 1, 0, 0), FULL);
    due("errand 4", z.told(4, 2), 1);
    due("errand 5", z.told(5, 2), BAD);
  }

  private static void doing() {
    says(0, "0 CALL: a TRIP there, begun FROM that TICK on, at once when the SERVANT is free");
    BackStairs x = chain(3);
    x.servant(0);
    x.errand(0, 2, 1, 5, 9);
    x.errand(0, 0, 1, 0, 9);
    due("from 5 on", x.told(0, 6), 7);
    due("at once when he is free", x.told(1, 6), 9);
    x.errand(0, 1, 1, 21, 23);
    due("from 21 on", x.told(2, 6), 22);

    says(0, "a TRIP to THE CELLAR likewise, then, at the first TICK from then on at which there is one, a TRIP there with COALS.");
    BackStairs y = house(3, 0, 1, BACK, 0, 2, OPEN);
    walk(y, "a5c1");
    y.servant(1);
    y.errand(1, 1, 1, 0, 9);
    due("the guest is in the cellar till 4", y.told(0, 7), 5);
    due("there", y.told(0, 6), 6);
    y.drop(0);
    y.errand(1, 1, 1, 7, 9);
    due("from 7 on", y.told(0, 7), 8);
    due("there", y.told(0, 6), 9);
    y.drop(0);
    y.errand(1, 2, 1, 0, 9);
    due("never to where he stays", y.told(0, 7), NONE);

    BackStairs q = chain(3);
    walk(q, "c2b1c1");
    q.servant(0);
    q.errand(1, 1, 1, 0, 0);
    due("b at 1, though a guest comes and goes", q.told(0, 6), 1);
    q.drop(0);
    q.errand(1, 1, 1, 1, 1);
    due("b at 3, when he has gone", q.told(0, 6), 3);

    says(0, "It is DONE at its last TICK; the SERVANT is there then, and free.");
    BackStairs z = chain(3);
    z.servant(0);
    z.errand(0, 2, 1, 0, 2);
    z.errand(0, 1, 1, 0, 1);
    due("c at 2, then b at 3", z.cost(1), 2);
    due("b at 1, then c at 2", z.cost(0), 0);
    z.drop(0);
    z.errand(1, 2, 1, 0, 9);
    due("b at 1, the cellar at 2", z.told(1, 7), 2);
    due("c at 4", z.told(1, 6), 4);

    says(0, "LATE is it by how many TICKS it is DONE behind DUE; 24, if it is not done by TICK 23 "
        + "(the SERVANT does nothing more then: what he has left is 24, too).");
    BackStairs l = chain(2);
    l.servant(0);
    l.errand(0, 1, 9, 0, 1);
    due("at DUE", l.cost(0), 0);
    l.errand(0, 1, 9, 0, 23);
    due("far ahead of DUE", l.cost(0), 0);
    l.errand(0, 1, 5, 0, 0);
    due("one behind, none less for those ahead", l.cost(0), 5);
    due("not done by 23", lateAfter("a23c1"), 24);
    due("done at 23", lateAfter("a22c1"), 23);
    due("done at 22", lateAfter("a21c1"), 22);
    BackStairs w = house(3, 0, 1, OPEN);
    w.servant(0);
    w.errand(0, 2, 3, 0, 23);
    w.errand(0, 0, 2, 0, 23);
    due("what is left by the rule", w.cost(1), 24 * 5);
    due("nothing is left by the best", w.cost(0), 24 * 3);
    w.errand(1, 2, 1, 0, 23);
    due("of two that can't be", w.cost(0), 24 * 4);
    due("not done", w.told(2, 6), NONE);
    due("not taken, though there was coal", w.told(2, 7), NONE);
    BackStairs v = house(2);
    v.servant(0);
    for (int k = 0; k < 5; k++) v.errand(0, 1, 9, 0, 0);
    due("the dearest plan", v.cost(0), 5 * 9 * 24);
    due("the dearest by the rule", v.cost(1), 5 * 9 * 24);
  }

  /** How late coals come from the cellar through one door, if a guest in the cellar walks like this. */
  private static int lateAfter(String text) {
    BackStairs x = house(3, 0, 1, BACK, 0, 2, OPEN);
    walk(x, text);
    x.servant(0);
    x.errand(1, 1, 1, 0, 0);
    return x.cost(0);
  }

  private static void likePlans() {
    says(0, "each ERRAND has a SERVANT that is not ILL; each does his in an order.");
    BackStairs i = house(1);
    for (int k = 0; k < 3; k++) i.servant(0);
    i.errand(0, 0, 1, 0, 0);
    due("the first", i.told(0, 5), 0);
    i.ill(0, true);
    due("the next", i.told(0, 5), 1);
    i.ill(1, true);
    due("the last", i.told(0, 5), 2);
    i.ill(2, true);
    due("nobody", i.told(0, 5), NOT);

    says(0, "the least COST, of like ones the first as SERVANTS of ERRANDS in a row, then as orders of all ERRANDS "
        + "(rows of all, in which each SERVANT's stand as he does them).");
    BackStairs x = chain(2);
    x.servant(1);
    x.servant(1);
    x.errand(0, 1, 1, 0, 0);
    x.errand(0, 0, 1, 0, 1);
    x.errand(0, 1, 1, 1, 1);
    int[] row = {0, 0, 1};
    for (int e = 0; e < 3; e++) due("servant of " + e, x.told(e, 5), row[e]);
    BackStairs y = house(1);
    y.servant(0);
    y.errand(0, 0, 1, 5, 5);
    y.errand(0, 0, 1, 0, 0);
    y.errand(0, 0, 1, 0, 9);
    int[] order = {1, 0, 2};
    for (int k = 0; k < 3; k++) due("order", y.does(0, 0, k), order[k]);
    y.errand(0, 0, 1, 0, 0);
    int[] longer = {1, 2, 3, 0};
    for (int k = 0; k < 4; k++) due("longer order", y.does(0, 0, k), longer[k]);

    BackStairs o = house(1);
    o.servant(0);
    for (int k = 4; k >= 0; k--) o.errand(0, 0, 1, k, k);
    due("one order of five", o.cost(0), 0);
    for (int k = 0; k < 5; k++) due("it is the last", o.does(0, 0, k), 4 - k);

    says(0, "ERRANDS by FROM, of like ones by greater RANK, then by number");
    BackStairs r = house(1);
    r.servant(0);
    r.errand(0, 0, 9, 3, 3);
    r.errand(0, 0, 1, 2, 23);
    r.errand(0, 0, 2, 2, 2);
    r.errand(0, 0, 2, 2, 2);
    int[] ruled = {2, 3, 1, 0};
    for (int k = 0; k < 4; k++) due("ruled", r.does(1, 0, k), ruled[k]);

    says(0, "each goes behind those that he has to him by whom it would be DONE the soonest (not at all: last), of like ones the first.");
    BackStairs z = house(5, 1, 2, OPEN);
    z.servant(0);
    z.servant(1);
    z.servant(1);
    z.errand(0, 2, 1, 22, 23);
    due("who can at 23, of like ones the first", z.does(1, 1, 0), 0);
    z.errand(0, 3, 1, 22, 23);
    due("nobody can: the first", z.does(1, 0, 0), 1);
    z.errand(0, 0, 1, 22, 23);
    due("only he could, who does nothing more: the first", z.does(1, 0, 1), 2);
    z.errand(0, 1, 1, 22, 23);
    due("he who has none as yet", z.does(1, 2, 0), 3);
    due("no second for the one", z.does(1, 1, 1), NONE);
    BackStairs u = house(2);
    u.servant(0);
    u.servant(0);
    u.servant(0);
    u.ill(0, true);
    u.errand(0, 1, 1, 0, 0);
    due("nobody can: the first who is not ill", u.does(1, 1, 0), 0);
    due("not who is ill", u.does(1, 0, 0), NONE);

    says(0, "the fewest SERVANTS (one at least; of those not ILL, the rest ILL, too) with whom THE BEST costs 0, of like ones the least set.");
    BackStairs e = chain(2);
    e.servant(0);
    e.servant(1);
    e.servant(1);
    due("nothing to do: one", e.enough(), 1);
    e.errand(0, 1, 1, 0, 0);
    due("the least of two", e.enough(), 2);
    e.errand(0, 0, 1, 0, 0);
    due("the least of two sets", e.enough(), 3);
    e.ill(1, true);
    due("of those not ill", e.enough(), 5);
    e.drop(1);
    due("one of those not ill", e.enough(), 4);
    e.drop(0);
    e.ill(0, true);
    due("nothing to do: the least not ill", e.enough(), 4);
    // b and c are due by tick 1: from either end one gets to one of them, from b to both
    BackStairs f = chain(4);
    f.servant(0);
    f.servant(3);
    f.errand(0, 1, 1, 0, 1);
    f.errand(0, 2, 1, 0, 1);
    due("two from both ends", f.enough(), 3);
    f.servant(1);
    due("one ahead of two, though {2} is a greater set than {0, 1}", f.enough(), 4);
    f.ill(2, true);
    due("two, as he is ill", f.enough(), 3);
  }

  // ---- terms: the theft

  private static void folkAndSayings() {
    says(0, "FOLK 0 .. 4 (a .. e) were in the house, each a GUEST (0: through OPEN DOORS) or a SERVANT (1: through all)");
    BackStairs x = chain(2);
    due("a, ahead of all", sayings(x, "aaa0"), -20);
    for (int k = 0; k < 5; k++) due("one", x.folk(k / 4), k);
    due("a sixth", x.folk(0), FULL);
    due("e", sayings(x, "eea0"), 1);
    due("f", sayings(x, "fea0"), -20);
    due("of f", sayings(x, "efa0"), -21);
    due("folk 4", x.maybe(4, 0), 1);
    due("folk 5", x.maybe(5, 0), BAD);

    says(0, "SAYINGS 0 .. 11, as they come");
    for (int k = 1; k < 12; k++) due("saying", x.say(k % 5, k % 5, 1, 12), k);
    due("a 13th", x.say(0, 0, 1, 12), FULL);
    due("a 13th as a text", sayings(x, "aab12"), FULL);
    due("saying 12", x.unsay(12), BAD);
    due("saying 11", x.unsay(11), 11);
    due("a 12th again", x.say(0, 0, 1, 12), 11);

    says(0, "that one was there then; and he who says so, too.");
    BackStairs y = house(2);
    y.folk(0);
    y.folk(0);
    y.say(0, 1, 1, 0);
    due("he who says so", y.maybe(0, 23), 2);
    due("he of whom", y.maybe(1, 23), 2);

    says(0, "1 to 6 CLAUSES with ; between: who says it, of whom (letters a .. e, that there are), a ROOM's letter, a number (0 .. 23).");
    BackStairs z = chain(2);
    z.folk(0);
    z.folk(1);
    due("none", sayings(z, ""), -20);
    due("seven", sayings(z, times("aaa1;", 6) + "aaa1"), -49);
    due("no ; between", sayings(z, "aaa1aaa2"), -24);
    due("; behind", sayings(z, "aaa1;"), -25);
    due("; ahead", sayings(z, ";aaa1"), -20);
    due("c says", sayings(z, "caa0"), -20);
    due("of c", sayings(z, "aca0"), -21);
    due("room c", sayings(z, "aac0"), -22);
    due("24", sayings(z, "aaa24"), -23);
    due("none came", z.count(7), 0);
    due("six", sayings(z, times("abb0;", 5) + "bbb23"), 6);
    due("one", sayings(z, "aaa23"), 1);
    due("a at 23", z.maybe(0, 23), 1);
    due("b at 23", z.maybe(1, 23), 2);

    says(0, "FAULTS as above.");
    String[] texts = {"5", "a5", "aa5", "aab5;aa5", "", "  ", "a", "aa", "aab", "aab ", "a a b 5 ;", "  x", "a  x", "aa  x", "aab  x", "aab5  x", "aab5 5", "aab5;x",
        "aab100", "aab 24", "aab4294967296", "aab0024", "aab5;bbb24", "A", times(" ", 80), "aab" + times("0", 75) + "24"};
    int[] places = {0, 1, 2, 7, 0, 2, 1, 2, 3, 4, 9, 2, 3, 4, 5, 6, 5, 5, 3, 4, 3, 3, 8, 0, 80, 3};
    for (int k = 0; k < texts.length; k++) due("'" + texts[k] + "'", sayings(z, texts[k]), -20 - places[k]);
    due("0s and blanks", sayings(z, "  a a b  0023 ; b b b 00  "), 2);
    due("a tape of 0s", sayings(z, "bbb" + times("0", 77)), 1);
  }

  private static void liarsAndWays() {
    says(0, "LIARS are the fewest FOLK so that each one has a WAY, of like ones the least set.");
    BackStairs n = house(2);
    for (int k = 0; k < 5; k++) n.folk(0);
    due("none", n.liars(), 0);
    for (int k = 0; k < 5; k++) {
      n.say(k, k, 0, 0);
      n.say(k, k, 1, 0);
    }
    due("all", n.liars(), 31);
    for (int k = 0; k < 5; k++) due("so nothing binds one", n.maybe(k, 0), 3);
    n.unsay(9);
    due("all but the last", n.liars(), 15);
    // a against b and c, d against b and c: {b, c} is less than {a, d}, as a set
    BackStairs x = chain(2);
    for (int k = 0; k < 4; k++) x.folk(0);
    sayings(x, "aaa1;bab1;aaa5;cab5");
    sayings(x, "dda9;bdb9;dda13;cdb13");
    due("the least set of two", x.liars(), 6);
    x.unsay(0);
    due("three are against one another still", x.liars(), 6);
    x.unsay(0);
    x.unsay(1);
    due("one against both", x.liars(), 8);

    says(0, "a ROOM for each TICK, each the one ahead or through a DOOR that he may use");
    BackStairs w = house(3, 0, 1, OPEN, 1, 2, BACK);
    w.folk(0);
    w.folk(1);
    sayings(w, "aaa5;aab6;bba5;bbc7");
    due("time enough", w.liars(), 0);
    w.say(0, 0, 2, 23);
    due("no way for a guest", w.liars(), 1);
    w.unsay(4);
    w.say(1, 1, 0, 8);
    due("no time for a servant", w.liars(), 2);

    says(0, "MAY BE at a TICK are ROOMS of some WAY of one.");
    BackStairs y = chain(10);
    y.folk(0);
    due("anywhere", y.maybe(0, 0), 1023);
    y.say(0, 0, 9, 0);
    due("at the first tick", y.maybe(0, 0), 512);
    due("one on", y.maybe(0, 1), 768);
    due("eight on", y.maybe(0, 8), 1022);
    due("nine on", y.maybe(0, 9), 1023);
    y.say(0, 0, 0, 23);
    due("at the last tick", y.maybe(0, 23), 1);
    due("one ahead", y.maybe(0, 22), 3);
    due("at 9", y.maybe(0, 9), 1023);
    due("at 15", y.maybe(0, 15), 511);
  }

  private static void theTheft() {
    says(0, "THE THEFT: from a ROOM, from a TICK to another (none at first).");
    BackStairs x = chain(3);
    due("none", x.suspects(), NOT);
    due("from 5 to 4", x.theft(0, 5, 4), BAD);
    due("none still", x.suspects(), NOT);
    due("at one tick", x.theft(0, 5, 5), 1);
    due("at all ticks", x.theft(0, 0, 23), 1);
    due("nobody is there", x.suspects(), 0);

    says(0, "A SUSPECT MAY BE there at a TICK of these at which each other one MAY BE elsewhere.");
    x.folk(0);
    // in c at 4, in b at 5, in a at 6
    sayings(x, "aac4;aaa6");
    int[][] thefts = {{4, 4, 1}, {5, 5, 0}, {5, 6, 0}, {3, 4, 1}, {4, 9, 1}, {5, 7, 0}, {5, 8, 1}, {8, 8, 1}, {7, 7, 0}};
    for (int[] t : thefts) {
      x.theft(2, t[0], t[1]);
      due("from " + t[0] + " to " + t[1], x.suspects(), t[2]);
    }
    x.folk(0);
    sayings(x, "bbc8");
    x.theft(2, 5, 8);
    due("at 8 the other is there, at 7 one is not and the other may", x.suspects(), 2);
    x.theft(2, 8, 8);
    due("b at 8 with a elsewhere", x.suspects(), 2);
    x.theft(2, 8, 9);
    due("a at 9", x.suspects(), 3);
    BackStairs y = house(1);
    y.theft(0, 0, 23);
    y.folk(0);
    due("one in the one room", y.suspects(), 1);
    y.folk(0);
    due("two in the one room", y.suspects(), 0);

    says(0, "A SAYING CLEARS one who is no SUSPECT, if he would be one without it (LIARS found anew).");
    BackStairs z = house(2);
    for (int k = 0; k < 3; k++) z.folk(0);
    z.theft(1, 5, 5);
    due("a suspect", z.clears(0), NONE);
    sayings(z, "aaa5;bab7;cab9");
    due("a lies", z.liars(), 1);
    due("b, c and a are in b", z.suspects(), 0);
    due("nothing clears a alone", z.clears(0), 0);
    z.unsay(2);
    due("a lies, b is there with him", z.liars(), 1);
    due("a is in b with him", z.clears(0), 0);
    due("without b's word c may be there alone", z.clears(2), 2);
    due("or b himself", z.clears(1), 2);
  }

  private static void sheetsAtLarge() {
    says(0, "sheets 0 .. 3: nothing (at first), or a row of a LANE: 0 bytes, 1 shorts, 2 ints (all with a sign), of 0 to 24 items.");
    BackStairs x = house(1);
    for (int k = 0; k < 4; k++) due("nothing", x.empty(k), NULL);
    due("sheet 4", x.sheet(4, 0, 0), BAD);
    due("sheet -1", x.sheet(-1, 0, 0), BAD);
    due("lane 3", x.sheet(0, 3, 0), BAD);
    due("lane -1", x.sheet(0, -1, 0), BAD);
    due("25 items", x.sheet(0, 0, 25), BAD);
    due("-1 items", x.sheet(0, 0, -1), SIZE);
    for (int k = 0; k < 4; k++) {
      due("24 items", x.sheet(k, k % 3, 24), 24);
      due("the last", x.item(k, k % 3, 23, 1), 1);
      due("behind it", x.item(k, k % 3, 24, 1), INDEX);
      due("0 items", x.sheet(k, k % 3, 0), 0);
      due("no first", x.item(k, k % 3, 0, 1), INDEX);
      due("a row, though of none", x.empty(k), 0);
      due("nothing", x.empty(k), NULL);
    }
    int[][] ranks = {{128, 0}, {255, 0}, {256 + 9, 9}, {-256 + 9, 9}, {-247, 9}, {-1, 0}};
    for (int[] r : ranks) due("the byte of " + r[0], rankOf(r[0], 0), r[1]);
    int[][] shorts = {{256 + 9, 0}, {32768, 0}, {65535, 0}, {65536 + 9, 9}, {-65536 + 9, 9}};
    for (int[] r : shorts) due("the short of " + r[0], rankOf(r[0], 1), r[1]);
    int[][] ints = {{65536 + 9, 0}, {Integer.MIN_VALUE + 9, 0}, {-1, 0}, {9, 9}};
    for (int[] r : ints) due("the int of " + r[0], rankOf(r[0], 2), r[1]);
  }

  /** What rank an errand has whose rank was put onto a sheet so; 0: it is not as told. */
  private static int rankOf(int v, int lane) {
    BackStairs x = house(1);
    x.sheet(0, lane, 5);
    x.item(0, lane, 2, v);
    return x.errands(0, lane, 0, 1) == NOT ? 0 : x.told(0, 2);
  }

  // ---- terms: answers below 0

  private static void orderOfAnswers() {
    says(0, "Answers below 0, of several BAD ahead of all others, then the first that a call names");
    BackStairs f = fullHouse();
    due("door: BAD, NOT", f.door(0, 1, 2), BAD);
    due("door: BAD, FULL", f.door(4, 4, 0), BAD);
    due("door: NOT, FULL", f.door(0, 1, 0), NOT);
    due("type: BAD, FULL", f.type(31, 1), BAD);
    due("servant: BAD, FULL", f.servant(10), BAD);
    due("errand: BAD, FULL", f.errand(0, 0, 1, 1, 0), BAD);
    due("folk: BAD, FULL", f.folk(2), BAD);
    due("say: BAD, FULL", f.say(0, 0, 0, 24), BAD);
    due("walk: FAULT, FULL", f.walk(), -100);
    due("sayings: FAULT, FULL", sayings(f, "aaa24"), -23);
    due("walk: FULL", walk(f, "a1"), FULL);
    f.sheet(0, 0, 5);
    due("errands: NOT, FULL", f.errands(0, 0, 0, 1), NOT);
    due("errands: INDEX, NOT, FULL", f.errands(0, 0, 1, 1), INDEX);
    for (int s = 0; s < 3; s++) f.ill(s, true);
    due("told: BAD, NOT", f.told(5, 5), BAD);
    due("told: BAD, CAST", f.told(-1, 7), BAD);
    due("told: CAST, NOT", f.told(0, 7), CAST);
    due("told: NOT", f.told(1, 7), NOT);
    due("cost: BAD, NOT", f.cost(2), BAD);
    due("does: BAD, NOT", f.does(0, 0, -1), BAD);
    due("does: NOT, NONE", f.does(0, 0, 9), NOT);
    due("missed: BAD, NOT", f.missed(3), BAD);
    due("opened: BAD, NOT", f.opened(1, 1), BAD);
    due("opened: NOT, NONE", f.opened(0, 1), NOT);
    f.ill(0, false);
    due("opened: NONE", f.opened(0, 1), NONE);
    due("does: BAD, NONE", f.does(2, 1, 0), BAD);
    due("enough: NONE", f.enough(), NONE);
    for (int s = 0; s < 3; s++) f.ill(s, true);
    due("enough: NOT, NONE", f.enough(), NOT);
    BackStairs e = new BackStairs();
    e.folk(0);
    due("maybe: BAD, NOT", e.maybe(0, 24), BAD);
    due("maybe: NOT", e.maybe(0, 23), NOT);
    due("clears: BAD, NOT", e.clears(1), BAD);
    due("clears: NOT", e.clears(0), NOT);
    BackStairs t = chain(2);
    due("trip: BAD, NONE", t.trip(0, 23, 1, PLAIN, -2), BAD);
    due("trip: NONE", t.trip(0, 23, 1, PLAIN, 23), NONE);

    says(0, "NULL, CAST, INDEX, SIZE in this order");
    BackStairs s = house(1);
    due("errands: BAD, NULL", s.errands(0, 0, 0, 5), BAD);
    due("errands: NULL, INDEX", s.errands(0, 0, -1, 1), NULL);
    due("item: BAD, NULL", s.item(0, 3, 0, 0), BAD);
    due("item: NULL, INDEX", s.item(0, 0, -1, 0), NULL);
    s.sheet(0, 0, 3);
    due("errands: BAD, CAST", s.errands(0, 1, -1, 0), BAD);
    due("errands: CAST, INDEX", s.errands(0, 1, -1, 1), CAST);
    due("item: CAST, INDEX", s.item(0, 1, 3, 0), CAST);
    due("item: BAD, INDEX", s.item(4, 0, 3, 0), BAD);
    due("copy: BAD, NULL", s.copy(4, 0, 1, 0, 0), BAD);
    due("copy: NULL, INDEX", s.copy(0, 9, 1, 0, -1), NULL);
    due("copy: NULL of the first, INDEX", s.copy(1, 0, 0, -1, 0), NULL);
    s.sheet(1, 1, 3);
    due("copy: CAST, INDEX", s.copy(0, 9, 1, 9, -1), CAST);
    due("copy: BAD, CAST", s.copy(0, 9, 4, 9, -1), BAD);
    due("sheet: BAD, SIZE", s.sheet(0, 3, -1), BAD);
    due("sheet: SIZE", s.sheet(0, 2, -1), SIZE);

    says(0, "INDEX also where no item is taken, if i, j is below 0, or above how many there are");
    s.sheet(1, 0, 5);
    due("none", s.copy(0, 3, 1, 5, 0), 0);
    due("i above", s.copy(0, 4, 1, 5, 0), INDEX);
    due("j above", s.copy(0, 3, 1, 6, 0), INDEX);
    due("i below", s.copy(0, -1, 1, 5, 0), INDEX);
    due("j below", s.copy(0, 3, 1, -1, 0), INDEX);
    due("far above", s.copy(0, Integer.MAX_VALUE, 1, 0, 0), INDEX);
    due("far below", s.copy(0, 0, 1, Integer.MIN_VALUE, 0), INDEX);
  }

  private static void setsOfBits() {
    says(0, "Sets are bits.");
    BackStairs x = house(10);
    x.folk(0);
    x.folk(0);
    x.say(1, 1, 9, 0);
    due("rooms", x.maybe(1, 23), 1 << 9);
    x.theft(8, 5, 5);
    for (int k = 1; k < 11; k++) x.say(1, 1, 9, k);
    due("sayings so far", x.say(0, 0, 0, 0), 11);
    due("the last of sayings", x.clears(0), 1 << 11);
    due("none of many that say the same", x.clears(1), 0);
    x.unsay(11);
    due("folk", x.suspects(), 1);
    x.theft(9, 5, 5);
    due("the other", x.suspects(), 1 << 1);
    for (int k = 0; k < 3; k++) x.servant(k);
    x.errand(0, 2, 1, 0, 0);
    due("servants", x.enough(), 1 << 2);
  }

  /** As much of everything as there may be; errand 0 is a call, errand 1 is coals to a room without a door. */
  private static BackStairs fullHouse() {
    BackStairs x = house(10);
    for (int k = 1; k < 9; k++) x.door(0, k, OPEN);
    for (int k = 1; k < 8; k++) x.door(k, k + 1, BACK);
    x.door(1, 3, OPEN);
    for (int k = 0; k < 3; k++) walk(x, "b24");
    for (int k = 0; k < 3; k++) x.servant(k);
    for (int k = 0; k < 5; k++) x.errand(k % 2, k % 2 * 9, 1, 0, 0);
    for (int k = 0; k < 5; k++) x.folk(k % 2);
    for (int k = 0; k < 12; k++) x.say(k % 5, k % 5, 0, 0);
    tape(x, times(" ", 80));
    return x;
  }

  // ---- promises 1 to 8

  private static void theHouse() {
    says(1, "No ROOMS.");
    BackStairs n = new BackStairs();
    due("rooms", n.count(0), 0);
    due("a room 0", n.servant(0), BAD);
    due("ways", n.liars(), NOT);

    says(2, "A ROOM: its number. FULL: 10.");
    for (int k = 0; k < 10; k++) due("room", n.room(), k);
    due("full", n.room(), FULL);
    due("ten", n.count(0), 10);

    says(3, "A DOOR: how many there are. BAD: also one ROOM; NOT: there is one; FULL: 16.");
    due("one room", n.door(3, 3, OPEN), BAD);
    int[] odd = {-1, 10, Integer.MIN_VALUE, Integer.MAX_VALUE, 32};
    for (int r : odd) {
      due("from " + r, n.door(r, 0, OPEN), BAD);
      due("to " + r, n.door(0, r, OPEN), BAD);
    }
    due("kind -1", n.door(0, 1, -1), BAD);
    due("kind 2", n.door(0, 1, 2), BAD);
    due("the first", n.door(0, 1, BACK), 1);
    due("there is one", n.door(0, 1, BACK), NOT);
    due("from the other side, of another kind", n.door(1, 0, OPEN), NOT);
    due("its kind is as it was", n.wall(1, 0), BACK);
    for (int k = 1; k < 10; k++) due("more", n.door(0, k, OPEN), k);
    for (int k = 2; k < 9; k++) due("more", n.door(1, k, OPEN), k + 8);
    due("full", n.door(2, 3, OPEN), FULL);
    due("there is one, and full", n.door(0, 1, OPEN), NOT);

    says(4, "A DOOR goes: its KIND. BAD: also one ROOM; NONE: there is none; NOT: a GUEST goes through it.");
    for (int r : odd) {
      due("from " + r, n.wall(r, 0), BAD);
      due("to " + r, n.wall(0, r), BAD);
    }
    due("one room", n.wall(3, 3), BAD);
    due("none", n.wall(2, 3), NONE);
    due("an open one", n.wall(3, 0), OPEN);
    due("none any more", n.wall(0, 3), NONE);
    due("15", n.count(1), 15);
    walk(n, "a1b1");
    walk(n, "a22c1a1");
    due("at the first tick", n.wall(0, 1), NOT);
    due("from the other side", n.wall(1, 0), NOT);
    due("at the last tick, twice", n.wall(0, 2), NOT);
    due("through no other", n.wall(1, 2), OPEN);
    due("14", n.count(1), 14);
  }

  private static void theTape() {
    says(5, "The n lowest bytes (1 .. 8) of w, of these the highest first, come behind THE TAPE: how many it has.");
    BackStairs x = chain(2);
    due("one, none of those above", x.type(0xFFFFFFFFFFFFFF61L, 1), 1);
    due("two, the highest first", x.type(0x3262L, 2), 3);
    due("eight", x.type(0x2020202033202020L, 8), 11);
    due("a2b3", x.walk(), 0);
    due("a at 1, b at 2", x.guest(0, 1) * 10 + x.guest(0, 2), 1);

    says(5, "BAD: n, a byte not 32 .. 126");
    int[] odd = {0, -1, 9, Integer.MIN_VALUE, Integer.MAX_VALUE};
    for (int n : odd) due("n " + n, x.type(0x2020202020202020L, n), BAD);
    int[] bytes = {0, 31, 127, 128, 159, 160, 254, 255};
    for (int b : bytes) {
      due("byte " + b, x.type(b, 1), BAD);
      due("byte " + b + " ahead of seven", x.type((long) b << 56 | 0x20202020202020L, 8), BAD);
      due("byte " + b + " in the midst", x.type(0x2020202020202020L & ~(255L << 24) | (long) b << 24, 8), BAD);
    }
    due("none came; 32", x.type(32, 1), 1);
    due("126", x.type(126, 1), 2);

    says(5, "FULL: 80.");
    for (int k = 10; k <= 74; k += 8) due("more", x.type(0x2020202020202020L, 8), k);
    due("81", x.type(0x20202020202020L, 7), FULL);
    due("80", x.type(0x202020202020L, 6), 80);
    due("one more", x.type(32, 1), FULL);
    due("as it was, 126 at place 1", x.walk(), -21);

    says(6, "THE TAPE, which is empty then (by a FAULT, by FULL, too), is the WALK of a GUEST more: his number. A FAULT; FULL: 3.");
    due("empty by a fault", x.type('a', 1), 1);
    due("a fault", x.walk(), -21);
    for (int k = 1; k < 3; k++) due("a guest more", walk(x, "a1"), k);
    due("empty behind a walk", x.type('a', 1), 1);
    due("the rest of it", x.type('1', 1), 2);
    due("full", x.walk(), FULL);
    due("empty by full", x.type('b', 1), 1);
    due("a fault ahead of full", x.walk(), -21);
    due("three", x.count(2), 3);

    says(7, "Where a GUEST is at a TICK. BAD.");
    for (int g : new int[] {-1, 3, Integer.MIN_VALUE, Integer.MAX_VALUE}) due("guest " + g, x.guest(g, 0), BAD);
    for (int t : NO_TICK) due("tick " + t, x.guest(2, t), BAD);
    due("at the first", x.guest(0, 0), 0);
    due("at the last", x.guest(0, 23), 1);
  }

  private static void oneTrip() {
    says(8, "the TICK of its end (-1), its ROOM at a TICK from its first to its last.");
    BackStairs x = house(4, 0, 1, OPEN, 1, 2, BACK);
    due("its end", x.trip(0, 5, 2, PLAIN, -1), 7);
    int[] rooms = {0, 1, 2};
    for (int t = 5; t < 8; t++) due("at " + t, x.trip(0, 5, 2, PLAIN, t), rooms[t - 5]);

    says(8, "BAD: also at below -1; NONE: there is none, it is over at that TICK, not begun.");
    int[] odd = {-1, 4, Integer.MIN_VALUE, Integer.MAX_VALUE};
    for (int r : odd) {
      due("from " + r, x.trip(r, 5, 2, PLAIN, -1), BAD);
      due("to " + r, x.trip(0, 5, r, PLAIN, -1), BAD);
    }
    for (int t : NO_TICK) due("tick " + t, x.trip(0, t, 2, COALS, -1), BAD);
    for (int at : new int[] {-2, 24, Integer.MIN_VALUE, Integer.MAX_VALUE}) due("at " + at, x.trip(0, 5, 2, PLAIN, at), BAD);
    for (int at : new int[] {-1, 5, 8}) due("there is none, at " + at, x.trip(0, 5, 3, PLAIN, at), NONE);
    due("over", x.trip(0, 5, 2, PLAIN, 8), NONE);
    due("long over", x.trip(0, 5, 2, PLAIN, 23), NONE);
    due("not begun", x.trip(0, 5, 2, PLAIN, 4), NONE);
    due("long not begun", x.trip(0, 5, 2, PLAIN, 0), NONE);
  }

  // ---- promises 9 to 19

  private static void staff() {
    says(9, "A SERVANT: the number. BAD; FULL: 3.");
    BackStairs x = chain(2);
    for (int r : new int[] {-1, 2, Integer.MIN_VALUE, Integer.MAX_VALUE}) due("room " + r, x.servant(r), BAD);
    for (int k = 0; k < 3; k++) due("servant", x.servant(1), k);
    due("full", x.servant(1), FULL);
    due("three", x.count(3), 3);

    says(10, "whether that was so (1, 0). BAD.");
    for (int s : new int[] {-1, 3, 32, 31, Integer.MIN_VALUE, Integer.MAX_VALUE}) {
      due("servant " + s, x.ill(s, true), BAD);
      due("servant " + s, x.ill(s, false), BAD);
    }
    due("not ill, and not", x.ill(2, false), 0);
    due("not ill", x.ill(2, true), 0);
    due("ill, and is", x.ill(2, true), 1);
    due("ill", x.ill(2, false), 1);
    due("not ill any more", x.ill(2, true), 0);
    due("no other", x.ill(1, true) * 10 + x.ill(0, false), 0);
    due("two", x.count(4), 2);

    says(11, "THE CELLAR is a ROOM: which was. BAD.");
    for (int r : new int[] {-1, 2, Integer.MIN_VALUE, Integer.MAX_VALUE}) due("room " + r, x.cellar(r), BAD);
    due("a was", x.cellar(1), 0);
    due("b was", x.cellar(0), 1);

    says(12, "An ERRAND: its number. BAD: also DUE ahead of FROM; FULL: 5.");
    int[][] wrong = {{-1, 0, 1, 0, 0}, {2, 0, 1, 0, 0}, {0, -1, 1, 0, 0}, {0, 2, 1, 0, 0}, {0, 0, 0, 0, 0}, {0, 0, 10, 0, 0},
        {0, 0, -1, 0, 0}, {0, 0, 1, -1, 0}, {0, 0, 1, 24, 24}, {0, 0, 1, 0, -1}, {0, 0, 1, 0, 24}, {0, 0, 1, 1, 0}, {0, 0, 1, 23, 22}};
    for (int[] e : wrong) due("wrong", x.errand(e[0], e[1], e[2], e[3], e[4]), BAD);
    due("none", x.count(5), 0);
    for (int k = 0; k < 5; k++) due("errand", x.errand(1, 1, 9, k, k), k);
    for (int[] e : wrong) due("wrong, and full", x.errand(e[0], e[1], e[2], e[3], e[4]), BAD);
    due("full", x.errand(1, 1, 9, 23, 23), FULL);
    due("five", x.count(5), 5);
  }

  private static void tellingErrands() {
    says(13, "6 when it is DONE (NONE: not), 7 when COALS are taken (NONE: not). BAD; CAST: a CALL (7); NOT: all are ILL, nobody is there (5 ..).");
    BackStairs x = house(3, 0, 1, OPEN);
    x.errand(1, 1, 9, 22, 23);
    x.errand(0, 2, 1, 3, 4);
    for (int what = 5; what < 8; what++) due("nobody is there, " + what, x.told(0, what), NOT);
    due("a call, and nobody is there", x.told(1, 7), CAST);
    int[][] as = {{1, 1, 9, 22, 23}, {0, 2, 1, 3, 4}};
    for (int e = 0; e < 2; e++) for (int what = 0; what < 5; what++) due("as told", x.told(e, what), as[e][what]);
    x.servant(0);
    due("its servant", x.told(0, 5), 0);
    due("done at 23", x.told(0, 6), 23);
    due("taken at 22", x.told(0, 7), 22);
    due("not done", x.told(1, 6), NONE);
    due("its servant all the same", x.told(1, 5), 0);
    due("a call", x.told(1, 7), CAST);
    x.drop(0);
    x.errand(1, 1, 9, 23, 23);
    due("not done", x.told(1, 6), NONE);
    due("not taken", x.told(1, 7), NONE);
    for (int e : new int[] {-1, 2, Integer.MIN_VALUE, Integer.MAX_VALUE}) due("errand " + e, x.told(e, 0), BAD);
    for (int what : new int[] {-1, 8, Integer.MIN_VALUE, Integer.MAX_VALUE}) due("what " + what, x.told(0, what), BAD);
    x.ill(0, true);
    for (int what = 5; what < 8; what++) due("all are ill, " + what, x.told(1, what), NOT);
    due("as told still", x.told(1, 4), 23);

    says(14, "An ERRAND goes: how many are left (those behind it go one down). BAD.");
    due("errand -1", x.drop(-1), BAD);
    due("errand 2", x.drop(2), BAD);
    due("one left", x.drop(0), 1);
    due("the one behind", x.told(0, 0) * 10 + x.told(0, 2), 19);
    due("none left", x.drop(0), 0);
    due("none", x.drop(0), BAD);
  }

  private static void costs() {
    says(15, "COST of THE BEST (0), by THE RULE (1). BAD; NOT: all are ILL, nobody is there.");
    BackStairs x = chain(3);
    for (int how = 0; how < 2; how++) due("nobody is there", x.cost(how), NOT);
    x.servant(0);
    for (int how = 0; how < 2; how++) due("nothing to do", x.cost(how), 0);
    for (int how : new int[] {-1, 2, Integer.MIN_VALUE, Integer.MAX_VALUE}) due("how " + how, x.cost(how), BAD);
    x.errand(0, 2, 3, 0, 1);
    x.errand(0, 1, 2, 0, 1);
    due("the best", x.cost(0), 3);
    due("the rule", x.cost(1), 3 + 2 * 2);
    x.cellar(1);
    due("the rule again", x.cost(1), 3 + 2 * 2);
    x.ill(0, true);
    for (int how = 0; how < 2; how++) due("all are ill", x.cost(how), NOT);
    x.ill(0, false);
    due("well again", x.cost(0), 3);

    says(16, "BAD: also i below 0; NOT: all are ILL; NONE.");
    x.servant(0);
    for (int how = 0; how < 2; how++) {
      for (int i : new int[] {-1, Integer.MIN_VALUE}) due("i " + i, x.does(how, 0, i), BAD);
      for (int s : new int[] {-1, 2, Integer.MAX_VALUE}) due("servant " + s, x.does(how, s, 0), BAD);
    }
    for (int how : new int[] {-1, 2}) due("how " + how, x.does(how, 0, 0), BAD);
    x.ill(1, true);
    for (int how = 0; how < 2; how++) {
      due("the first", x.does(how, 0, 0), how == 0 ? 1 : 0);
      due("the second", x.does(how, 0, 1), how == 0 ? 0 : 1);
      for (int i : new int[] {2, 4, 5, 6, Integer.MAX_VALUE}) due("i " + i, x.does(how, 0, i), NONE);
      due("by one who is ill", x.does(how, 1, 0), NONE);
    }
    x.ill(0, true);
    for (int how = 0; how < 2; how++) due("all are ill", x.does(how, 0, 0), NOT);

    says(17, "NOT: all are ILL, nobody is there; NONE: THE BEST costs more than 0.");
    due("all are ill", x.enough(), NOT);
    x.ill(0, false);
    due("it costs", x.enough(), NONE);
    x.ill(1, false);
    due("two", x.enough(), NONE);
    x.drop(0);
    due("one is enough", x.enough(), 1);
    due("nobody is there", house(1).enough(), NOT);
  }

  private static void oneLessOneMore() {
    says(18, "By how much THE BEST costs more, if a SERVANT were ILL, too (0: he is). BAD; NOT: nobody else is left.");
    BackStairs x = chain(3);
    due("nobody", x.missed(0), BAD);
    x.servant(0);
    x.errand(0, 0, 4, 0, 0);
    due("the only one", x.missed(0), NOT);
    x.servant(1);
    due("the other comes at 1", x.missed(0), 4);
    due("the other does nothing", x.missed(1), 0);
    for (int s : new int[] {-1, 2, Integer.MIN_VALUE, Integer.MAX_VALUE}) due("servant " + s, x.missed(s), BAD);
    BackStairs m = chain(3);
    m.servant(0);
    m.servant(1);
    m.errand(0, 2, 3, 0, 0);
    due("the best costs", m.cost(0), 3);
    due("the other is a tick farther", m.missed(1), 3);
    due("the nearer one is there", m.missed(0), 0);
    x.ill(0, true);
    due("he is", x.missed(0), 0);
    due("the last who is well", x.missed(1), NOT);
    due("the cost is as it was", x.cost(0), 4);

    says(19, "(0, if it costs more: COALS may be taken sooner, and come later). BAD: also one ROOM; NOT: all are ILL, nobody is there; NONE: there is a DOOR.");
    BackStairs y = house(7, 0, 1, OPEN, 1, 2, OPEN, 0, 5, OPEN, 3, 4, BACK, 3, 6, OPEN);
    due("nobody is there", y.opened(0, 3), NOT);
    due("nobody is there, and a door is", y.opened(0, 1), NOT);
    walk(y, "b2a2f20");
    walk(y, "g2d8g14");
    y.servant(0);
    y.errand(1, 2, 1, 0, 0);
    due("coals at 4, there at 6", y.cost(0), 6);
    due("coals at 0, there at 13", y.opened(0, 3), 0);
    due("there is a door", y.opened(0, 1), NONE);
    due("a back door", y.opened(4, 3), NONE);
    due("one room", y.opened(3, 3), BAD);
    for (int r : new int[] {-1, 7, Integer.MIN_VALUE, Integer.MAX_VALUE}) {
      due("from " + r, y.opened(r, 0), BAD);
      due("to " + r, y.opened(0, r), BAD);
    }
    due("straight to c at 1", y.opened(0, 2), 6 - 1);
    y.ill(0, true);
    due("all are ill", y.opened(0, 3), NOT);
    due("no door came", y.count(1), 5);
  }

  // ---- promises 20 to 31

  private static void talk() {
    says(20, "One of FOLK: the number. BAD; FULL: 5.");
    BackStairs x = chain(2);
    for (int k : new int[] {-1, 2, Integer.MIN_VALUE, Integer.MAX_VALUE}) due("kind " + k, x.folk(k), BAD);
    for (int k = 0; k < 5; k++) due("one", x.folk(k % 2), k);
    due("full", x.folk(0), FULL);
    due("five", x.count(6), 5);

    says(21, "A SAYING: its number. BAD; FULL: 12.");
    for (int k : new int[] {-1, 5, Integer.MIN_VALUE, Integer.MAX_VALUE}) {
      due("by " + k, x.say(k, 0, 0, 0), BAD);
      due("of " + k, x.say(0, k, 0, 0), BAD);
    }
    for (int r : new int[] {-1, 2, Integer.MIN_VALUE, Integer.MAX_VALUE}) due("room " + r, x.say(0, 0, r, 0), BAD);
    for (int t : NO_TICK) due("tick " + t, x.say(0, 0, 0, t), BAD);
    due("none", x.count(7), 0);
    for (int k = 0; k < 12; k++) due("saying", x.say(4, 4, 1, 23), k);
    due("full", x.say(4, 4, 1, 23), FULL);
    due("twelve", x.count(7), 12);

    says(22, "THE TAPE, which is empty then (by a FAULT, by FULL, too), is SAYINGS: how many. A FAULT; FULL: not all have room (none comes).");
    due("no room for one", sayings(x, "aaa0"), FULL);
    due("empty by full", x.type('a', 1), 1);
    due("a fault ahead of full", x.sayings(), -21);
    due("empty by a fault", x.type('a', 1), 1);
    due("a fault", x.sayings(), -21);
    for (int k = 11; k > 6; k--) x.unsay(0);
    due("seven", x.unsay(0), 6);
    due("one more", sayings(x, "eeb23"), 1);
    due("no room for six", sayings(x, times("aaa0;", 5) + "aaa0"), FULL);
    due("none came", x.count(7), 7);
    due("nor counts", x.maybe(0, 0), 3);
    due("room for five", sayings(x, times("aaa0;", 4) + "aaa0"), 5);
    due("twelve", x.count(7), 12);
    due("empty behind sayings", x.type('a', 1), 1);

    says(23, "A SAYING is taken back: how many are left (those behind it go one down). BAD.");
    for (int k : new int[] {-1, 12, Integer.MIN_VALUE, Integer.MAX_VALUE}) due("saying " + k, x.unsay(k), BAD);
    due("the last", x.unsay(11), 11);
    due("it is gone", x.unsay(11), BAD);
    for (int k = 10; k >= 4; k--) due("the first", x.unsay(0), k);
    due("those behind are left", x.maybe(0, 0) * 10 + x.maybe(4, 23), 13);
    for (int k = 3; k >= 0; k--) due("the first", x.unsay(0), k);
    due("none", x.unsay(0), BAD);
    due("nothing is said", x.maybe(0, 0), 3);

    says(24, "LIARS, as a set. NOT: there are no ROOMS.");
    BackStairs n = new BackStairs();
    due("no rooms", n.liars(), NOT);
    n.folk(0);
    due("no rooms, but one of folk", n.liars(), NOT);
    due("rooms", x.liars(), 0);

    says(25, "ROOMS in which one MAY BE at a TICK, as a set. BAD; NOT: there are no ROOMS.");
    due("no rooms", n.maybe(0, 0), NOT);
    for (int k : new int[] {-1, 1, Integer.MIN_VALUE, Integer.MAX_VALUE}) due("one " + k, n.maybe(k, 0), BAD);
    for (int t : NO_TICK) due("tick " + t, n.maybe(0, t), BAD);
    n.room();
    due("a room", n.maybe(0, 23), 1);
  }

  private static void afterTheTheft() {
    says(26, "THE THEFT: 1. BAD: also to ahead of from.");
    BackStairs x = chain(2);
    for (int r : new int[] {-1, 2, Integer.MIN_VALUE, Integer.MAX_VALUE}) due("room " + r, x.theft(r, 0, 0), BAD);
    for (int t : NO_TICK) {
      due("from " + t, x.theft(0, t, 23), BAD);
      due("to " + t, x.theft(0, 0, t), BAD);
    }
    due("to ahead of from", x.theft(0, 23, 22), BAD);
    due("none", x.suspects(), NOT);

    says(27, "SUSPECTS, as a set. NOT: there was no THEFT.");
    x.folk(0);
    due("no theft", x.suspects(), NOT);
    due("one tick", x.theft(1, 23, 23), 1);
    due("a suspect", x.suspects(), 1);
    for (int k = 1; k < 5; k++) x.folk(0);
    due("five", x.suspects(), 31);

    says(28, "SAYINGS each of which CLEARS one, as a set. BAD; NOT: there was no THEFT; NONE: he is a SUSPECT.");
    BackStairs n = house(1);
    n.folk(0);
    due("no theft", n.clears(0), NOT);
    for (int k : new int[] {-1, 5, Integer.MIN_VALUE, Integer.MAX_VALUE}) due("one " + k, x.clears(k), BAD);
    due("a suspect", x.clears(4), NONE);
    due("a saying", x.say(4, 4, 0, 23), 0);
    due("it clears", x.clears(4), 1);
    due("one more that says so", x.say(3, 4, 0, 23), 1);
    due("neither does", x.clears(4), 0);
    due("but the one who said so", x.clears(3), 2);

    says(29, "7 SAYINGS. BAD.");
    BackStairs f = fullHouse();
    int[] most = {10, 16, 3, 3, 0, 5, 5, 12};
    for (int k = 0; k < 8; k++) due("count(" + k + ")", f.count(k), most[k]);
    for (int s = 0; s < 3; s++) f.ill(s, true);
    due("all are ill", f.count(4), 3);
    for (int k : new int[] {-1, 8, Integer.MIN_VALUE, Integer.MAX_VALUE}) due("count(" + k + ")", f.count(k), BAD);

    says(30, "All but SHEETS, THE TAPE is kept as an IMAGE: 1.");
    BackStairs i = new BackStairs();
    due("of nothing", i.image(), 1);
    i.room();
    i.folk(0);
    i.theft(0, 0, 0);
    i.sheet(3, 0, 4);
    tape(i, "a1");
    says(31, "All is as it was then: 1. NONE: there is none.");
    due("none", chain(2).restore(), NONE);
    due("nothing again", i.restore(), 1);
    due("no rooms, no folk", i.count(0) + i.count(6), 0);
    due("no theft", i.suspects(), NOT);
    due("the sheet is there", i.empty(3), 4);
    due("the tape is there", i.type(32, 1), 3);
    due("once more", i.restore(), 1);
    whatIsRestored();
    due("of a full house", f.image(), 1);
    for (int k = 0; k < 5; k++) f.drop(0);
    for (int k = 0; k < 12; k++) f.unsay(0);
    for (int s = 0; s < 3; s++) f.ill(s, false);
    f.wall(0, 1);
    due("as it was", f.restore(), 1);
    most[4] = 3;
    for (int k = 0; k < 8; k++) due("count(" + k + ")", f.count(k), most[k]);
    due("full", f.errand(0, 0, 1, 0, 0), FULL);
  }

  /** Between image and restore each thing is another, and asked for. */
  private static void whatIsRestored() {
    BackStairs x = chain(3);
    x.servant(0);
    x.errand(1, 2, 1, 0, 0);
    x.image();
    x.wall(1, 2);
    due("without the door", x.cost(0) * 100 + x.trip(0, 0, 2, PLAIN, -1), 2400 + NONE);
    x.restore();
    due("with it", x.cost(0) * 100 + x.trip(0, 0, 2, PLAIN, -1), 202);
    walk(x, "b1");
    due("with a guest", x.cost(0) * 100 + x.trip(0, 0, 2, COALS, -1), 2400 + NONE);
    x.restore();
    due("without him", x.cost(0) * 100 + x.trip(0, 0, 2, COALS, -1), 202);
    x.cellar(2);
    due("from another cellar", x.told(0, 7), 2);
    x.restore();
    due("from this one", x.told(0, 7), 0);
    due("it was", x.cellar(1), 0);
    x.ill(0, true);
    due("all are ill", x.cost(0), NOT);
    x.restore();
    due("nobody is", x.cost(0), 2);
    int[] other = {0, 1, 9, 1, 1};
    int[] as = {1, 2, 1, 0, 0};
    x.drop(0);
    x.errand(other[0], other[1], other[2], other[3], other[4]);
    for (int k = 0; k < 5; k++) due("another errand", x.told(0, k), other[k]);
    due("its cost", x.cost(0), 9);
    x.restore();
    for (int k = 0; k < 5; k++) due("this errand", x.told(0, k), as[k]);
    due("its cost", x.cost(0), 2);
    sayingsAndTheftAgain();
  }

  private static void sayingsAndTheftAgain() {
    BackStairs x = chain(3);
    for (int k = 0; k < 3; k++) x.folk(0);
    x.say(0, 1, 2, 5);
    x.theft(2, 5, 5);
    x.image();
    int[][] said = {{2, 1, 2, 5}, {0, 2, 2, 5}, {0, 1, 1, 5}, {0, 1, 2, 6}};
    for (int[] w : said) {
      x.unsay(0);
      x.say(w[0], w[1], w[2], w[3]);
      due("another saying", x.maybe(0, 5) == 4 && x.maybe(1, 5) == 4 && x.maybe(2, 5) == 7 ? 1 : 0, 0);
      x.restore();
      due("of a", x.maybe(0, 5), 4);
      due("of b", x.maybe(1, 5), 4);
      due("not of c", x.maybe(2, 5), 7);
    }
    int[][] thefts = {{2, 4, 5, 7}, {2, 5, 6, 7}, {1, 5, 5, 4}};
    for (int[] t : thefts) {
      x.theft(t[0], t[1], t[2]);
      due("another theft", x.suspects(), t[3]);
      x.restore();
      due("this theft", x.suspects(), 0);
    }
  }

  // ---- promises 32 to 36

  private static void errandsFromSheets() {
    says(32, "from item i on, n of them (1 .. 4), five items each (as errand()): how many there are then. "
        + "BAD; NULL; CAST; INDEX; NOT: one is not as told; FULL.");
    BackStairs x = chain(2);
    due("nothing", x.errands(0, 0, 0, 1), NULL);
    x.sheet(0, 1, 24);
    for (int k = 0; k < 4; k++) fill(x, 0, 1, 4 + 5 * k, k % 2, 1, 9 - k, k, 23);
    for (int s : new int[] {-1, 4, Integer.MIN_VALUE, Integer.MAX_VALUE}) due("sheet " + s, x.errands(s, 1, 4, 1), BAD);
    for (int l : new int[] {-1, 3, Integer.MIN_VALUE, Integer.MAX_VALUE}) due("lane " + l, x.errands(0, l, 4, 1), BAD);
    for (int n : new int[] {0, -1, 5, Integer.MIN_VALUE, Integer.MAX_VALUE}) due("n " + n, x.errands(0, 1, 4, n), BAD);
    due("bytes", x.errands(0, 0, 4, 1), CAST);
    due("ints", x.errands(0, 2, 4, 1), CAST);
    for (int i : new int[] {-1, 5, 24, 25, Integer.MIN_VALUE, Integer.MAX_VALUE, Integer.MAX_VALUE - 19}) due("four from " + i, x.errands(0, 1, i, 4), INDEX);
    due("one from 20", x.errands(0, 1, 20, 1), INDEX);
    due("not as told", x.errands(0, 1, 0, 4), NOT);
    due("none came", x.count(5), 0);
    due("four to the end", x.errands(0, 1, 4, 4), 4);
    for (int k = 0; k < 4; k++) due("rank", x.told(k, 2), 9 - k);
    due("two", x.errands(0, 1, 4, 2), FULL);
    due("none came", x.count(5), 4);
    due("one", x.errands(0, 1, 19, 1), 5);
    due("one more", x.errands(0, 1, 19, 1), FULL);
    for (int k = 0; k < 4; k++) x.drop(0);
    int[][] wrong = {{0, -1}, {0, 2}, {1, -1}, {1, 2}, {2, 0}, {2, 10}, {3, -1}, {3, 24}, {4, -1}, {4, 24}, {4, 2}};
    for (int[] w : wrong) {
      int was = w[0] == 0 ? 1 : w[0] == 1 ? 1 : w[0] == 2 ? 6 : w[0] == 3 ? 3 : 23;
      x.item(0, 1, 19 + w[0], w[1]);
      due("the last of two is wrong: item " + w[0] + " is " + w[1], x.errands(0, 1, 14, 2), NOT);
      x.item(0, 1, 19 + w[0], was);
    }
    due("none came", x.count(5), 1);
    due("four", x.errands(0, 1, 4, 4), 5);
  }

  private static void rows() {
    says(33, "A SHEET holds a new row of a LANE: n. BAD: also n above 24; SIZE: n below 0.");
    BackStairs x = house(1);
    for (int s : new int[] {-1, 4, Integer.MIN_VALUE, Integer.MAX_VALUE}) due("sheet " + s, x.sheet(s, 0, 1), BAD);
    for (int l : new int[] {-1, 3, Integer.MIN_VALUE, Integer.MAX_VALUE}) due("lane " + l, x.sheet(0, l, 1), BAD);
    for (int n : new int[] {25, Integer.MAX_VALUE}) due("n " + n, x.sheet(0, 0, n), BAD);
    for (int n : new int[] {-1, Integer.MIN_VALUE}) due("n " + n, x.sheet(0, 0, n), SIZE);
    due("nothing came", x.empty(0), NULL);
    due("0", x.sheet(0, 0, 0), 0);
    due("24", x.sheet(0, 2, 24), 24);
    due("the row ahead is gone", x.item(0, 0, 0, 0), CAST);

    says(34, "A SHEET holds nothing: how many items it had. BAD; NULL.");
    for (int s : new int[] {-1, 4, Integer.MIN_VALUE, Integer.MAX_VALUE}) due("sheet " + s, x.empty(s), BAD);
    due("24", x.empty(0), 24);
    due("nothing", x.empty(0), NULL);
    due("nothing at first", x.empty(3), NULL);

    says(35, "Item i of a SHEET, taken as a row of a LANE, becomes v, its lowest bits: 1. BAD; NULL; CAST; INDEX.");
    due("nothing", x.item(0, 2, 0, 0), NULL);
    x.sheet(3, 2, 24);
    for (int s : new int[] {-1, 4, Integer.MIN_VALUE, Integer.MAX_VALUE}) due("sheet " + s, x.item(s, 2, 0, 0), BAD);
    for (int l : new int[] {-1, 3, Integer.MIN_VALUE, Integer.MAX_VALUE}) due("lane " + l, x.item(3, l, 0, 0), BAD);
    for (int l = 0; l < 2; l++) due("lane " + l, x.item(3, l, 0, 0), CAST);
    for (int i : new int[] {-1, 24, Integer.MIN_VALUE, Integer.MAX_VALUE}) due("item " + i, x.item(3, 2, i, 0), INDEX);
    for (int i : new int[] {0, 23}) for (int v : new int[] {0, -1, Integer.MIN_VALUE, Integer.MAX_VALUE}) due("item " + i, x.item(3, 2, i, v), 1);
  }

  private static void copies() {
    says(36, "n items of a SHEET from i on come to another one (or the same) from j on, as if all were taken ahead: n.");
    due("up by one", ranksBehind(0, 0, 1, 3), 11235);
    due("up by two", ranksBehind(0, 0, 2, 3), 12123);
    due("down by one", ranksBehind(0, 1, 0, 4), 23455);
    due("in its place", ranksBehind(0, 0, 0, 5), 12345);
    due("none", ranksBehind(0, 5, 5, 0), 12345);
    due("to another", ranksBehind(1, 1, 2, 3), 99234);
    due("all to another", ranksBehind(1, 0, 0, 5), 12345);

    says(36, "BAD; NULL (either); CAST: of unlike LANES; INDEX (n below 0, too).");
    BackStairs x = house(1);
    x.sheet(0, 0, 3);
    x.sheet(1, 0, 5);
    x.sheet(2, 1, 5);
    for (int s : new int[] {-1, 4, Integer.MIN_VALUE, Integer.MAX_VALUE}) {
      due("from " + s, x.copy(s, 0, 1, 0, 1), BAD);
      due("to " + s, x.copy(0, 0, s, 0, 1), BAD);
    }
    due("from nothing", x.copy(3, 0, 1, 0, 1), NULL);
    due("to nothing", x.copy(0, 0, 3, 0, 1), NULL);
    due("from nothing to itself", x.copy(3, 0, 3, 0, 0), NULL);
    due("unlike", x.copy(0, 0, 2, 0, 1), CAST);
    due("unlike the other way", x.copy(2, 0, 0, 0, 0), CAST);
    for (int n : new int[] {-1, 4, 6, Integer.MIN_VALUE, Integer.MAX_VALUE}) due("n " + n, x.copy(0, 0, 1, 0, n), INDEX);
    for (int i : new int[] {-1, 1, 3, Integer.MIN_VALUE, Integer.MAX_VALUE}) due("i " + i, x.copy(0, i, 1, 0, 3), INDEX);
    for (int j : new int[] {-1, 3, 5, Integer.MIN_VALUE, Integer.MAX_VALUE}) due("j " + j, x.copy(0, 0, 1, j, 3), INDEX);
    due("n below 0 from above", x.copy(0, 3, 1, 5, -1), INDEX);
    due("all that there are", x.copy(0, 0, 1, 2, 3), 3);
  }

  /** Sheet 0 is 1 2 3 4 5, sheet 1 is 9 9 9 9 9; the digits of the one to which n items came from sheet 0. */
  private static int ranksBehind(int to, int i, int j, int n) {
    BackStairs x = house(1);
    x.sheet(0, 2, 5);
    fill(x, 0, 2, 0, 1, 2, 3, 4, 5);
    x.sheet(1, 2, 5);
    fill(x, 1, 2, 0, 9, 9, 9, 9, 9);
    due("how many", x.copy(0, i, to, j, n), n);
    x.sheet(2, 2, 5);
    int digits = 0;
    for (int k = 0; k < 5; k++) {
      x.copy(to, k, 2, 2, 1);
      x.errands(2, 2, 0, 1);
      digits = digits * 10 + x.told(0, 2);
      x.drop(0);
    }
    return digits;
  }

  // ---- is all of the document's there?

  private static String plain(String text) {
    return text.replaceAll("\\s+", " ");
  }

  /** The document's part for a promise (0: ahead of all), without what only shows how a call is written. */
  private static String part(String whole, int where) {
    int begin = where == 0 ? whole.indexOf("## Terms") : whole.indexOf("## Promise " + where + ":");
    int end = whole.indexOf("## ", begin + 3);
    String text = plain(whole.substring(begin, end));
    return where == 0 ? text : text.substring(text.indexOf("`: ") + 2);
  }

  private static void lookUp(Path document) throws Exception {
    words = "";
    String whole = Files.readString(document);
    for (int where = 0; where <= 36; where++) {
      promise = where;
      String text = part(whole, where);
      boolean[] covered = new boolean[text.length()];
      for (String what : said.getOrDefault(where, List.of())) {
        int at = text.indexOf(what);
        due("whether the document says: " + what, at < 0 ? 0 : 1, 1);
        for (int k = Math.max(at, 0); at >= 0 && k < at + what.length(); k++) covered[k] = true;
      }
      String boundary = where == 0 ? "\\d \\.\\. \\d|\\bat most\\b|\\bof like ones\\b|\\b1 to \\d" : "\\b(BAD|NOT|FULL|NONE|NULL|CAST|INDEX|SIZE|FAULT)\\b";
      Matcher m = Pattern.compile(boundary).matcher(text);
      while (m.find()) {
        due("whether there is a test for: .. " + text.substring(m.start()), covered[m.start()] ? 1 : 0, 1);
      }
    }
  }

  public static void main(String[] args) throws Exception {
    roomsAndDoors();
    ticks();
    walks();
    faults();
    trips();
    servantsAndErrands();
    doing();
    likePlans();
    folkAndSayings();
    liarsAndWays();
    theTheft();
    sheetsAtLarge();
    orderOfAnswers();
    setsOfBits();
    theHouse();
    theTape();
    oneTrip();
    staff();
    tellingErrands();
    costs();
    oneLessOneMore();
    talk();
    afterTheTheft();
    errandsFromSheets();
    rows();
    copies();
    if (args.length > 0) lookUp(Path.of(args[0]));
    finish("boundaries");
  }
}
