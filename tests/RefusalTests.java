import java.util.ArrayList;
import java.util.List;
import java.util.function.Supplier;
import java.util.function.ToIntFunction;

/**
 * "What answers so changes nothing, but as told": of two objects made alike one refuses a call, then both are asked
 * for all that can be asked; no answer may differ.
 */
public final class RefusalTests extends Kit {
  private static Supplier<BackStairs> making;
  private static List<Integer> before;

  /** From here on objects are made so. */
  private static void of(Supplier<BackStairs> how) {
    making = how;
    before = everything(how.get());
  }

  private static void refused(String call, int want, ToIntFunction<BackStairs> how) {
    BackStairs x = making.get();
    due(call, how.applyAsInt(x), want);
    List<Integer> behind = everything(x);
    int differ = 0;
    for (int k = 0; k < before.size(); k++) if (!before.get(k).equals(behind.get(k))) differ++;
    due("answers that differ behind " + call + ", refused by " + want, differ + Math.abs(before.size() - behind.size()), 0);
  }

  /** Asks for all that an object holds, its image, sheets and tape, too; what it held is gone then. */
  private static List<Integer> everything(BackStairs x) {
    List<Integer> all = new ArrayList<>();
    all.add(x.type(' ', 1));
    theHouse(x, all);
    theStaff(x, all);
    theTalk(x, all);
    theSheets(x, all);
    all.add(x.walk());
    all.add(x.restore());
    theHouse(x, all);
    all.add(x.cost(0));
    all.add(x.liars());
    all.add(x.suspects());
    all.add(x.cellar(0));
    return all;
  }

  private static void theHouse(BackStairs x, List<Integer> all) {
    for (int k = 0; k < 8; k++) all.add(x.count(k));
    for (int g = 0; g < 3; g++) for (int t = 0; t < 24; t += 3) all.add(x.guest(g, t));
    for (int a = 0; a < 5; a++) for (int b = 0; b < 5; b++) all.add(x.trip(a, 2, b, (a + b) % 2 == 0, -1));
  }

  private static void theStaff(BackStairs x, List<Integer> all) {
    for (int e = 0; e < 5; e++) for (int what = 0; what < 8; what++) all.add(x.told(e, what));
    for (int how = 0; how < 2; how++) {
      all.add(x.cost(how));
      for (int s = 0; s < 3; s++) for (int i = 0; i < 2; i++) all.add(x.does(how, s, i));
    }
    all.add(x.enough());
    for (int s = 0; s < 3; s++) all.add(x.missed(s));
    for (int s = 0; s < 3; s++) all.add(x.ill(s, false));
    all.add(x.cost(0));
  }

  private static void theTalk(BackStairs x, List<Integer> all) {
    all.add(x.liars());
    for (int f = 0; f < 5; f++) for (int t = 1; t < 24; t += 5) all.add(x.maybe(f, t));
    all.add(x.suspects());
    for (int f = 0; f < 5; f++) all.add(x.clears(f));
  }

  private static void theSheets(BackStairs x, List<Integer> all) {
    for (int e = 0; e < 5; e++) x.drop(0);
    for (int s = 0; s < 4; s++) {
      for (int lane = 0; lane < 3; lane++) all.add(x.item(s, lane, -1, 0));
      for (int lane = 0; lane < 3; lane++) {
        if (x.errands(s, lane, 0, 1) != 1) continue;
        for (int what = 0; what < 5; what++) all.add(x.told(0, what));
        x.drop(0);
      }
      all.add(x.empty(s));
    }
  }

  /** Nothing of a house, but one of folk, an image without him, and a letter on the tape. */
  private static BackStairs bare() {
    BackStairs x = new BackStairs();
    x.image();
    x.folk(0);
    tape(x, "a");
    return x;
  }

  /** Some of everything, and an image of other things. */
  private static BackStairs some() {
    BackStairs x = house(5, 0, 1, OPEN, 1, 2, OPEN, 2, 3, BACK, 0, 3, BACK);
    x.image();
    walk(x, "a3b4c1");
    walk(x, "c5b1a2");
    x.servant(0);
    x.servant(3);
    x.ill(0, true);
    x.cellar(1);
    x.errand(0, 2, 3, 1, 4);
    x.errand(1, 0, 5, 0, 6);
    x.folk(0);
    x.folk(1);
    sayings(x, "aaa4;abc8;bbd2;bad3");
    x.theft(2, 6, 9);
    x.sheet(0, 0, 24);
    fill(x, 0, 0, 0, 1, 2, 3, 4, 5);
    x.sheet(1, 1, 7);
    fill(x, 1, 1, 0, 0, 1, 2, 3, 4, 9);
    x.sheet(2, 1, 0);
    tape(x, "a2b");
    return x;
  }

  /** All are ill, and there is no room for more. */
  private static BackStairs full() {
    BackStairs x = house(10);
    for (int k = 1; k < 9; k++) x.door(0, k, OPEN);
    for (int k = 1; k < 9; k++) x.door(k, k + 1, BACK);
    for (int k = 0; k < 3; k++) walk(x, "b20a1");
    for (int k = 0; k < 3; k++) x.servant(2 * k);
    for (int k = 0; k < 4; k++) x.errand(k % 2, k + 3, 1 + k, k, 2 + 2 * k);
    for (int k = 0; k < 5; k++) x.folk(k % 2);
    for (int k = 0; k < 11; k++) x.say(k % 5, (k + 2) % 5, k % 3, 2 * k);
    x.image();
    x.errand(0, 9, 9, 0, 3);
    x.say(4, 3, 8, 23);
    for (int k = 0; k < 3; k++) x.ill(k, true);
    x.sheet(3, 2, 10);
    fill(x, 3, 2, 0, 0, 1, 2, 3, 4, 1, 0, 9, 23, 23);
    tape(x, "a".repeat(80));
    return x;
  }

  private static void inABareHouse() {
    of(RefusalTests::bare);
    refused("door(0, 1, 0)", BAD, x -> x.door(0, 1, 0));
    refused("wall(0, 1)", BAD, x -> x.wall(0, 1));
    refused("type(31, 1)", BAD, x -> x.type(31, 1));
    refused("guest(0, 0)", BAD, x -> x.guest(0, 0));
    refused("trip(0, 0, 0, true, -1)", BAD, x -> x.trip(0, 0, 0, true, -1));
    refused("servant(0)", BAD, x -> x.servant(0));
    refused("ill(0, true)", BAD, x -> x.ill(0, true));
    refused("cellar(0)", BAD, x -> x.cellar(0));
    refused("errand(0, 0, 1, 0, 0)", BAD, x -> x.errand(0, 0, 1, 0, 0));
    refused("told(0, 0)", BAD, x -> x.told(0, 0));
    refused("drop(0)", BAD, x -> x.drop(0));
    refused("cost(0)", NOT, x -> x.cost(0));
    refused("cost(1)", NOT, x -> x.cost(1));
    refused("does(0, 0, 0)", BAD, x -> x.does(0, 0, 0));
    refused("enough()", NOT, x -> x.enough());
    refused("missed(0)", BAD, x -> x.missed(0));
    refused("opened(0, 1)", BAD, x -> x.opened(0, 1));
    refused("say(0, 0, 0, 0)", BAD, x -> x.say(0, 0, 0, 0));
    refused("unsay(0)", BAD, x -> x.unsay(0));
    refused("liars()", NOT, x -> x.liars());
    refused("maybe(0, 0)", NOT, x -> x.maybe(0, 0));
    refused("theft(0, 0, 0)", BAD, x -> x.theft(0, 0, 0));
    refused("suspects()", NOT, x -> x.suspects());
    refused("clears(0)", NOT, x -> x.clears(0));
    refused("errands(0, 0, 0, 1)", NULL, x -> x.errands(0, 0, 0, 1));
    refused("empty(3)", NULL, x -> x.empty(3));
    refused("item(0, 0, 0, 1)", NULL, x -> x.item(0, 0, 0, 1));
    refused("copy(0, 0, 1, 0, 0)", NULL, x -> x.copy(0, 0, 1, 0, 0));
    of(BackStairs::new);
    refused("restore()", NONE, x -> x.restore());
    of(() -> chain(2));
    refused("restore() of a house", NONE, x -> x.restore());
  }

  private static void inAHouse() {
    of(RefusalTests::some);
    refused("door(2, 2, 0)", BAD, x -> x.door(2, 2, 0));
    refused("door(2, 5, 0)", BAD, x -> x.door(2, 5, 0));
    refused("door(0, 4, 2)", BAD, x -> x.door(0, 4, 2));
    refused("door(1, 0, 1)", NOT, x -> x.door(1, 0, 1));
    refused("door(2, 3, 0)", NOT, x -> x.door(2, 3, 0));
    refused("wall(1, 1)", BAD, x -> x.wall(1, 1));
    refused("wall(1, 5)", BAD, x -> x.wall(1, 5));
    refused("wall(3, 4)", NONE, x -> x.wall(3, 4));
    refused("wall(1, 0)", NOT, x -> x.wall(1, 0));
    refused("wall(1, 2)", NOT, x -> x.wall(1, 2));
    refused("type(.., 0)", BAD, x -> x.type('a', 0));
    refused("type(.., 9)", BAD, x -> x.type(0x6161616161616161L, 9));
    refused("type of a byte 127 behind seven", BAD, x -> x.type(0x616161616161617FL, 8));
    refused("guest(2, 0)", BAD, x -> x.guest(2, 0));
    refused("guest(0, 24)", BAD, x -> x.guest(0, 24));
    refused("trip(0, 0, 4, false, -1)", NONE, x -> x.trip(0, 0, 4, false, -1));
    refused("trip(0, 0, 1, true, -1)", NONE, x -> x.trip(0, 0, 1, true, -1));
    refused("trip(0, 3, 3, false, 2)", NONE, x -> x.trip(0, 3, 3, false, 2));
    refused("trip(0, 3, 3, false, 23)", NONE, x -> x.trip(0, 3, 3, false, 23));
    refused("trip(0, 0, 0, false, -2)", BAD, x -> x.trip(0, 0, 0, false, -2));
    refused("servant(5)", BAD, x -> x.servant(5));
    refused("ill(2, true)", BAD, x -> x.ill(2, true));
    refused("ill(-1, true)", BAD, x -> x.ill(-1, true));
    refused("cellar(5)", BAD, x -> x.cellar(5));
    refused("cellar(-1)", BAD, x -> x.cellar(-1));
    refused("errand(2, 0, 1, 0, 0)", BAD, x -> x.errand(2, 0, 1, 0, 0));
    refused("errand(0, 0, 1, 5, 4)", BAD, x -> x.errand(0, 0, 1, 5, 4));
    refused("told(2, 0)", BAD, x -> x.told(2, 0));
    refused("told(0, 7)", CAST, x -> x.told(0, 7));
    refused("drop(2)", BAD, x -> x.drop(2));
    refused("cost(2)", BAD, x -> x.cost(2));
    refused("does(0, 1, -1)", BAD, x -> x.does(0, 1, -1));
    refused("does(0, 0, 0)", NONE, x -> x.does(0, 0, 0));
    refused("enough()", NONE, x -> x.enough());
    refused("missed(1)", NOT, x -> x.missed(1));
    refused("opened(4, 4)", BAD, x -> x.opened(4, 4));
    refused("opened(3, 0)", NONE, x -> x.opened(3, 0));
    refused("folk(2)", BAD, x -> x.folk(2));
    refused("say(0, 2, 0, 0)", BAD, x -> x.say(0, 2, 0, 0));
    refused("say(0, 0, 5, 0)", BAD, x -> x.say(0, 0, 5, 0));
    refused("unsay(4)", BAD, x -> x.unsay(4));
    refused("unsay(-1)", BAD, x -> x.unsay(-1));
    refused("maybe(0, 24)", BAD, x -> x.maybe(0, 24));
    refused("theft(0, 5, 4)", BAD, x -> x.theft(0, 5, 4));
    refused("theft(5, 0, 1)", BAD, x -> x.theft(5, 0, 1));
    refused("clears(2)", BAD, x -> x.clears(2));
    refused("clears(1)", NONE, x -> x.clears(1));
    refused("count(8)", BAD, x -> x.count(8));
  }

  private static void onSheets() {
    of(RefusalTests::some);
    refused("errands(0, 0, 0, 0)", BAD, x -> x.errands(0, 0, 0, 0));
    refused("errands(3, 0, 0, 1)", NULL, x -> x.errands(3, 0, 0, 1));
    refused("errands(0, 1, 0, 1)", CAST, x -> x.errands(0, 1, 0, 1));
    refused("errands(0, 0, 20, 1)", INDEX, x -> x.errands(0, 0, 20, 1));
    refused("errands(0, 0, 0, 2)", NOT, x -> x.errands(0, 0, 0, 2));
    refused("sheet(4, 0, 0)", BAD, x -> x.sheet(4, 0, 0));
    refused("sheet(0, 3, 0)", BAD, x -> x.sheet(0, 3, 0));
    refused("sheet(0, 1, 25)", BAD, x -> x.sheet(0, 1, 25));
    refused("sheet(0, 1, -1)", SIZE, x -> x.sheet(0, 1, -1));
    refused("empty(4)", BAD, x -> x.empty(4));
    refused("empty(3)", NULL, x -> x.empty(3));
    refused("item(4, 0, 0, 9)", BAD, x -> x.item(4, 0, 0, 9));
    refused("item(0, 3, 0, 9)", BAD, x -> x.item(0, 3, 0, 9));
    refused("item(3, 0, 0, 9)", NULL, x -> x.item(3, 0, 0, 9));
    refused("item(1, 2, 0, 9)", CAST, x -> x.item(1, 2, 0, 9));
    refused("item(0, 0, 24, 9)", INDEX, x -> x.item(0, 0, 24, 9));
    refused("item(2, 1, 0, 9)", INDEX, x -> x.item(2, 1, 0, 9));
    refused("copy(1, 0, 4, 0, 1)", BAD, x -> x.copy(1, 0, 4, 0, 1));
    refused("copy(1, 0, 3, 0, 1)", NULL, x -> x.copy(1, 0, 3, 0, 1));
    refused("copy(1, 0, 0, 0, 1)", CAST, x -> x.copy(1, 0, 0, 0, 1));
    refused("copy(1, 0, 2, 0, 1)", INDEX, x -> x.copy(1, 0, 2, 0, 1));
    refused("copy(0, 1, 0, 2, 23)", INDEX, x -> x.copy(0, 1, 0, 2, 23));
    refused("copy(1, 0, 1, 1, 7)", INDEX, x -> x.copy(1, 0, 1, 1, 7));
    refused("copy(1, 1, 1, 0, 7)", INDEX, x -> x.copy(1, 1, 1, 0, 7));
    refused("copy(1, 1, 1, 0, -1)", INDEX, x -> x.copy(1, 1, 1, 0, -1));
  }

  private static void inAFullHouse() {
    of(RefusalTests::full);
    refused("room()", FULL, x -> x.room());
    refused("door(1, 9, 0)", FULL, x -> x.door(1, 9, 0));
    refused("type(32, 1)", FULL, x -> x.type(32, 1));
    refused("type of eight", FULL, x -> x.type(0x2020202020202020L, 8));
    refused("servant(0)", FULL, x -> x.servant(0));
    refused("errand(0, 0, 1, 0, 0)", FULL, x -> x.errand(0, 0, 1, 0, 0));
    refused("told(0, 5)", NOT, x -> x.told(0, 5));
    refused("told(1, 7)", NOT, x -> x.told(1, 7));
    refused("cost(0)", NOT, x -> x.cost(0));
    refused("does(1, 2, 0)", NOT, x -> x.does(1, 2, 0));
    refused("enough()", NOT, x -> x.enough());
    refused("opened(0, 9)", NOT, x -> x.opened(0, 9));
    refused("folk(0)", FULL, x -> x.folk(0));
    refused("say(0, 0, 0, 0)", FULL, x -> x.say(0, 0, 0, 0));
    refused("errands(3, 2, 0, 1)", FULL, x -> x.errands(3, 2, 0, 1));
    refused("errands(3, 2, 0, 2)", FULL, x -> x.errands(3, 2, 0, 2));
  }

  /** By a fault, and by FULL, the tape is empty then, and nothing else has changed. */
  private static void emptyTapes() {
    String[] walks = {"", "a", "a2x", "a3b21c1", "a3b4d1", "a3b4c99", "a1b1a1b1a1b1a1b1a1"};
    String[] said = {"", "a", "aaa4;", "aaa4;abx1", "aaa4;bbb24", "aaa4;cab1", "aaa4;aaa4;aaa4;aaa4;aaa4;aaa4;aaa4"};
    int[] walkPlaces = {0, 1, 2, 6, 4, 5, 16};
    int[] saidPlaces = {0, 1, 5, 7, 8, 5, 29};
    Supplier<BackStairs> bareTape = () -> emptied(some());
    of(bareTape);
    for (int k = 0; k < walks.length; k++) {
      String text = walks[k];
      refused("walk() of " + text, -20 - walkPlaces[k], x -> walk(x, text));
    }
    for (int k = 0; k < said.length; k++) {
      String text = said[k];
      refused("sayings() of " + text, -20 - saidPlaces[k], x -> sayings(x, text));
    }
    of(() -> emptied(full()));
    refused("walk() of a fourth", FULL, x -> walk(x, "a1"));
    refused("sayings() of a 13th", FULL, x -> sayings(x, "aaa1"));
    refused("sayings() of six", FULL, x -> sayings(x, "aaa1;aaa1;aaa1;aaa1;aaa1;aaa1"));
  }

  private static BackStairs emptied(BackStairs x) {
    tape(x, "~");
    x.walk();
    return x;
  }

  public static void main(String[] args) {
    words = "What answers so changes nothing, but as told.";
    inABareHouse();
    inAHouse();
    onSheets();
    inAFullHouse();
    emptyTapes();
    finish("refusals");
  }
}
