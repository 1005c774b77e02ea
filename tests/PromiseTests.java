/** Every promise of the document by hand: what is ordinary, the edges that it names, and what can't be. */
public final class PromiseTests extends Kit {
  /** What was asked ahead of a change is asked anew behind it. */
  private static void changes() {
    BackStairs x = house(4, 0, 1, OPEN, 1, 2, OPEN);
    x.servant(0);
    x.errand(1, 2, 1, 0, 0);
    promise = 8;
    due("ahead of a walk", x.trip(0, 0, 2, true, -1), 2);
    due("cost ahead of it", x.cost(0), 2);
    promise = 6;
    walk(x, "b3a1");
    due("behind it", x.trip(0, 0, 2, true, -1), NONE);
    due("cost behind it", x.cost(0), 24);
    promise = 3;
    x.door(0, 3, BACK);
    x.door(2, 3, OPEN);
    due("behind a door", x.trip(0, 0, 2, true, -1), 2);
    due("cost behind a door", x.cost(0), 2);
    promise = 4;
    x.wall(0, 3);
    due("behind a wall", x.trip(0, 0, 2, true, -1), NONE);
    due("cost behind a wall", x.cost(0), 24);
    promise = 9;
    x.cellar(3);
    due("from another cellar", x.cost(0), 4);
    x.servant(2);
    due("with another servant", x.cost(0), 2);
    promise = 10;
    x.ill(1, true);
    due("without him", x.cost(0), 4);
    promise = 30;
    x.image();
    promise = 12;
    x.errand(0, 3, 1, 0, 0);
    due("with another errand, on the way", x.cost(0), 7);
    promise = 14;
    x.drop(0);
    due("without the first", x.cost(0), 3);
    promise = 32;
    x.sheet(0, 2, 5);
    fill(x, 0, 2, 0, 0, 1, 9, 0, 0);
    x.errands(0, 2, 0, 1);
    due("with one from a sheet", x.cost(0), 12);
    promise = 31;
    x.wall(0, 1);
    due("a door less", x.wall(1, 2), 0);
    x.door(1, 2, BACK);
    x.restore();
    due("as it was", x.cost(0), 4);
    due("its doors, too", x.trip(0, 0, 3, false, -1), 3);
    promise = 23;
    BackStairs y = house(2);
    y.folk(0);
    y.folk(0);
    y.say(0, 0, 0, 3);
    y.say(1, 0, 1, 4);
    y.say(1, 1, 0, 9);
    due("b's last goes down whole", y.unsay(0) * 100 + y.unsay(0) * 10 + y.liars(), 210);
    due("at its tick", y.maybe(1, 9), 1);
    y.say(0, 0, 1, 9);
    y.theft(1, 2, 3);
    promise = 28;
    due("a is in b alone", y.suspects(), 1);
    due("without a word b could not be there alone", y.clears(1), 0);
    BackStairs w = house(3, 0, 1, OPEN, 1, 2, OPEN);
    w.folk(0);
    w.say(0, 0, 0, 4);
    w.say(0, 0, 0, 6);
    w.theft(2, 4, 6);
    due("in a at 4 and at 6, so never in c", w.suspects(), 0);
    due("each clears him: without the first c at 4, without the second c at 6", w.clears(0), 3);
    BackStairs z = house(2);
    z.folk(0);
    z.folk(0);
    z.say(0, 0, 0, 3);
    z.say(1, 0, 1, 7);
    z.say(1, 1, 1, 8);
    z.theft(0, 5, 5);
    due("a lies, so both of the other's sayings put them there", z.suspects(), 0);
    due("without one b is there by the other", z.clears(1), 0);
    due("without the second a was there alone", z.clears(0), 2);
  }

  private static void promise1() {
    BackStairs x = new BackStairs();
    for (int k = 0; k < 8; k++) due("count(" + k + ") of a new one", x.count(k), 0);
    due("door where no room is", x.door(0, 1, 0), BAD);
    due("guest where none is", x.guest(0, 0), BAD);
    due("liars without rooms", x.liars(), NOT);
    due("cost without servants", x.cost(0), NOT);
    due("suspects without a theft", x.suspects(), NOT);
    due("restore without an image", x.restore(), NONE);
    for (int k = 0; k < 4; k++) due("empty(" + k + ") of a new one", x.empty(k), NULL);
    due("the tape is empty", x.walk(), -20);
    BackStairs y = house(1);
    due("another one has its own rooms", x.count(0) * 10 + y.count(0), 1);
    due("the cellar is the first room", y.cellar(0), 0);
  }

  private static void promise2() {
    BackStairs x = new BackStairs();
    for (int k = 0; k < 10; k++) due("room", x.room(), k);
    due("an 11th room", x.room(), FULL);
    due("a 12th room", x.room(), FULL);
    due("rooms", x.count(0), 10);
    due("door to the last", x.door(0, 9, OPEN), 1);
  }

  private static void promise3() {
    BackStairs x = house(10);
    due("the first", x.door(3, 1, BACK), 1);
    due("another", x.door(3, 2, OPEN), 2);
    due("there is one", x.door(3, 1, BACK), NOT);
    due("there is one, of another kind", x.door(3, 1, OPEN), NOT);
    due("there is one, told the other way", x.door(1, 3, OPEN), NOT);
    due("one room", x.door(4, 4, OPEN), BAD);
    due("a below", x.door(-1, 4, OPEN), BAD);
    due("a above", x.door(10, 4, OPEN), BAD);
    due("b below", x.door(4, -1, OPEN), BAD);
    due("b above", x.door(4, 10, OPEN), BAD);
    due("b far above", x.door(4, Integer.MAX_VALUE, OPEN), BAD);
    due("a far below", x.door(Integer.MIN_VALUE, 4, OPEN), BAD);
    due("kind below", x.door(4, 5, -1), BAD);
    due("kind above", x.door(4, 5, 2), BAD);
    due("BAD ahead of NOT", x.door(3, 1, 2), BAD);
    due("doors", x.count(1), 2);
    for (int k = 3; k <= 9; k++) due("door", x.door(0, k, OPEN), k);
    for (int k = 10; k <= 15; k++) due("door", x.door(9, k - 9, BACK), k);
    due("the 16th", x.door(1, 2, OPEN), 16);
    due("a 17th", x.door(1, 4, OPEN), FULL);
    due("NOT ahead of FULL", x.door(2, 1, OPEN), NOT);
    due("BAD ahead of FULL", x.door(1, 1, OPEN), BAD);
    due("doors at the end", x.count(1), 16);
    due("FULL made none", x.wall(1, 4), NONE);
  }

  private static void promise4() {
    BackStairs x = house(5, 0, 1, OPEN, 1, 2, BACK, 2, 3, OPEN, 3, 4, OPEN);
    due("kind of an open one", x.wall(1, 0), 0);
    due("it is gone", x.wall(0, 1), NONE);
    due("kind of a back one", x.wall(1, 2), 1);
    due("doors left", x.count(1), 2);
    due("there never was one", x.wall(0, 4), NONE);
    due("one room", x.wall(2, 2), BAD);
    due("no such room", x.wall(2, 5), BAD);
    due("below 0", x.wall(-1, 2), BAD);
    due("a walk", walk(x, "c2d3"), 0);
    due("a guest goes through", x.wall(2, 3), NOT);
    due("told the other way", x.wall(3, 2), NOT);
    due("he doesn't come here", x.wall(3, 4), 0);
    due("still there", x.count(1), 1);
    due("again, of another kind", x.door(0, 1, BACK), 2);
    due("its kind", x.wall(0, 1), 1);
    BackStairs y = house(3, 0, 1, OPEN, 1, 2, OPEN);
    due("through the last door late", walk(y, "a22b1c1"), 0);
    due("at the last tick", y.wall(1, 2), NOT);
    due("the one ahead", y.wall(0, 1), NOT);
    due("of another guest", walk(y, "c24"), 1);
    due("still", y.wall(2, 1), NOT);
    due("a trip ends with its door", house(2).trip(0, 0, 1, false, -1), NONE);
  }

  private static void promise5() {
    BackStairs x = house(2, 0, 1, OPEN);
    due("no bytes", x.type(65, 0), BAD);
    due("below", x.type(65, -1), BAD);
    due("nine", x.type(0x4141414141414141L, 9), BAD);
    due("many", x.type(65, Integer.MAX_VALUE), BAD);
    due("31", x.type(31, 1), BAD);
    due("127", x.type(127, 1), BAD);
    due("128", x.type(128, 1), BAD);
    due("255", x.type(-1L, 1), BAD);
    due("0 ahead", x.type(65, 2), BAD);
    due("a bad one in the midst", x.type(0x41411F41L, 4), BAD);
    due("a bad one ahead", x.type(0x7F41414141414141L, 8), BAD);
    due("a negative one", x.type(0x8041414141414141L, 8), BAD);
    due("still empty", x.type('a', 1), 1);
    due("bytes above are left alone", x.type(0xFF00FF31L, 1), 2);
    due("highest first", x.type(('b' << 8) + '2', 2), 4);
    due("as a1b2", x.walk(), 0);
    due("b at 1", x.guest(0, 1), 1);
    due("32", x.type(32, 1), 1);
    due("126", x.type(126, 1), 2);
    due("eight", x.type(0x2020202020202020L, 8), 10);
    for (int k = 18; k <= 74; k += 8) due("eight more", x.type(0x2041424344454647L, 8), k);
    due("seven don't fit", x.type(0x41414141414141L, 7), FULL);
    due("BAD ahead of FULL", x.type(0x1F414141414141L, 7), BAD);
    due("six do", x.type(0x414141414141L, 6), 80);
    due("one more doesn't", x.type(65, 1), FULL);
    due("read from its begin", x.walk(), -21);
    due("empty again", x.type(65, 1), 1);
  }

  private static void promise6() {
    BackStairs x = house(4, 0, 1, OPEN, 1, 2, OPEN, 2, 3, BACK);
    due("nothing", walk(x, ""), -20);
    due("blanks alone", walk(x, "   "), -23);
    due("a letter alone", walk(x, "a"), -21);
    due("blanks behind count to the end", walk(x, "a  "), -23);
    due("no such room", walk(x, "e1"), -20);
    due("a big letter", walk(x, "A1"), -20);
    due("a number first", walk(x, " 1a"), -21);
    due("0", walk(x, "a0"), -21);
    due("25", walk(x, "a25"), -21);
    due("25 behind blanks", walk(x, "a  25"), -23);
    due("25 with 0s", walk(x, "a0025"), -21);
    due("0s alone", walk(x, "a000b1"), -21);
    due("two letters", walk(x, "ab1"), -21);
    due("a number that is ended by a blank", walk(x, "a1 2"), -23);
    due("another sign behind", walk(x, "a1;b1"), -22);
    due("a sign for a number", walk(x, "a-1"), -21);
    due("no door", walk(x, "a1c1"), -22);
    due("no open door", walk(x, "c1 d1"), -23);
    due("the same room", walk(x, "a1a1"), -22);
    due("no such room behind", walk(x, "a1e1"), -22);
    due("25 together", walk(x, "a12b1c12"), -26);
    due("24 and 1", walk(x, "a24b1"), -24);
    due("ends at a letter", walk(x, "a12b"), -24);
    due("a number that runs over an int", walk(x, "a4294967297"), -21);
    due("one that runs over a long", walk(x, "a18446744073709551617b1"), -21);
    due("a ninth room", walk(x, "a1b1a1b1a1b1a1b1a1"), -36);
    due("a ninth room with blanks", walk(x, "a1b1a1b1a1b1a1b1  a"), -38);
    due("none has come", x.count(2), 0);

    due("24 together", walk(x, "a12b11c1"), 0);
    dueText("where he was", walked(x, 0), "aaaaaaaaaaaabbbbbbbbbbbc");
    due("0s, blanks, eight rooms", walk(x, "  a 01 b 002a1b1a1b1  a1b0000000003 "), 1);
    dueText("where he was", walked(x, 1), "abbabababbbbbbbbbbbbbbbb");
    due("a fault ahead of the last", walk(x, "b1x"), -22);
    due("a third", walk(x, "d24"), 2);
    dueText("where he was", walked(x, 2), "dddddddddddddddddddddddd");
    due("a fourth", walk(x, "a1"), FULL);
    due("the tape is empty behind FULL", x.type('a', 1), 1);
    due("a fault ahead of FULL", walk(x, ""), -21);
    due("the tape is empty behind a fault", x.type('a', 1), 1);
    due("three", x.count(2), 3);
    BackStairs y = house(1);
    due("one room, one tick", walk(y, "a1"), 0);
    due("the tape is empty behind a walk", y.type('a', 1), 1);
    due("he stays", y.guest(0, 23), 0);
    due("no rooms", walk(new BackStairs(), "a1"), -20);
    BackStairs z = house(10, 8, 9, OPEN);
    due("the last letters", walk(z, "j1i1"), 0);
    due("one behind them", walk(z, "k1"), -20);
  }

  private static void promise7() {
    BackStairs x = house(3, 0, 1, OPEN, 1, 2, OPEN);
    due("none", x.guest(0, 0), BAD);
    walk(x, "a2b3c1");
    walk(x, "c24");
    dueText("the first", walked(x, 0), "aabbbccccccccccccccccccc");
    dueText("the second", walked(x, 1), "cccccccccccccccccccccccc");
    due("a third", x.guest(2, 0), BAD);
    due("below", x.guest(-1, 0), BAD);
    for (int t : NO_TICK) due("tick " + t, x.guest(0, t), BAD);
  }

  private static void promise8() {
    // a square a b d c with a long way round, and a guest who comes and goes
    BackStairs x = house(6, 0, 1, OPEN, 1, 3, BACK, 0, 2, BACK, 2, 3, OPEN, 3, 4, OPEN);
    dueText("the first row of two", tripped(x, 0, 0, 3, false), "abd.....................");
    dueText("back", tripped(x, 3, 5, 0, false), ".....dba................");
    dueText("where he is", tripped(x, 2, 23, 2, false), ".......................c");
    due("no time", x.trip(0, 23, 1, false, -1), NONE);
    due("just in time", x.trip(0, 21, 3, false, -1), 23);
    due("one too late", x.trip(0, 22, 3, false, -1), NONE);
    due("no way", x.trip(0, 0, 5, false, -1), NONE);
    due("no way, at a tick", x.trip(0, 0, 5, false, 0), NONE);
    due("over", x.trip(0, 3, 3, false, 6), NONE);
    due("not begun", x.trip(0, 3, 3, false, 2), NONE);
    due("at its last", x.trip(0, 3, 3, false, 5), 3);
    due("from below", x.trip(-1, 0, 0, false, -1), BAD);
    due("from above", x.trip(6, 0, 0, false, -1), BAD);
    due("to below", x.trip(0, 0, -1, false, -1), BAD);
    due("to above", x.trip(0, 0, 6, false, -1), BAD);
    for (int t : NO_TICK) due("tick " + t, x.trip(0, t, 0, false, -1), BAD);
    due("at -2", x.trip(0, 0, 0, false, -2), BAD);
    due("at 24", x.trip(0, 0, 0, false, 24), BAD);
    due("at far below", x.trip(0, 0, 0, false, Integer.MIN_VALUE), BAD);
    due("BAD ahead of NONE", x.trip(0, 0, 5, false, 24), BAD);

    walk(x, "d3e1d9");
    due("without coals the guest is nothing", x.trip(0, 0, 3, false, -1), 2);
    dueText("he waits for the one tick, as early in the row as it goes", tripped(x, 0, 0, 3, true), "aabd....................");
    due("not out of it", x.trip(3, 0, 0, true, -1), NONE);
    due("not out of it behind", x.trip(3, 4, 0, true, -1), NONE);
    due("not where a guest is at once", x.trip(3, 0, 3, true, -1), NONE);
    due("where no guest is at once", x.trip(3, 3, 3, true, -1), 3);
    due("not into it for ever", x.trip(0, 2, 3, true, -1), NONE);
    due("not past each other in the door", x.trip(3, 3, 4, true, -1), NONE);
    due("nor the other way", x.trip(4, 2, 3, true, -1), NONE);
    due("another room of it", x.trip(3, 3, 2, true, -1), 4);

    // he comes through the door the other way: one must be out of his line
    BackStairs y = house(4, 0, 1, OPEN, 1, 2, OPEN, 1, 3, BACK);
    walk(y, "c1b1a1");
    dueText("at b when he has gone on to a, and not through that door", tripped(y, 0, 0, 2, true), "........................");
    dueText("from behind him", tripped(y, 2, 1, 0, true), "........................");
    dueText("into the room that he has left", tripped(y, 2, 1, 1, true), ".cb.....................");
    dueText("out of his way", tripped(y, 3, 0, 2, true), "ddbc....................");
    dueText("the same without coals", tripped(y, 3, 0, 2, false), "dbc.....................");
    due("from where he is", y.trip(1, 1, 3, true, -1), NONE);
    due("and the tick ahead", y.trip(1, 0, 3, true, -1), 1);
    due("and he comes at the first tick", y.trip(1, 0, 1, true, -1), 0);
    dueText("round in a ring of its own", tripped(house(3, 0, 1, OPEN, 1, 2, OPEN, 0, 2, BACK), 1, 20, 0, true), "....................ba..");
    BackStairs z = house(2, 0, 1, OPEN);
    walk(z, "b1");
    walk(z, "a1b1a1");
    due("two guests", z.trip(0, 1, 0, true, -1), 1);
    due("into the one's room", z.trip(0, 1, 1, true, -1), NONE);
  }

  private static void promise9() {
    BackStairs x = new BackStairs();
    due("no rooms", x.servant(0), BAD);
    x.room();
    x.room();
    due("the first", x.servant(1), 0);
    due("below", x.servant(-1), BAD);
    due("above", x.servant(2), BAD);
    due("one in the same room", x.servant(1), 1);
    due("a third", x.servant(0), 2);
    due("a fourth", x.servant(0), FULL);
    due("BAD ahead of FULL", x.servant(2), BAD);
    due("three", x.count(3), 3);
    x.errand(0, 0, 1, 0, 0);
    due("he is there at tick 0", x.told(0, 5), 2);
    due("and done at once", x.told(0, 6), 0);
  }

  private static void promise10() {
    BackStairs x = house(1);
    due("nobody", x.ill(0, true), BAD);
    x.servant(0);
    x.servant(0);
    due("he was not", x.ill(0, false), 0);
    due("he becomes", x.ill(0, true), 0);
    due("he was", x.ill(0, true), 1);
    due("another", x.ill(1, true), 0);
    due("two", x.count(4), 2);
    due("well again", x.ill(0, false), 1);
    due("he was not any more", x.ill(0, false), 0);
    due("one", x.count(4), 1);
    due("the other still is", x.ill(1, true), 1);
    due("above", x.ill(2, true), BAD);
    due("below", x.ill(-1, true), BAD);
    due("32", x.ill(32, true), BAD);
    x.errand(0, 0, 1, 0, 0);
    due("the well one does it", x.told(0, 5), 0);
  }

  private static void promise11() {
    BackStairs x = new BackStairs();
    due("no rooms", x.cellar(0), BAD);
    for (int k = 0; k < 4; k++) x.room();
    due("at first", x.cellar(2), 0);
    due("then", x.cellar(3), 2);
    due("above", x.cellar(4), BAD);
    due("below", x.cellar(-1), BAD);
    due("as it was", x.cellar(3), 3);
    BackStairs y = house(3, 0, 1, OPEN, 1, 2, OPEN);
    y.servant(1);
    y.errand(1, 1, 1, 0, 0);
    due("from the first cellar", y.told(0, 6), 2);
    y.cellar(1);
    due("from another", y.told(0, 6), 0);
  }

  private static void promise12() {
    BackStairs x = house(3);
    due("kind below", x.errand(-1, 0, 1, 0, 0), BAD);
    due("kind above", x.errand(2, 0, 1, 0, 0), BAD);
    due("room below", x.errand(0, -1, 1, 0, 0), BAD);
    due("room above", x.errand(0, 3, 1, 0, 0), BAD);
    due("rank 0", x.errand(0, 0, 0, 0, 0), BAD);
    due("rank 10", x.errand(0, 0, 10, 0, 0), BAD);
    for (int t : NO_TICK) {
      due("from " + t, x.errand(0, 0, 1, t, 23), BAD);
      due("due " + t, x.errand(0, 0, 1, 0, t), BAD);
    }
    due("due ahead of from", x.errand(0, 0, 1, 3, 2), BAD);
    due("none came", x.count(5), 0);
    due("the least", x.errand(0, 0, 1, 0, 0), 0);
    due("the most", x.errand(1, 2, 9, 23, 23), 1);
    for (int k = 2; k < 5; k++) due("more", x.errand(0, 1, 2, 3, 3), k);
    due("a sixth", x.errand(0, 1, 2, 3, 3), FULL);
    due("BAD ahead of FULL", x.errand(0, 1, 2, 3, 2), BAD);
    due("five", x.count(5), 5);
  }

  private static void promise13() {
    BackStairs x = house(4, 0, 1, OPEN, 1, 2, OPEN);
    due("none", x.told(0, 0), BAD);
    x.errand(0, 1, 5, 2, 2);
    x.errand(1, 2, 7, 0, 9);
    x.errand(1, 3, 1, 0, 9);
    int[][] as = {{0, 1, 5, 2, 2}, {1, 2, 7, 0, 9}, {1, 3, 1, 0, 9}};
    for (int e = 0; e < 3; e++) for (int w = 0; w < 5; w++) due("told(" + e + ", " + w + ")", x.told(e, w), as[e][w]);
    due("nobody is there: 5", x.told(0, 5), NOT);
    due("nobody is there: 6", x.told(1, 6), NOT);
    due("nobody is there: 7", x.told(1, 7), NOT);
    due("CAST ahead of NOT", x.told(0, 7), CAST);
    x.servant(2);
    due("ill", x.ill(0, true), 0);
    due("all are ill", x.told(1, 7), NOT);
    x.ill(0, false);
    x.servant(1);
    // servant 1 stays for the call at b and is there at 2; servant 0 goes for coals: c b a, then a b c
    due("who calls", x.told(0, 5), 1);
    due("from its tick on, not sooner", x.told(0, 6), 2);
    due("who carries", x.told(1, 5), 0);
    due("coals are taken", x.told(1, 7), 2);
    due("coals are there", x.told(1, 6), 4);
    due("nobody can, so the first", x.told(2, 5), 0);
    due("not done", x.told(2, 6), NONE);
    due("not taken", x.told(2, 7), NONE);
    due("a call has no coals", x.told(0, 7), CAST);
    due("what below", x.told(0, -1), BAD);
    due("what above", x.told(0, 8), BAD);
    due("errand above", x.told(3, 0), BAD);
    due("errand below", x.told(-1, 0), BAD);
    due("BAD ahead of CAST", x.told(3, 7), BAD);

    // the cellar is not free till a guest has gone
    BackStairs y = house(3, 0, 1, BACK, 0, 2, OPEN);
    walk(y, "a5c1");
    y.servant(1);
    y.errand(1, 1, 1, 0, 1);
    due("they wait for the first trip that there is", y.told(0, 7), 5);
    due("and come", y.told(0, 6), 6);
    due("late", y.cost(0), 5);
    // a guest sits at the only way: coals are never taken
    BackStairs z = house(2, 0, 1, OPEN);
    walk(z, "b1");
    z.servant(0);
    z.errand(1, 1, 2, 0, 1);
    due("never taken", z.told(0, 7), NONE);
    due("never done", z.told(0, 6), NONE);
    due("24 late", z.cost(0), 48);
    BackStairs w = house(2, 0, 1, OPEN);
    w.servant(1);
    w.errand(1, 0, 1, 22, 23);
    due("to the cellar itself, begun at its tick", w.told(0, 7), 23);
    due("done there", w.told(0, 6), 23);
  }

  private static void promise14() {
    BackStairs x = house(3);
    due("none", x.drop(0), BAD);
    x.errand(0, 0, 1, 0, 1);
    x.errand(1, 1, 2, 3, 4);
    x.errand(0, 2, 3, 5, 6);
    due("above", x.drop(3), BAD);
    due("below", x.drop(-1), BAD);
    due("the one in the midst", x.drop(1), 2);
    int[] as = {0, 2, 3, 5, 6};
    for (int w = 0; w < 5; w++) due("the one behind goes down", x.told(1, w), as[w]);
    due("the one ahead stays", x.told(0, 2), 1);
    due("the last", x.drop(1), 1);
    due("the first", x.drop(0), 0);
    due("no more", x.drop(0), BAD);
    for (int k = 0; k < 5; k++) due("room for five again", x.errand(0, 0, 1, 0, 0), k);
  }

  /** A row of six rooms a .. f with a servant at each end. */
  private static BackStairs row() {
    BackStairs x = house(6, 0, 1, OPEN, 1, 2, OPEN, 2, 3, OPEN, 3, 4, OPEN, 4, 5, OPEN);
    x.servant(0);
    x.servant(5);
    return x;
  }

  private static void promise15() {
    BackStairs x = house(2, 0, 1, OPEN);
    due("nobody is there", x.cost(0), NOT);
    due("nobody is there, the rule", x.cost(1), NOT);
    due("how below", x.cost(-1), BAD);
    due("how above", x.cost(2), BAD);
    x.servant(0);
    due("nothing to do", x.cost(0), 0);
    due("nothing to do by the rule", x.cost(1), 0);
    x.errand(0, 1, 9, 0, 0);
    due("1 late", x.cost(0), 9);
    x.ill(0, true);
    due("all are ill", x.cost(1), NOT);
    due("BAD ahead of NOT", x.cost(2), BAD);

    // the rule sends the nearer one to c at 0, though d is then late; the best shares out
    BackStairs y = row();
    y.errand(0, 2, 1, 0, 5);
    y.errand(0, 1, 4, 0, 1);
    due("both in time", y.cost(0), 0);
    due("the rule does the greater rank first", y.cost(1), 0);
    y.errand(0, 4, 2, 0, 1);
    due("three in time", y.cost(0), 0);
    due("three by the rule", y.cost(1), 0);
    y.errand(0, 0, 9, 2, 3);
    // b at 1, from 2 on to a at 3; the other e at 1, c at 3
    due("four in time", y.cost(0), 0);
    // by the rule: b to 0 at 1, e to 1 at 1, c to 0 at 2, a to 0 at 4: one late
    due("the rule is one late", y.cost(1), 9);

    BackStairs z = house(3, 0, 1, OPEN);
    z.servant(0);
    z.errand(0, 2, 3, 0, 0);
    z.errand(0, 1, 1, 0, 1);
    due("what can't be done is left for the last", z.cost(0), 72);
    due("what is left behind it is 24, too", z.cost(1), 96);
    BackStairs w = house(2, 0, 1, OPEN);
    w.servant(0);
    w.errand(0, 1, 2, 23, 23);
    due("not done by 23 only if begun too late", w.cost(0), 48);
    w.drop(0);
    w.errand(0, 0, 2, 23, 23);
    due("at once", w.cost(0), 0);
    w.errand(0, 0, 2, 0, 0);
    w.errand(0, 1, 9, 0, 0);
    due("b at 1, a at 2, a at 23", w.cost(0), 13);
  }

  private static void promise16() {
    BackStairs x = row();
    due("nothing", x.does(0, 0, 0), NONE);
    x.errand(0, 2, 1, 0, 4);
    x.errand(0, 1, 4, 0, 1);
    x.errand(0, 4, 2, 0, 1);
    x.errand(0, 0, 9, 2, 3);
    // of all shares that cost nothing the first row: c by 0 would be there at 5; b is his, e is the other's, a is his
    due("best: 0 does b", x.does(0, 0, 0), 1);
    due("best: 0 does a", x.does(0, 0, 1), 3);
    due("best: no more", x.does(0, 0, 2), NONE);
    // of the orders of 1 that cost nothing: c first would be late at e
    due("best: 1 does e", x.does(0, 1, 0), 2);
    due("best: 1 does c", x.does(0, 1, 1), 0);
    due("best: no more of 1", x.does(0, 1, 2), NONE);
    due("rule: 0 does b", x.does(1, 0, 0), 1);
    due("rule: 0 does c", x.does(1, 0, 1), 0);
    due("rule: 0 does a", x.does(1, 0, 2), 3);
    due("rule: no more", x.does(1, 0, 3), NONE);
    due("rule: 1 does e", x.does(1, 1, 0), 2);
    due("rule: no more of 1", x.does(1, 1, 1), NONE);
    due("far behind", x.does(0, 1, Integer.MAX_VALUE), NONE);
    due("i below", x.does(0, 0, -1), BAD);
    due("how below", x.does(-1, 0, 0), BAD);
    due("how above", x.does(2, 0, 0), BAD);
    due("no such servant", x.does(0, 2, 0), BAD);
    due("servant below", x.does(0, -1, 0), BAD);
    x.ill(0, true);
    due("an ill one does nothing", x.does(0, 0, 0), NONE);
    due("by the rule, too", x.does(1, 0, 0), NONE);
    x.ill(1, true);
    due("all are ill", x.does(0, 0, 0), NOT);
    due("all are ill, the rule", x.does(1, 0, 0), NOT);
    due("BAD ahead of NOT", x.does(0, 0, -1), BAD);

    // like costs: the first as servants in a row, then the first as orders
    BackStairs y = house(1);
    for (int k = 0; k < 3; k++) y.servant(0);
    for (int k = 0; k < 5; k++) y.errand(0, 0, 1, 0, 0);
    for (int k = 0; k < 5; k++) due("all by the first, as they come", y.does(0, 0, k), k);
    due("the second has none", y.does(0, 1, 0), NONE);
    for (int k = 0; k < 5; k++) due("all by the first by the rule", y.does(1, 0, k), k);

    // the rule: by from, then the greater rank, then the number
    BackStairs z = house(1);
    z.servant(0);
    z.errand(0, 0, 1, 5, 5);
    z.errand(0, 0, 3, 2, 9);
    z.errand(0, 0, 4, 2, 9);
    z.errand(0, 0, 3, 2, 9);
    z.errand(0, 0, 1, 0, 9);
    int[] order = {4, 2, 1, 3, 0};
    for (int k = 0; k < 5; k++) due("the rule's order", z.does(1, 0, k), order[k]);

    // a later errand in the row may go first
    BackStairs w = house(3, 0, 1, OPEN, 1, 2, OPEN);
    w.servant(0);
    w.errand(0, 2, 1, 0, 2);
    w.errand(0, 1, 1, 0, 1);
    due("on the way", w.does(0, 0, 0), 1);
    due("then the end", w.does(0, 0, 1), 0);
    // not at all is last: the one who can goes, though he is the second
    BackStairs v = house(4, 1, 2, OPEN);
    v.servant(0);
    v.servant(1);
    v.errand(0, 2, 1, 0, 9);
    v.errand(0, 3, 9, 0, 9);
    due("nobody can: the first", v.does(1, 0, 0), 1);
    due("who can", v.does(1, 1, 0), 0);
  }

  private static void promise17() {
    BackStairs x = house(6, 0, 1, OPEN, 1, 2, OPEN, 2, 3, OPEN, 3, 4, OPEN, 4, 5, OPEN);
    due("nobody is there", x.enough(), NOT);
    x.servant(0);
    x.servant(3);
    x.servant(5);
    due("one at least", x.enough(), 1);
    x.errand(0, 5, 1, 0, 0);
    due("the one who is there", x.enough(), 4);
    x.errand(0, 2, 1, 0, 1);
    due("two", x.enough(), 6);
    x.errand(0, 0, 1, 0, 0);
    due("three", x.enough(), 7);
    x.errand(0, 0, 1, 0, 0);
    x.errand(0, 1, 1, 0, 0);
    due("late in any way", x.enough(), NONE);
    x.drop(4);
    x.ill(1, true);
    due("one of them ill", x.enough(), NONE);
    x.drop(1);
    due("two are enough", x.enough(), 5);
    x.ill(0, true);
    x.ill(2, true);
    due("all are ill", x.enough(), NOT);
    BackStairs y = house(1);
    for (int k = 0; k < 3; k++) y.servant(0);
    y.ill(0, true);
    due("the first well one", y.enough(), 2);
    // {0, 2} and {1, 2} are enough as well as {0, 1}: the least
    BackStairs z = house(2);
    z.servant(0);
    z.servant(1);
    z.servant(1);
    z.errand(0, 0, 1, 0, 0);
    z.errand(0, 1, 1, 0, 0);
    due("the least of like ones", z.enough(), 3);
    z.ill(1, true);
    due("the next", z.enough(), 5);
  }

  private static void promise18() {
    BackStairs x = house(3, 0, 1, OPEN, 1, 2, OPEN);
    due("no such one", x.missed(0), BAD);
    x.servant(0);
    due("nobody else", x.missed(0), NOT);
    x.servant(2);
    due("nothing to do", x.missed(0), 0);
    x.errand(0, 0, 3, 0, 0);
    x.errand(0, 2, 5, 0, 0);
    due("without the first", x.missed(0), 6);
    due("without the second", x.missed(1), 10);
    due("below", x.missed(-1), BAD);
    due("above", x.missed(2), BAD);
    x.servant(2);
    due("another is there", x.missed(1), 0);
    x.ill(2, true);
    due("he is ill", x.missed(2), 0);
    due("and so not in the other's place", x.missed(1), 10);
    x.ill(1, true);
    due("the last well one", x.missed(0), NOT);
    due("ill, with one left", x.missed(1), 0);
    due("the state stays", x.count(4), 2);
  }

  private static void promise19() {
    BackStairs x = house(5, 0, 1, OPEN, 1, 2, OPEN, 2, 3, OPEN);
    due("nobody is there", x.opened(0, 3), NOT);
    due("NOT ahead of NONE", x.opened(0, 1), NOT);
    x.servant(0);
    x.errand(0, 3, 2, 0, 0);
    x.errand(0, 4, 1, 0, 0);
    due("cost", x.cost(0), 30);
    due("two ticks less", x.opened(0, 3), 4);
    due("one tick less, told the other way", x.opened(2, 0), 2);
    due("no help for the first, but e is done at 4", x.opened(3, 4), 20);
    due("d at 3, e at 5", x.opened(2, 4), 19);
    due("of no use", x.opened(1, 3) - x.opened(0, 2), 0);
    due("there is a door", x.opened(1, 2), NONE);
    due("told the other way", x.opened(2, 1), NONE);
    due("one room", x.opened(2, 2), BAD);
    due("below", x.opened(-1, 2), BAD);
    due("above", x.opened(0, 5), BAD);
    due("it was not made", x.count(1), 3);
    due("nor is its way", x.trip(0, 0, 3, false, -1), 3);
    due("nor a cheaper plan", x.cost(0), 30);
    x.ill(0, true);
    due("all are ill", x.opened(0, 3), NOT);
    due("BAD ahead of NOT", x.opened(2, 2), BAD);

    // 16 doors are no hindrance
    BackStairs y = house(10);
    for (int k = 1; k < 9; k++) y.door(0, k, OPEN);
    for (int k = 1; k < 8; k++) y.door(k, k + 1, OPEN);
    y.door(1, 3, OPEN);
    y.servant(0);
    y.errand(0, 9, 1, 0, 0);
    due("16", y.count(1), 16);
    due("a 17th", y.opened(0, 9), 23);
    due("still 16", y.count(1), 16);

    // with a door more coals are taken sooner, and come later
    due("it costs more", worse().opened(0, 3), 0);
    BackStairs w = worse();
    int before = w.cost(0);
    w.door(0, 3, BACK);
    due("taken when the guest has gone", before, 6);
    due("taken at once", w.told(0, 7), 0);
    due("there later", w.cost(0), 13);
  }

  /**
   * The cellar a, the target c. One guest comes from b to a and goes on to f, which has no other door: till 4 no trip
   * with coals can begin, as one would be caught in a, or in f. With a door from a to d one can leave at 0, but another
   * guest comes to d and holds him in e till 10.
   */
  private static BackStairs worse() {
    BackStairs x = house(7, 0, 1, OPEN, 1, 2, OPEN, 0, 5, OPEN, 3, 4, BACK, 3, 6, OPEN);
    walk(x, "b2a2f20");
    walk(x, "g2d8g14");
    x.servant(0);
    x.errand(1, 2, 1, 0, 0);
    return x;
  }

  private static void promise20() {
    BackStairs x = new BackStairs();
    due("below", x.folk(-1), BAD);
    due("above", x.folk(2), BAD);
    due("without rooms", x.folk(0), 0);
    for (int k = 1; k < 5; k++) due("more", x.folk(k % 2), k);
    due("a sixth", x.folk(0), FULL);
    due("BAD ahead of FULL", x.folk(2), BAD);
    due("five", x.count(6), 5);
    due("they are no servants", x.count(3), 0);
    BackStairs y = house(2, 0, 1, BACK);
    y.folk(0);
    y.folk(1);
    y.say(0, 0, 0, 5);
    y.say(1, 1, 0, 5);
    due("a guest can't go", y.maybe(0, 6), 1);
    due("a servant can", y.maybe(1, 6), 3);
  }

  private static void promise21() {
    BackStairs x = house(2);
    due("nobody", x.say(0, 0, 0, 0), BAD);
    x.folk(0);
    x.folk(1);
    due("by below", x.say(-1, 0, 0, 0), BAD);
    due("by above", x.say(2, 0, 0, 0), BAD);
    due("of below", x.say(0, -1, 0, 0), BAD);
    due("of above", x.say(0, 2, 0, 0), BAD);
    due("room below", x.say(0, 0, -1, 0), BAD);
    due("room above", x.say(0, 0, 2, 0), BAD);
    for (int t : NO_TICK) due("tick " + t, x.say(0, 0, 0, t), BAD);
    due("none came", x.count(7), 0);
    for (int k = 0; k < 12; k++) due("one", x.say(k % 2, 0, 1, 12), k);
    due("a 13th", x.say(0, 0, 0, 0), FULL);
    due("BAD ahead of FULL", x.say(0, 0, 2, 0), BAD);
    due("twelve", x.count(7), 12);
    due("he was there", x.maybe(0, 12), 2);
    due("he who says so, too", x.maybe(1, 12), 2);
    due("no more than told", x.liars(), 0);
  }

  private static void promise22() {
    BackStairs x = house(3, 0, 1, OPEN);
    due("no folk", sayings(x, "aaa1"), -20);
    x.folk(1);
    x.folk(1);
    due("nothing", sayings(x, ""), -20);
    due("blanks", sayings(x, "  "), -22);
    due("who says it", sayings(x, "caa1"), -20);
    due("of whom", sayings(x, "aca1"), -21);
    due("no such room", sayings(x, "aad1"), -22);
    due("no number", sayings(x, "aaa"), -23);
    due("no number behind blanks", sayings(x, "aaa "), -24);
    due("24", sayings(x, "aaa24"), -23);
    due("24 behind blanks", sayings(x, "a a a 024"), -26);
    due("a huge one", sayings(x, "aaa4294967296"), -23);
    due("a second number", sayings(x, "aaa1 2"), -25);
    due("no semicolon", sayings(x, "aaa1aaa2"), -24);
    due("nothing behind it", sayings(x, "aaa1;"), -25);
    due("nothing behind it but blanks", sayings(x, "aaa1; "), -26);
    due("nothing ahead of it", sayings(x, ";aaa1"), -20);
    due("two of them", sayings(x, "aaa1;;aaa1"), -25);
    due("a fault in the second", sayings(x, "aaa1;abx1"), -27);
    due("a seventh", sayings(x, "aaa1;aaa1;aaa1;aaa1;aaa1;aaa1;aaa1"), -49);
    due("a semicolon behind the sixth", sayings(x, "aaa1;aaa1;aaa1;aaa1;aaa1;aaa1 ;"), -50);
    due("none came", x.count(7), 0);
    due("one, with 0s and blanks", sayings(x, " a b c 0007 "), 1);
    due("it is of b, too", x.maybe(1, 7), 4);
    due("and of a", x.maybe(0, 7), 4);
    due("at no other tick for another", x.maybe(0, 6), 4);
    due("six", sayings(x, "aaa0;aaa0;bba0;abc23;aac8;bbc7"), 6);
    due("seven in all", x.count(7), 7);
    due("six more don't have room", sayings(x, "aaa0;aaa0;bba0;abc23;aac8;bbc7"), FULL);
    due("none of them came", x.count(7), 7);
    due("the tape is empty behind FULL", x.type('a', 1), 1);
    due("a fault ahead of FULL", sayings(x, ""), -21);
    due("the tape is empty behind a fault", x.type('a', 1), 1);
    x.walk();
    due("five have", sayings(x, "aac7;aac7;aac7;aac7;aac7"), 5);
    due("twelve", x.count(7), 12);
    due("the tape is empty behind sayings", x.type('a', 1), 1);
    x.walk();
    due("full", sayings(x, "aaa1"), FULL);
    // a and b in c at 7, both in a at 0: no way
    due("both lie", x.liars(), 3);
    BackStairs y = house(1);
    y.folk(0);
    due("0 and 23", sayings(y, "aaa0;aaa23"), 2);
    due("big letters", sayings(y, "Aaa0"), -20);
  }

  private static void promise23() {
    BackStairs x = house(3);
    x.folk(1);
    due("none", x.unsay(0), BAD);
    for (int k = 0; k < 3; k++) x.say(0, 0, k, 5);
    due("he can't be in three rooms", x.liars(), 1);
    due("above", x.unsay(3), BAD);
    due("below", x.unsay(-1), BAD);
    due("the first", x.unsay(0), 2);
    due("the last", x.unsay(1), 1);
    due("the one in the midst is left", x.maybe(0, 5), 2);
    due("it is the first now", x.unsay(0), 0);
    due("none is left", x.maybe(0, 5), 7);
    BackStairs y = house(3);
    y.folk(0);
    y.folk(1);
    y.say(0, 0, 0, 1);
    y.say(1, 1, 2, 9);
    y.say(0, 1, 0, 9);
    due("the one that the others speak against", y.unsay(0), 2);
    due("one lies", y.liars(), 1);
    due("he who is left says where he was", y.maybe(1, 3), 4);
    due("of the first nothing is left", y.maybe(0, 3), 7);
  }

  private static void promise24() {
    due("no rooms", new BackStairs().liars(), NOT);
    BackStairs e = new BackStairs();
    e.folk(0);
    due("folk, but no rooms", e.liars(), NOT);
    due("nobody", house(1).liars(), 0);
    BackStairs x = house(4, 0, 1, OPEN, 1, 2, BACK);
    x.folk(0);
    x.folk(1);
    x.folk(1);
    due("nothing said", x.liars(), 0);
    x.say(1, 1, 0, 0);
    x.say(1, 1, 2, 2);
    due("a servant has time", x.liars(), 0);
    x.say(0, 0, 0, 0);
    x.say(0, 0, 1, 1);
    due("a guest has time", x.liars(), 0);
    x.say(2, 1, 1, 1);
    due("the third was there, too", x.liars(), 0);
    x.say(2, 1, 0, 1);
    due("he contradicts himself", x.liars(), 4);
    x.unsay(5);
    x.say(2, 0, 2, 3);
    due("a guest can't be there, by him alone", x.liars(), 1);
    x.say(0, 0, 1, 1);
    due("of like ones the least set", x.liars(), 1);
    x.say(1, 0, 0, 1);
    due("one is not enough where two say", x.liars(), 3);
    BackStairs y = house(2);
    for (int k = 0; k < 5; k++) y.folk(0);
    y.say(3, 4, 0, 5);
    y.say(4, 4, 1, 5);
    due("{d} ahead of {e}", y.liars(), 8);
    y.say(2, 4, 1, 8);
    due("two say so", y.liars(), 8);
    y.say(1, 4, 0, 8);
    due("one and one", y.liars(), 10);
    y.say(0, 0, 0, 0);
    due("another is no matter", y.liars(), 10);
    BackStairs z = house(2);
    z.folk(0);
    z.folk(0);
    z.say(0, 1, 0, 5);
    z.say(1, 1, 1, 5);
    due("one who lies is still where others saw him", z.liars(), 1);
    due("the other's word stands", z.maybe(1, 0), 2);
    z.say(1, 0, 1, 9);
    due("he who lies, by another", z.maybe(0, 3), 2);
    BackStairs w = house(2, 0, 1, OPEN);
    w.folk(0);
    w.say(0, 0, 0, 5);
    w.say(0, 0, 1, 5);
    due("all may lie", w.liars(), 1);
    w.unsay(1);
    w.say(0, 0, 1, 6);
    due("one tick is time for one door", w.liars(), 0);
  }

  private static void promise25() {
    BackStairs e = new BackStairs();
    due("nobody", e.maybe(0, 0), BAD);
    e.folk(0);
    due("no rooms", e.maybe(0, 0), NOT);
    due("BAD ahead of NOT", e.maybe(1, 0), BAD);
    BackStairs x = house(6, 0, 1, OPEN, 1, 2, OPEN, 2, 3, BACK, 3, 4, OPEN);
    x.folk(0);
    x.folk(1);
    due("anywhere", x.maybe(0, 0), 63);
    x.say(0, 0, 0, 10);
    x.say(1, 1, 0, 10);
    int[] guest = {7, 7, 7, 7, 7, 7, 7, 7, 7, 3, 1, 3, 7};
    for (int t = 0; t < 13; t++) due("a guest at " + t, x.maybe(0, t), guest[t]);
    due("behind", x.maybe(1, 12), 7);
    due("farther", x.maybe(1, 13), 15);
    due("all that he can reach", x.maybe(1, 23), 31);
    due("ahead", x.maybe(1, 6), 31);
    x.say(1, 1, 3, 14);
    int[] servant = {1, 3, 6, 12, 8, 28};
    for (int t = 10; t < 16; t++) due("between two at " + t, x.maybe(1, t), servant[t - 10]);
    for (int t : NO_TICK) due("tick " + t, x.maybe(0, t), BAD);
    due("below", x.maybe(-1, 0), BAD);
    due("above", x.maybe(2, 0), BAD);
    x.say(0, 0, 2, 11);
    due("he lies, so he is anywhere", x.maybe(0, 10), 63);
    x.room();
    due("in a new room, too", x.maybe(0, 10), 127);
    BackStairs y = house(3, 0, 1, OPEN, 1, 2, OPEN);
    y.folk(0);
    y.folk(0);
    y.say(0, 1, 0, 5);
    y.say(1, 1, 0, 5);
    due("one room twice", y.maybe(1, 6), 3);
    y.wall(0, 1);
    due("with the door gone", y.maybe(1, 6), 1);
    y.door(0, 2, OPEN);
    due("with another door", y.maybe(1, 6), 5);
  }

  private static void promise26() {
    BackStairs x = new BackStairs();
    due("no rooms", x.theft(0, 0, 0), BAD);
    x.room();
    x.room();
    due("room below", x.theft(-1, 0, 0), BAD);
    due("room above", x.theft(2, 0, 0), BAD);
    for (int t : NO_TICK) {
      due("from " + t, x.theft(0, t, 23), BAD);
      due("to " + t, x.theft(0, 0, t), BAD);
    }
    due("to ahead of from", x.theft(0, 5, 4), BAD);
    due("none yet", x.suspects(), NOT);
    x.folk(0);
    due("one tick", x.theft(0, 5, 5), 1);
    due("he", x.suspects(), 1);
    due("all ticks", x.theft(1, 0, 23), 1);
    due("he", x.suspects(), 1);
    due("a bad one", x.theft(0, 5, 4), BAD);
    x.say(0, 0, 0, 9);
    due("the one ahead stands", x.suspects(), 0);
    due("another room", x.theft(0, 23, 23), 1);
    due("there he was", x.suspects(), 1);
  }

  private static void promise27() {
    BackStairs x = house(4, 0, 1, OPEN, 1, 2, OPEN, 2, 3, BACK);
    due("no theft", x.suspects(), NOT);
    x.theft(3, 5, 6);
    due("no folk", x.suspects(), 0);
    x.folk(0);
    x.folk(1);
    due("both", x.suspects(), 3);
    x.say(0, 0, 0, 4);
    due("a guest can't come there", x.suspects(), 2);
    x.say(1, 1, 1, 4);
    due("a servant in time at the last tick", x.suspects(), 2);
    x.theft(3, 5, 5);
    due("not at the first", x.suspects(), 0);
    x.theft(3, 6, 6);
    due("at the last alone", x.suspects(), 2);
    // he is not alone if another must have been there
    BackStairs y = house(2, 0, 1, OPEN);
    y.folk(0);
    y.folk(0);
    y.folk(0);
    y.theft(0, 5, 6);
    y.say(0, 1, 0, 5);
    due("two must have been there: nobody alone at 5, but they at 6", y.suspects(), 7);
    y.theft(0, 5, 5);
    due("nobody alone", y.suspects(), 0);
    y.unsay(0);
    y.say(0, 0, 0, 5);
    due("he alone, for he must have been there", y.suspects(), 1);
    y.say(1, 1, 1, 4);
    due("still he", y.suspects(), 1);
    y.theft(1, 5, 5);
    due("each other one may be elsewhere", y.suspects(), 6);
  }

  private static void promise28() {
    BackStairs x = house(4, 0, 1, OPEN, 1, 2, OPEN, 2, 3, BACK);
    due("nobody", x.clears(0), BAD);
    x.folk(0);
    x.folk(1);
    x.folk(1);
    due("no theft", x.clears(0), NOT);
    due("BAD ahead of NOT", x.clears(3), BAD);
    due("below", x.clears(-1), BAD);
    x.theft(3, 5, 5);
    due("he is a suspect", x.clears(0), NONE);
    x.say(2, 2, 0, 5);
    x.say(1, 0, 1, 5);
    // one saying puts both a and b into room b at 5
    due("nobody is left", x.suspects(), 0);
    due("what clears a", x.clears(0), 2);
    due("what clears b", x.clears(1), 2);
    due("what clears c", x.clears(2), 1);
    x.say(0, 0, 1, 4);
    due("two say so of a: neither alone clears him", x.clears(0), 0);
    due("b as ahead", x.clears(1), 2);
    x.unsay(0);
    due("c is a suspect now", x.clears(2), NONE);
    // without a saying others lie: found anew
    BackStairs y = house(2);
    y.folk(0);
    y.folk(0);
    y.folk(0);
    y.theft(1, 5, 5);
    y.say(0, 1, 0, 5);
    y.say(2, 1, 1, 5);
    due("the first lies", y.liars(), 1);
    due("b must have been there with c", y.suspects(), 0);
    due("nothing makes a free of both", y.clears(0), 0);
    due("of b: without the second he is in a", y.clears(1), 0);
    y.theft(0, 5, 5);
    due("a may be in a", y.suspects(), 1);
    due("without the second the first stands: b with a", y.clears(1), 0);
    due("without the second c may be there, but not alone", y.clears(2), 0);
    BackStairs z = house(2);
    z.folk(0);
    z.folk(0);
    z.say(0, 0, 0, 5);
    z.say(1, 0, 1, 7);
    z.theft(1, 9, 9);
    due("the first lies, the second puts both there", z.suspects(), 0);
    due("without the second the other is free, and a is in a", z.clears(1), 2);
    due("a is there with b, and without the second in a", z.clears(0), 0);
  }

  private static void promise29() {
    BackStairs x = house(3, 0, 1, OPEN, 1, 2, BACK);
    walk(x, "a1");
    for (int k = 0; k < 3; k++) x.servant(k);
    x.ill(0, true);
    x.ill(2, true);
    for (int k = 0; k < 4; k++) x.errand(0, 0, 1, 0, 0);
    for (int k = 0; k < 5; k++) x.folk(0);
    for (int k = 0; k < 6; k++) x.say(0, 0, 0, 0);
    int[] as = {3, 2, 1, 3, 2, 4, 5, 6};
    for (int k = 0; k < 8; k++) due("count(" + k + ")", x.count(k), as[k]);
    due("below", x.count(-1), BAD);
    due("above", x.count(8), BAD);
    due("far", x.count(Integer.MIN_VALUE), BAD);
  }

  /** A house in which there is one of each kind, with a sheet and with three bytes on the tape. */
  private static BackStairs ofEach() {
    BackStairs x = house(3, 0, 1, OPEN, 1, 2, BACK);
    walk(x, "a1b1");
    x.servant(0);
    x.servant(2);
    x.ill(1, true);
    x.cellar(2);
    x.errand(1, 1, 3, 4, 5);
    x.folk(0);
    x.folk(1);
    x.say(0, 1, 2, 7);
    x.theft(1, 6, 8);
    x.sheet(0, 1, 3);
    tape(x, "a1b");
    return x;
  }

  /** In turn 0 what is there changes, in turn 1 more comes, in turn 2 nothing happens. */
  private static void change(BackStairs x, int turn) {
    if (turn == 0) {
      x.drop(0);
      x.unsay(0);
      x.wall(1, 2);
      x.door(0, 2, OPEN);
      x.ill(1, false);
      x.ill(0, true);
      x.cellar(0);
      x.theft(0, 0, 0);
      x.errand(0, 0, 9, 0, 0);
      x.say(1, 1, 0, 3);
    } else if (turn == 1) {
      for (int k = 0; k < 9; k++) x.room();
      for (int k = 0; k < 9; k++) x.door(0, k, OPEN);
      x.walk();
      walk(x, "c24");
      x.servant(1);
      x.errand(0, 0, 9, 0, 0);
      x.folk(1);
      x.say(2, 2, 0, 3);
    }
  }

  private static void promise30and31() {
    promise = 31;
    due("none", house(3).restore(), NONE);
    int[] asked = answers(ofEach());
    for (int turn = 0; turn < 3; turn++) {
      BackStairs x = ofEach();
      promise = 30;
      due("an image", x.image(), 1);
      promise = 31;
      change(x, turn);
      due("restore", x.restore(), 1);
      int[] again = answers(x);
      for (int k = 0; k < asked.length; k++) due("answer " + k + " in turn " + turn, again[k], asked[k]);
    }
    BackStairs x = ofEach();
    x.image();
    for (int turn = 0; turn < 2; turn++) {
      change(x, turn);
      due("restore, and once more", x.restore(), 1);
    }
    int[] again = answers(x);
    for (int k = 0; k < asked.length; k++) due("answer " + k + " behind two turns", again[k], asked[k]);
    x = ofEach();
    x.image();
    due("the sheet is as it is", x.empty(0), 3);
    due("restore", x.restore(), 1);
    due("the sheet is not kept", x.empty(0), NULL);
    x.sheet(1, 0, 7);
    x.walk();
    due("the tape is not kept", x.type('a', 1), 1);
    due("restore", x.restore(), 1);
    due("the sheet stays", x.empty(1), 7);
    due("the tape stays", x.type('1', 1), 2);
    x.drop(0);
    promise = 30;
    due("another image", x.image(), 1);
    x.errand(0, 0, 1, 0, 0);
    promise = 31;
    due("restore", x.restore(), 1);
    due("as it was at the later one", x.count(5), 0);
    BackStairs y = house(1);
    promise = 30;
    due("of a house without a theft", y.image(), 1);
    promise = 31;
    y.theft(0, 0, 0);
    due("restore", y.restore(), 1);
    due("no theft any more", y.suspects(), NOT);
  }

  /** All that can be asked of a house, its people and its theft. */
  private static int[] answers(BackStairs x) {
    java.util.List<Integer> all = new java.util.ArrayList<>();
    for (int k = 0; k < 8; k++) all.add(x.count(k));
    for (int g = 0; g < 3; g++) for (int t = 0; t < 24; t++) all.add(x.guest(g, t));
    for (int a = 0; a < 3; a++) for (int b = 0; b < 3; b++) all.add(x.trip(a, 0, b, true, -1));
    for (int e = 0; e < 2; e++) for (int w = 0; w < 8; w++) all.add(x.told(e, w));
    all.add(x.cost(0));
    all.add(x.cost(1));
    all.add(x.does(1, 0, 0));
    all.add(x.enough());
    all.add(x.opened(0, 2));
    for (int s = 0; s < 3; s++) all.add(x.missed(s));
    all.add(x.liars());
    for (int f = 0; f < 3; f++) for (int t = 0; t < 24; t++) all.add(x.maybe(f, t));
    all.add(x.suspects());
    all.add(x.clears(0));
    all.add(x.clears(1));
    return all.stream().mapToInt(k -> k).toArray();
  }

  private static void promise32() {
    BackStairs x = house(5);
    due("nothing there", x.errands(0, 0, 0, 1), NULL);
    x.sheet(0, 0, 24);
    fill(x, 0, 0, 2, 0, 1, 2, 3, 4, 1, 4, 9, 0, 23, 0, 0, 1, 7, 7, 1, 0, 1, 23, 23);
    due("two", x.errands(0, 0, 2, 2), 2);
    int[][] as = {{0, 1, 2, 3, 4}, {1, 4, 9, 0, 23}, {0, 0, 1, 7, 7}, {1, 0, 1, 23, 23}};
    for (int e = 0; e < 2; e++) for (int w = 0; w < 5; w++) due("told", x.told(e, w), as[e][w]);
    due("four don't have room", x.errands(0, 0, 2, 4), FULL);
    due("none came", x.count(5), 2);
    due("two more", x.errands(0, 0, 12, 2), 4);
    for (int e = 2; e < 4; e++) for (int w = 0; w < 5; w++) due("told", x.told(e, w), as[e][w]);
    due("one more", x.errands(0, 0, 2, 1), 5);
    due("no room", x.errands(0, 0, 2, 1), FULL);
    due("NOT ahead of FULL", x.errands(0, 0, 0, 1), NOT);
    for (int k = 0; k < 5; k++) x.drop(0);
    due("four", x.errands(0, 0, 2, 4), 4);
    for (int k = 0; k < 4; k++) x.drop(0);
    due("to the end", x.errands(0, 0, 4, 4), NOT);
    due("over it", x.errands(0, 0, 5, 4), INDEX);
    due("one over it", x.errands(0, 0, 20, 1), INDEX);
    due("far over it", x.errands(0, 0, Integer.MAX_VALUE, 1), INDEX);
    due("below", x.errands(0, 0, -1, 1), INDEX);
    due("far below", x.errands(0, 0, Integer.MIN_VALUE, 4), INDEX);
    due("another lane", x.errands(0, 1, 0, 1), CAST);
    due("CAST ahead of INDEX", x.errands(0, 2, -1, 1), CAST);
    due("no lane", x.errands(0, 3, 0, 1), BAD);
    due("lane below", x.errands(0, -1, 0, 1), BAD);
    due("no sheet", x.errands(4, 0, 0, 1), BAD);
    due("sheet below", x.errands(-1, 0, 0, 1), BAD);
    due("n 0", x.errands(0, 0, 0, 0), BAD);
    due("n 5", x.errands(0, 0, 0, 5), BAD);
    due("n below", x.errands(0, 0, 0, -1), BAD);
    due("BAD ahead of NULL", x.errands(1, 0, 0, 0), BAD);
    due("NULL ahead of CAST", x.errands(1, 2, -1, 1), NULL);
    int[][] wrong = {{2, 1, 1, 0, 0}, {-1, 1, 1, 0, 0}, {0, 5, 1, 0, 0}, {0, -1, 1, 0, 0}, {0, 1, 0, 0, 0}, {0, 1, 10, 0, 0},
        {0, 1, 1, -1, 0}, {0, 1, 1, 24, 24}, {0, 1, 1, 0, 24}, {0, 1, 1, 2, 1}};
    x.sheet(2, 2, 10);
    fill(x, 2, 2, 0, 1, 2, 3, 4, 5);
    for (int[] e : wrong) {
      fill(x, 2, 2, 5, e);
      due("one of two is not as told", x.errands(2, 2, 0, 2), NOT);
      due("none came", x.count(5), 0);
    }
    fill(x, 2, 2, 5, 0, 0, 1, 0, 0);
    due("of ints", x.errands(2, 2, 0, 2), 2);
    x.sheet(3, 1, 5);
    fill(x, 3, 1, 0, 0x10000, 0, 1, 0, 0);
    due("of shorts, the lowest bits", x.errands(3, 1, 0, 1), 3);
  }

  private static void promise33() {
    BackStairs x = house(1);
    due("none of items", x.sheet(0, 0, 0), 0);
    due("it is there", x.empty(0), 0);
    due("24", x.sheet(3, 2, 24), 24);
    due("25", x.sheet(0, 0, 25), BAD);
    due("many", x.sheet(0, 0, Integer.MAX_VALUE), BAD);
    due("below 0", x.sheet(3, 0, -1), SIZE);
    due("far below 0", x.sheet(3, 0, Integer.MIN_VALUE), SIZE);
    due("no sheet", x.sheet(4, 0, 1), BAD);
    due("sheet below", x.sheet(-1, 0, 1), BAD);
    due("no lane", x.sheet(0, 3, 1), BAD);
    due("lane below", x.sheet(0, -1, 1), BAD);
    due("BAD ahead of SIZE", x.sheet(0, 3, -1), BAD);
    due("the one there stays at SIZE", x.item(3, 2, 23, 1), 1);
    due("nothing came at BAD", x.empty(0), NULL);
    x.sheet(1, 2, 5);
    x.servant(0);
    fill(x, 1, 2, 0, 0, 0, 1, 0, 0);
    due("an errand", x.errands(1, 2, 0, 1), 1);
    due("a new row", x.sheet(1, 2, 5), 5);
    due("of 0s", x.errands(1, 2, 0, 1), NOT);
    due("of another lane", x.sheet(1, 0, 2), 2);
    due("the old lane is gone", x.item(1, 2, 0, 0), CAST);
    due("the new one is there", x.item(1, 0, 1, 0), 1);
    due("no more than it has", x.item(1, 0, 2, 0), INDEX);
  }

  private static void promise34() {
    BackStairs x = new BackStairs();
    for (int k = 0; k < 4; k++) due("nothing", x.empty(k), NULL);
    x.sheet(0, 0, 24);
    x.sheet(3, 1, 0);
    due("24", x.empty(0), 24);
    due("nothing any more", x.empty(0), NULL);
    due("nor an item", x.item(0, 0, 0, 0), NULL);
    due("none of items", x.empty(3), 0);
    due("nothing any more", x.empty(3), NULL);
    due("no sheet", x.empty(4), BAD);
    due("below", x.empty(-1), BAD);
    due("the others stay", x.sheet(1, 0, 2), 2);
    x.sheet(2, 0, 3);
    due("one", x.empty(1), 2);
    due("another", x.empty(2), 3);
  }

  /** Reads the rank of an errand off a sheet: what item i is, 1 .. 9, or 0. */
  private static int rank(BackStairs x, int sheet, int lane, int i) {
    int wide = 5;
    x.sheet(3, lane, wide);
    x.copy(sheet, i, 3, 2, 1);
    int n = x.errands(3, lane, 0, 1);
    if (n < 0) return 0;
    int rank = x.told(n - 1, 2);
    x.drop(n - 1);
    return rank;
  }

  private static void promise35() {
    BackStairs x = house(1);
    due("nothing", x.item(0, 0, 0, 0), NULL);
    int[] high = {0x100, 0x10000, 0};
    for (int lane = 0; lane < 3; lane++) {
      x.sheet(0, lane, 3);
      due("the first", x.item(0, lane, 0, 7), 1);
      due("the last, its lowest bits", x.item(0, lane, 2, high[lane] + 5), 1);
      due("is 7", rank(x, 0, lane, 0), 7);
      due("is 0", rank(x, 0, lane, 1), 0);
      due("is 5", rank(x, 0, lane, 2), 5);
      due("behind", x.item(0, lane, 3, 0), INDEX);
      due("below", x.item(0, lane, -1, 0), INDEX);
      due("far", x.item(0, lane, Integer.MAX_VALUE, 0), INDEX);
      due("another lane", x.item(0, (lane + 1) % 3, 0, 0), CAST);
      due("CAST ahead of INDEX", x.item(0, (lane + 2) % 3, 3, 0), CAST);
      due("no lane", x.item(0, 3, 0, 0), BAD);
      due("lane below", x.item(0, -1, 0, 0), BAD);
    }
    due("256 is no rank of ints", x.item(0, 2, 0, 257), 1);
    due("0 for none", rank(x, 0, 2, 0), 0);
    x.sheet(0, 1, 3);
    due("257 is none of shorts", x.item(0, 1, 0, 257), 1);
    due("0 for none", rank(x, 0, 1, 0), 0);
    x.sheet(0, 0, 3);
    due("255 is below 0 as a byte", x.item(0, 0, 0, 255), 1);
    due("0 for none", rank(x, 0, 0, 0), 0);
    due("no sheet", x.item(4, 0, 0, 0), BAD);
    due("sheet below", x.item(-1, 0, 0, 0), BAD);
    due("BAD ahead of NULL", x.item(1, 3, 0, 0), BAD);
    due("NULL ahead of INDEX", x.item(1, 0, -1, 0), NULL);
    x.sheet(1, 0, 0);
    due("a row of none", x.item(1, 0, 0, 0), INDEX);
  }

  private static void dueRow(BackStairs x, int sheet, int lane, int... items) {
    for (int k = 0; k < items.length; k++) due("item " + k + " of " + sheet, rank(x, sheet, lane, k), items[k]);
  }

  private static void promise36() {
    BackStairs x = house(1);
    due("both nothing", x.copy(0, 0, 1, 0, 0), NULL);
    x.sheet(0, 0, 6);
    due("to nothing", x.copy(0, 0, 1, 0, 0), NULL);
    due("from nothing", x.copy(1, 0, 0, 0, 0), NULL);
    x.sheet(1, 0, 4);
    fill(x, 0, 0, 0, 1, 2, 3, 4, 5, 6);
    due("to another", x.copy(0, 2, 1, 1, 3), 3);
    dueRow(x, 1, 0, 0, 3, 4, 5);
    due("all", x.copy(1, 0, 0, 2, 4), 4);
    dueRow(x, 0, 0, 1, 2, 0, 3, 4, 5);
    fill(x, 0, 0, 0, 1, 2, 3, 4, 5, 6);
    due("within, up", x.copy(0, 0, 0, 1, 5), 5);
    dueRow(x, 0, 0, 1, 1, 2, 3, 4, 5);
    due("within, down", x.copy(0, 2, 0, 0, 4), 4);
    dueRow(x, 0, 0, 2, 3, 4, 5, 4, 5);
    due("none", x.copy(0, 0, 1, 0, 0), 0);
    due("none at the ends", x.copy(0, 6, 1, 4, 0), 0);
    due("none behind the one", x.copy(0, 7, 1, 0, 0), INDEX);
    due("none behind the other", x.copy(0, 0, 1, 5, 0), INDEX);
    due("none below the one", x.copy(0, -1, 1, 0, 0), INDEX);
    due("none below the other", x.copy(0, 0, 1, -1, 0), INDEX);
    due("n below", x.copy(0, 0, 1, 0, -1), INDEX);
    due("n far below", x.copy(0, 0, 1, 0, Integer.MIN_VALUE), INDEX);
    due("over the one", x.copy(1, 2, 0, 0, 3), INDEX);
    due("over the other", x.copy(0, 0, 1, 2, 3), INDEX);
    due("i runs over", x.copy(0, Integer.MAX_VALUE, 1, 0, 1), INDEX);
    due("j runs over", x.copy(0, 0, 1, Integer.MAX_VALUE, 1), INDEX);
    due("n runs over", x.copy(0, 1, 1, 1, Integer.MAX_VALUE), INDEX);
    dueRow(x, 1, 0, 0, 3, 4, 5);
    x.sheet(2, 1, 6);
    due("unlike lanes", x.copy(0, 0, 2, 0, 1), CAST);
    due("unlike lanes, nothing", x.copy(2, 0, 0, 0, 0), CAST);
    due("CAST ahead of INDEX", x.copy(2, -1, 0, 0, 0), CAST);
    due("no sheet", x.copy(4, 0, 0, 0, 0), BAD);
    due("no sheet to", x.copy(0, 0, 4, 0, 0), BAD);
    due("below", x.copy(-1, 0, 0, 0, 0), BAD);
    due("below to", x.copy(0, 0, -1, 0, 0), BAD);
    x.empty(1);
    due("BAD ahead of NULL", x.copy(1, 0, 4, 0, 0), BAD);
    due("NULL ahead of CAST and INDEX", x.copy(2, -1, 1, 0, -1), NULL);
    x.sheet(1, 1, 3);
    fill(x, 2, 1, 0, 9, 8, 7);
    due("shorts", x.copy(2, 0, 1, 0, 3), 3);
    dueRow(x, 1, 1, 9, 8, 7);
  }

  public static void main(String[] args) {
    promise = 1; promise1();
    promise = 2; promise2();
    promise = 3; promise3();
    promise = 4; promise4();
    promise = 5; promise5();
    promise = 6; promise6();
    promise = 7; promise7();
    promise = 8; promise8();
    promise = 9; promise9();
    promise = 10; promise10();
    promise = 11; promise11();
    promise = 12; promise12();
    promise = 13; promise13();
    promise = 14; promise14();
    promise = 15; promise15();
    promise = 16; promise16();
    promise = 17; promise17();
    promise = 18; promise18();
    promise = 19; promise19();
    promise = 20; promise20();
    promise = 21; promise21();
    promise = 22; promise22();
    promise = 23; promise23();
    promise = 24; promise24();
    promise = 25; promise25();
    promise = 26; promise26();
    promise = 27; promise27();
    promise = 28; promise28();
    promise = 29; promise29();
    promise = 30; promise30and31();
    promise = 32; promise32();
    promise = 33; promise33();
    promise = 34; promise34();
    promise = 35; promise35();
    promise = 36; promise36();
    changes();
    finish("promises");
  }
}
