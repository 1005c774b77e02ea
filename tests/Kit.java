/** What the tests by hand share: houses, texts on the tape, rows that can be read, and the count of what is due. */
abstract class Kit {
  static final int BAD = -1, NOT = -2, FULL = -3, NONE = -4, NULL = -11, CAST = -12, INDEX = -13, SIZE = -14;
  static final int OPEN = 0, BACK = 1;
  static final boolean PLAIN = false, COALS = true;
  static final int[] NO_TICK = {-1, 24, Integer.MIN_VALUE, Integer.MAX_VALUE};

  static int passed = 0;
  static int failed = 0;
  /** Which promise is tested; 0: the words under "Terms". */
  static int promise = 0;
  /** The words of the document that are tested, where a test tells them. */
  static String words = "";

  static void due(String what, int got, int want) {
    if (got == want) {
      passed++;
    } else {
      failed++;
      String where = words.isEmpty() ? "" : "\"" + words + "\": ";
      System.out.println("promise " + promise + ": " + where + what + " answered " + got + ", due is " + want);
    }
  }

  static void dueText(String what, String got, String want) {
    due(what + ": " + got + ", due is " + want, got.equals(want) ? 1 : 0, 1);
  }

  static void finish(String name) {
    System.out.println(name + ": " + passed + " answers as due, " + failed + " not");
    if (failed > 0) System.exit(1);
  }

  /** A house of so many rooms with doors told in threes: a, b, kind. */
  static BackStairs house(int rooms, int... doors) {
    BackStairs x = new BackStairs();
    for (int k = 0; k < rooms; k++) x.room();
    for (int k = 0; k + 2 < doors.length; k += 3) x.door(doors[k], doors[k + 1], doors[k + 2]);
    return x;
  }

  /** A house of rooms in a row, with an open door from each to the next. */
  static BackStairs chain(int rooms) {
    BackStairs x = house(rooms);
    for (int k = 1; k < rooms; k++) x.door(k - 1, k, OPEN);
    return x;
  }

  /** How many bytes the tape has behind a text more. */
  static int tape(BackStairs x, String text) {
    int last = 0;
    for (int p = 0; p < text.length(); p += 8) {
      String part = text.substring(p, Math.min(text.length(), p + 8));
      long w = 0;
      for (char c : part.toCharArray()) w = w << 8 | c;
      last = x.type(w, part.length());
    }
    return last;
  }

  static int walk(BackStairs x, String text) {
    tape(x, text);
    return x.walk();
  }

  static int sayings(BackStairs x, String text) {
    tape(x, text);
    return x.sayings();
  }

  /** The letters of a guest's rooms, tick by tick. */
  static String walked(BackStairs x, int guest) {
    StringBuilder row = new StringBuilder();
    for (int t = 0; t < 24; t++) row.append((char) ('a' + x.guest(guest, t)));
    return row.toString();
  }

  /** The letters of a trip's rooms, tick by tick; a dot where it is not. */
  static String tripped(BackStairs x, int from, int tick, int to, boolean coals) {
    StringBuilder row = new StringBuilder();
    for (int t = 0; t < 24; t++) {
      int r = x.trip(from, tick, to, coals, t);
      row.append(r == NONE ? '.' : r < 0 ? '!' : (char) ('a' + r));
    }
    return row.toString();
  }

  /** Puts items onto a sheet from one on. */
  static void fill(BackStairs x, int sheet, int lane, int from, int... items) {
    for (int k = 0; k < items.length; k++) x.item(sheet, lane, from + k, items[k]);
  }
}
