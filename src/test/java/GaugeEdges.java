/** What is read back, of part IV, and promises 29 to 32: reading, wrong, leak and count. */
final class GaugeEdges {
  private static final int MOST = Integer.MAX_VALUE;
  private static final int LEAST = Integer.MIN_VALUE;
  private static final Calls NEW = new Calls(RockHeat::new);
  private static final Calls BUSY = new Calls(World::busy);
  private static final Calls FULL = new Calls(World::full);
  private static final Calls LAST = new Calls(World::last);

  private GaugeEdges() {
  }

  static void all() {
    justNow();
    wrongThen();
    leaks();
    reading();
    wrong();
    leak();
    counts();
    countOfAnother();
  }

  private static void justNow() {
    Sentence.of("IV", "READ BACK: READINGS (20 at most) of a BORE: its ring 0 was read as so many thousandths just now.");
    RockHeat x = World.warmed(2, 100, 10, 99);
    for (int i = 0; i < 20; i++) {
      Sentence.due("number", x.reading(0, 10000 + i), i);
    }
    Sentence.due("a twenty-first", x.reading(0, 0), -6);
    x.bore(0, 1, 100, 0, 20);
    Sentence.due("a twenty-first, of another BORE", x.reading(1, 0), -6);
    x.sun(1, 1);
    x.hours(1);
    Sentence.due("a twenty-first, of another HOUR", x.reading(0, 0), -6);
    for (int i = 0; i < 20; i++) {
      Sentence.due("of what ring 0 was as it was read", x.wrong(i), i);
    }
  }

  private static void wrongThen() {
    Sentence.of("IV", "WRONG: by how much the i-th is more than ring 0 was then.");
    RockHeat x = World.warmed(2, 100, 10, 99);
    x.sun(1, 1);
    x.reading(0, 10000);
    x.hours(1);
    x.reading(0, 10000);
    x.reading(0, 200000);
    x.reading(0, -100000);
    x.hours(100);
    long[] due = {0, -1, 189999, -110001};
    for (int i = 0; i < due.length; i++) {
      Sentence.due("reading " + i, x.wrong(i), due[i]);
    }
    RockHeat below = World.belowZero();
    below.reading(0, 0);
    below.reading(0, -50);
    Sentence.due("0 is more than -49", below.wrong(0), 49);
    Sentence.due("-50 is less than -49", below.wrong(1), -1);
  }

  /** A LEAK of a BORE of 10 degrees between two READINGS, so many HOURS apart. */
  private static long leakOf(int hold, int first, int last, int hours) {
    RockHeat x = new RockHeat();
    x.bore(0, 2, hold, 999, 10);
    x.bore(0, 1, 100, 0, 20);
    x.reading(1, 0);
    x.reading(0, first);
    x.hours(hours);
    x.reading(0, last);
    x.reading(1, 0);
    return x.leak(0);
  }

  private static void leaks() {
    Sentence.of("IV", "A LEAK would take so much an HOUR of ring 0: between the first and the last READING of a BORE: the difference of WRONG (first less last) times HOLD of ring 0, by HOURS between, cut.");
    Sentence.due("none", leakOf(100, 10000, 10000, 1), 0);
    Sentence.due("one thousandth in one HOUR", leakOf(100, 10001, 10000, 1), 100);
    Sentence.due("one more", leakOf(9999, 9999, 10000, 1), -9999);
    Sentence.due("100 by 99", leakOf(100, 10000, 9999, 99), 1);
    Sentence.due("100 by 100", leakOf(100, 10000, 9999, 100), 1);
    Sentence.due("100 by 101", leakOf(100, 10000, 9999, 101), 0);
    Sentence.due("-100 by 101", leakOf(100, 9999, 10000, 101), 0);
    Sentence.due("-199 by 100", leakOf(199, 9999, 10000, 100), -1);
    Sentence.due("the most", leakOf(9999, 200000, -100000, 1), 2999700000L);
    Sentence.due("the least", leakOf(9999, -100000, 200000, 1), -2999700000L);
    Sentence.due("in 8000 HOURS", leakOf(9999, 200000, -100000, 8000), 374962);
    RockHeat x = new RockHeat();
    x.hours(1000);
    x.bore(0, 1, 100, 0, 10);
    x.reading(0, 10000);
    x.reading(0, 0);
    x.hours(2);
    x.reading(0, 90000);
    x.hours(3);
    x.reading(0, 7);
    x.reading(0, 9950);
    Sentence.due("those between do not count", x.leak(0), 1000);
  }

  private static void reading() {
    Sentence.of("Promise 29", "A READING (-100000 .. 200000): its number.");
    BUSY.taken(3, "reading", 0, -100000);
    BUSY.taken(3, "reading", 2, 200000);
    LAST.taken(0, "reading", 0, 0);
    Sentence.of("Promise 29", "-1;");
    NEW.refused(-1, "reading", 0, 0);
    BUSY.refused(-1, "reading", 3, 0);
    BUSY.refused(-1, "reading", -1, 0);
    BUSY.refused(-1, "reading", 3, -100001);
    BUSY.refused(-1, "reading", MOST, MOST);
    BUSY.refused(-1, "reading", LEAST, LEAST);
    FULL.refused(-1, "reading", 8, 0);
    Sentence.of("Promise 29", "-4;");
    BUSY.refused(-4, "reading", 0, -100001);
    BUSY.refused(-4, "reading", 0, LEAST);
    FULL.refused(-4, "reading", 0, -100001);
    Sentence.of("Promise 29", "-6 (20, too).");
    BUSY.refused(-6, "reading", 0, 200001);
    BUSY.refused(-6, "reading", 0, MOST);
    FULL.refused(-6, "reading", 0, 0);
    FULL.refused(-6, "reading", 7, 200001);
  }

  private static void wrong() {
    Sentence.of("Promise 30", "WRONG of the i-th READING.");
    FULL.asked(0, "wrong", 0);
    FULL.asked(19 - 3000, "wrong", 19);
    BUSY.asked(World.busy().wrong(2), "wrong", 2);
    Sentence.of("Promise 30", "-1 none such.");
    NEW.refused(-1, "wrong", 0);
    BUSY.refused(-1, "wrong", 3);
    BUSY.refused(-1, "wrong", -1);
    BUSY.refused(-1, "wrong", MOST);
    BUSY.refused(-1, "wrong", LEAST);
    FULL.refused(-1, "wrong", 20);
  }

  private static void leak() {
    Sentence.of("Promise 31", "A LEAK.");
    BUSY.asked(World.busy().leak(0), "leak", 0);
    Sentence.due("of a BORE told later", leakOf(250, 10002, 10000, 5), 100);
    Sentence.of("Promise 31", "-1;");
    NEW.refused(-1, "leak", 0);
    BUSY.refused(-1, "leak", 3);
    BUSY.refused(-1, "leak", -1);
    BUSY.refused(-1, "leak", MOST);
    BUSY.refused(-1, "leak", LEAST);
    FULL.refused(-1, "leak", 8);
    Sentence.of("Promise 31", "-3 fewer than two READINGS, or the first and the last of one HOUR.");
    BUSY.refused(-3, "leak", 1);
    BUSY.refused(-3, "leak", 2);
    FULL.refused(-3, "leak", 0);
    LAST.refused(-3, "leak", 0);
    RockHeat x = World.full();
    x.hours(1);
    Sentence.due("no room for one of another HOUR", x.reading(0, 0), -6);
    Sentence.due("all of one HOUR still", x.leak(0), Due.LONG + 3);
    RockHeat y = World.busy();
    Sentence.due("one of an HOUR ago", y.reading(1, 9000), 3);
    Sentence.due("two of one HOUR", y.leak(1), Due.LONG + 3);
    y.hours(1);
    y.reading(1, 9000);
    Sentence.due("of two HOURS", y.leak(1) < Due.LONG ? 1 : 0, 1);
  }

  private static void counts() {
    Sentence.of("Promise 32", "0 HOUR, 1 BORES, 2 OPEN ones, 3 HOUSES, 4 JOINED now, 5 points of the TABLE, 6 RULES, 7 bytes on THE TAPE, 8 READINGS, 11 .. 16 REFUSALS -1 .. -6.");
    int[] busy = {30, 3, 2, 3, 1, 2, 2, 3, 3, -9, -9, 0, 0, 0, 0, 0, 0, -9};
    int[] full = {0, 8, 8, 20, 1, 8, 30, 60, 20, -9, -9, 0, 0, 0, 0, 0, 0, -9};
    int[] last = {8000, 1, 1, 2, 1, 0, 1, 0, 0, -9, -9, 0, 0, 0, 0, 0, 0, -9};
    for (int what = 0; what < busy.length; what++) {
      NEW.asked(what > 16 || what == 9 || what == 10 ? -9 : 0, "count", what);
      BUSY.asked(busy[what], "count", what);
      FULL.asked(full[what], "count", what);
      LAST.asked(last[what], "count", what);
    }
    RockHeat x = World.full();
    for (int day = 0; day < 22; day++) {
      Sentence.due("JOINED on DAY " + day, x.count(4), Math.min(20, day + 1));
      x.hours(24);
    }
    RockHeat y = new RockHeat();
    for (int i = 1; i <= 500; i++) {
      y.wrong(0);
    }
    y.told(11);
    y.hours(0);
    y.hours(8001);
    y.ahead(1, 0, 0);
    long[] due = {500, 1, 1, 1, 0, 1};
    for (int i = 0; i < due.length; i++) {
      Sentence.due("many refusals, count(" + (11 + i) + ")", y.count(11 + i), due[i]);
    }
  }

  private static void countOfAnother() {
    Sentence.of("Promise 32", "-9 for another what.");
    int[] others = {-1, 9, 10, 17, 18, -9, -11, 100, MOST, LEAST};
    for (int what : others) {
      NEW.asked(-9, "count", what);
      BUSY.asked(-9, "count", what);
    }
  }
}
