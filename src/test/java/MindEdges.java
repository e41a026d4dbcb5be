/** What is only in mind, of part IV, and promises 24 to 26: ahead, few and takenFrom. */
final class MindEdges {
  private static final int MOST = Integer.MAX_VALUE;
  private static final int LEAST = Integer.MIN_VALUE;
  private static final Calls NEW = new Calls(RockHeat::new);
  private static final Calls BUSY = new Calls(World::busy);
  private static final Calls FULL = new Calls(World::full);
  private static final Calls LAST = new Calls(World::last);

  private MindEdges() {
  }

  static void all() {
    nothingChanges();
    hoursAhead();
    setsOfShut();
    othersAsTheyAre();
    coldest();
    firstHour();
    boughtInAll();
    fewest();
    leastAsBits();
    takenFromOthers();
    ahead();
    aheadRefusals();
    few();
    takenFrom();
  }

  private static void nothingChanges() {
    Sentence.of("IV", "IN MIND (nothing changes):");
    for (int what = 0; what <= 2; what++) {
      for (int shut = 0; shut < 8; shut++) {
        BUSY.asked(World.busy().ahead(40, shut, what), "ahead", 40, shut, what);
      }
    }
    BUSY.asked(World.busy().few(30, 5000), "few", 30, 5000);
    BUSY.asked(World.busy().takenFrom(0, 1, 50), "takenFrom", 0, 1, 50);
    BUSY.asked(World.busy().best(5), "best", 5);
    BUSY.asked(World.busy().best(24), "best", 24);
    RockHeat x = World.busy();
    long bought = x.ahead(40, 1, 2);
    long coldest = x.ahead(40, 1, 0);
    Sentence.due("asked again", x.ahead(40, 1, 2), bought);
    x.few(40, 0);
    x.takenFrom(1, 0, 500);
    Sentence.due("asked again", x.ahead(40, 1, 0), coldest);
    x.open(0, false);
    long told = x.told(5);
    x.hours(40);
    Sentence.due("as it comes", x.told(5) - told, bought);
  }

  private static void hoursAhead() {
    Sentence.of("IV", "AHEAD n HOURS (1 .. 500, also beyond 8000),");
    LAST.asked(70, "ahead", 1, 0, 2);
    LAST.asked(35000, "ahead", 500, 0, 2);
    LAST.asked(9759, "ahead", 1, 0, 0);
    LAST.asked(8000, "ahead", 1, 0, 1);
    // 976000 less 30 an HOUR: below 961100 from the 497th HOUR on.
    LAST.asked(9610, "ahead", 500, 0, 0);
    LAST.asked(8496, "ahead", 500, 0, 1);
    LAST.refused(-4, "ahead", 0, 0, 0);
    LAST.refused(-6, "ahead", 501, 0, 0);
    RockHeat x = World.giving(1000, "(d=354)*(h=3)*500");
    x.hours(8000);
    Sentence.due("DAY 354's hour 3", x.ahead(500, 0, 2), 500000 - 1000);
    Sentence.due("HOUR 8499", x.ahead(500, 0, 1), 8499);
    Sentence.due("none ahead of it", x.ahead(499, 0, 2), 499000);
  }

  private static void setsOfShut() {
    Sentence.of("IV", "with a set of BORES SHUT");
    RockHeat x = World.bits();
    for (int shut = 0; shut < 256; shut++) {
      Sentence.due("SHUT " + shut, x.ahead(1, shut, 2), shut);
    }
    Sentence.due("in 500 HOURS", x.ahead(500, 129, 2), 500 * 129);
    Sentence.due("all are open", x.count(2), 8);
  }

  private static void othersAsTheyAre() {
    Sentence.of("IV", "(others as they are):");
    RockHeat x = World.bits();
    x.open(0, false);
    x.open(7, false);
    for (int shut = 0; shut < 256; shut++) {
      Sentence.due("SHUT " + shut + ", 0 and 7 are", x.ahead(1, shut, 2), shut | 129);
    }
    Sentence.due("six are open", x.count(2), 6);
  }

  private static void coldest() {
    Sentence.of("IV", "the COLDEST ring 0 (thousandths; of all BORES at the ends of these HOURS),");
    RockHeat x = World.giving(1000, "(b=1)*(h=3)*1000");
    Due.tell(x, "(b=1)*99999", World.TAKE, 0);
    x.sun(4, 2000);
    Sentence.due("ahead of HOUR 3", x.ahead(3, 0, 0), 10000);
    Sentence.due("at the end of HOUR 3", x.ahead(4, 0, 0), 9990);
    Sentence.due("though it is warmer later", x.ahead(9, 0, 0), 9990);
    Sentence.due("not with BORE 1 SHUT", x.ahead(9, 2, 0), 10000);
    x.hours(4);
    Sentence.due("not as they begin", x.warmth(1, 0), 9990);
    Sentence.due("BORES 0 and 2 now", x.ahead(1, 0, 0), 10000);
    Sentence.due("of a SHUT one, too", x.ahead(1, 2, 0), 9990);
    RockHeat y = new RockHeat();
    y.bore(0, 1, 100, 0, 99);
    y.bore(0, 2, 100, 0, 98);
    y.bore(0, 1, 100, 0, 99);
    Sentence.due("of all", y.ahead(500, 7, 0), 98000);
    RockHeat below = World.belowZero();
    // 489 come from the RIM: -4506 by 100.
    Sentence.due("below 0", below.ahead(1, 0, 0), -45);
  }

  private static void firstHour() {
    Sentence.of("IV", "the first HOUR at whose end it is so cold,");
    RockHeat x = World.giving(1000, "(b=1)*(h=3)*1000");
    Due.tell(x, "(b=1)*99999", World.TAKE, 0);
    x.sun(4, 1000);
    Sentence.due("the first of three that are alike", x.ahead(3, 0, 1), 0);
    Sentence.due("HOUR 3", x.ahead(4, 0, 1), 3);
    Sentence.due("the first of two that are alike", x.ahead(40, 0, 1), 3);
    x.hours(3);
    Sentence.due("the first one", x.ahead(1, 0, 1), 3);
    x.hours(1);
    Sentence.due("warm by the end of HOUR 4", x.ahead(3, 0, 1), 4);
    Sentence.due("HOUR 27", x.ahead(24, 0, 1), 27);
    Sentence.due("HOUR 27 of two", x.ahead(48, 0, 1), 27);
    Sentence.due("not as far as HOUR 27", x.ahead(23, 0, 1), 4);
  }

  private static void boughtInAll() {
    Sentence.of("IV", "BOUGHT in all.");
    RockHeat x = World.giving(1000, "300");
    x.hours(5);
    Sentence.due("told so far", x.told(5), 500);
    Sentence.due("of one HOUR", x.ahead(1, 0, 2), 100);
    Sentence.due("of 500 HOURS", x.ahead(500, 0, 2), 50000);
    Sentence.due("all SHUT", x.ahead(500, 7, 2), 500000);
    Sentence.due("without a BORE", World.needing(9).ahead(500, 0, 2), 4500);
    Sentence.due("nothing needed", new RockHeat().ahead(500, 0, 2), 0);
  }

  private static void fewest() {
    Sentence.of("IV", "FEW: the fewest BORES that need be OPEN (all others SHUT) so that in n HOURS (1 .. 100) no more than m is BOUGHT;");
    RockHeat x = World.giving(1000, "300+b*100");
    x.open(2, false);
    // They give 300, 400, 500 in an HOUR.
    Sentence.due("none", x.few(1, 1000), 0);
    Sentence.due("one", x.few(1, 999), 1);
    Sentence.due("the one of 300", x.few(1, 700), 1);
    Sentence.due("the one of 400", x.few(1, 699), 2);
    Sentence.due("the one of 500, though it is SHUT", x.few(1, 599), 4);
    Sentence.due("of 500", x.few(1, 500), 4);
    Sentence.due("two", x.few(1, 499), 3);
    Sentence.due("700 of two", x.few(1, 300), 3);
    Sentence.due("800 of two", x.few(1, 299), 5);
    Sentence.due("900 of two", x.few(1, 100), 6);
    Sentence.due("three", x.few(1, 99), 7);
    Sentence.due("all is given", x.few(1, 0), 7);
    Sentence.due("in 100 HOURS", x.few(100, 10000), 6);
    Sentence.due("in 100 HOURS", x.few(100, 9999), 7);
    Sentence.due("in 100 HOURS", x.few(100, 99999), 1);
    Sentence.due("in 100 HOURS", x.few(100, 100000), 0);
    x.hours(10);
    Sentence.due("what was BOUGHT is not of them", x.few(1, 100), 6);
    for (int hour = 0; hour < 24; hour++) {
      x.price(hour, 999);
    }
    Sentence.due("by no PRICE", x.few(100, 9999), 7);
    Sentence.due("by no PRICE", x.few(100, 10000), 6);
  }

  private static void leastAsBits() {
    Sentence.of("IV", "of several the least as bits; -9 none.");
    RockHeat x = World.bits();
    for (int m = 0; m <= 255; m++) {
      int due = 255;
      for (int open = 254; open >= 0; open--) {
        if (255 - open <= m && Integer.bitCount(open) <= Integer.bitCount(due)) {
          due = open;
        }
      }
      Sentence.due("m " + m, x.few(1, m), due);
    }
    RockHeat y = World.giving(1000, "500");
    Sentence.due("of three", y.few(1, 500), 1);
    Sentence.due("of three twos", y.few(1, 0), 3);
    y.house(501, 0, World.ALWAYS);
    y.join(1, 0);
    Sentence.due("1500 of 1501", y.few(1, 1), 7);
    Sentence.due("none", y.few(1, 0), -9);
    Sentence.due("none without a BORE", World.needing(1).few(1, 0), -9);
    Sentence.due("no BORE is enough", World.needing(1).few(1, 1), 0);
    new Calls(() -> World.needing(5)).asked(-9, "few", 2, 9);
  }

  private static void takenFromOthers() {
    Sentence.of("IV", "TAKEN FROM: by how much GIVEN of a BORE in n HOURS (1 .. 500) would be more if another one were SHUT.");
    RockHeat x = World.giving(1000, "600");
    x.hours(7);
    int[] hours = {1, 2, 500};
    for (int n : hours) {
      Sentence.due("the second of the first, " + n, x.takenFrom(1, 0, n), 200 * n);
      Sentence.due("the third of the first, " + n, x.takenFrom(2, 0, n), 400 * n);
      Sentence.due("the third of the second, " + n, x.takenFrom(2, 1, n), 400 * n);
      Sentence.due("the first of the second, " + n, x.takenFrom(0, 1, n), 0);
      Sentence.due("the second of the third, " + n, x.takenFrom(1, 2, n), 0);
    }
    x.open(1, false);
    Sentence.due("of one that is SHUT", x.takenFrom(2, 1, 9), 0);
    Sentence.due("by one that is SHUT", x.takenFrom(1, 0, 9), 0);
    Sentence.due("others as they are", x.takenFrom(2, 0, 9), 1800);
    RockHeat y = World.giving(1000, "0");
    y.hours(8000);
    Due.tell(y, "600", World.GIVE, 333);
    Sentence.due("beyond 8000", y.takenFrom(1, 0, 500), 100000);
    RockHeat z = World.needing(1000);
    z.bore(0, 1, 100, 0, 0);
    z.bore(0, 1, 100, 0, 0);
    z.share(200);
    z.sun(0, 50000);
    Due.tell(z, "(b=1)*99999", World.TAKE, 0);
    Due.tell(z, "(b=0)*300", World.GIVE, 0);
    // BORE 1 gets 500 thousandths in HOUR 0, BORE 0 10 of them in HOUR 1: it is not FROZEN in HOUR 2.
    Sentence.due("frozen still", z.takenFrom(0, 1, 2), 0);
    Sentence.due("less", z.takenFrom(0, 1, 3), -300);
    Sentence.due("less in each HOUR", z.takenFrom(0, 1, 4), -600);
  }

  private static void ahead() {
    Sentence.of("Promise 24", "AHEAD with a set of BORES SHUT: what 0 the COLDEST, 1 the HOUR, 2 BOUGHT.");
    Calls three = new Calls(() -> World.giving(1000, "100*(b+1)"));
    three.asked(9970, "ahead", 10, 0, 0);
    three.asked(9, "ahead", 10, 0, 1);
    three.asked(4000, "ahead", 10, 0, 2);
    three.asked(9980, "ahead", 10, 4, 0);
    three.asked(7000, "ahead", 10, 3, 2);
    three.asked(10000, "ahead", 10, 7, 0);
    three.asked(0, "ahead", 10, 7, 1);
    three.asked(10000, "ahead", 10, 7, 2);
    three.asked(9997, "ahead", 1, 3, 0);
  }

  private static void aheadRefusals() {
    Sentence.of("Promise 24", "-1 others in the set;");
    BUSY.refused(-1, "ahead", 1, 8, 0);
    BUSY.refused(-1, "ahead", 1, 15, 2);
    BUSY.refused(-1, "ahead", 1, 256, 2);
    BUSY.refused(-1, "ahead", 1, -1, 2);
    BUSY.refused(-1, "ahead", 1, LEAST, 2);
    BUSY.refused(-1, "ahead", 1, MOST, 2);
    BUSY.refused(-1, "ahead", 0, 8, 3);
    BUSY.refused(-1, "ahead", 501, -8, -1);
    FULL.refused(-1, "ahead", 1, 256, 0);
    FULL.refused(-1, "ahead", 1, LEAST, 0);
    NEW.refused(-1, "ahead", 1, 1, 0);
    NEW.refused(-1, "ahead", 1, 128, 2);
    Sentence.of("Promise 24", "-2;");
    BUSY.refused(-2, "ahead", 1, 7, 3);
    BUSY.refused(-2, "ahead", 1, 0, -1);
    BUSY.refused(-2, "ahead", 0, 0, MOST);
    BUSY.refused(-2, "ahead", 501, 0, LEAST);
    NEW.refused(-2, "ahead", 1, 0, 3);
    Sentence.of("Promise 24", "-4;");
    BUSY.refused(-4, "ahead", 0, 7, 2);
    BUSY.refused(-4, "ahead", LEAST, 0, 0);
    NEW.refused(-4, "ahead", 0, 0, 0);
    Sentence.of("Promise 24", "-6;");
    BUSY.refused(-6, "ahead", 501, 7, 2);
    BUSY.refused(-6, "ahead", MOST, 0, 1);
    NEW.refused(-6, "ahead", 501, 0, 1);
    Sentence.of("Promise 24", "-3 there is no BORE (what 0, 1).");
    NEW.refused(-3, "ahead", 1, 0, 0);
    NEW.refused(-3, "ahead", 500, 0, 1);
    NEW.asked(0, "ahead", 1, 0, 2);
    FULL.asked(20000, "ahead", 1, 255, 0);
  }

  private static void few() {
    Sentence.of("Promise 25", "FEW (m 0 .. 1000000000); -9.");
    NEW.asked(0, "few", 1, 0);
    NEW.asked(0, "few", 100, 1000000000);
    new Calls(World::bits).asked(255, "few", 100, 0);
    new Calls(World::bits).asked(0, "few", 100, 25500);
    new Calls(() -> World.needing(1)).asked(-9, "few", 100, 99);
    new Calls(() -> World.needing(1)).asked(0, "few", 100, 100);
    Sentence.of("Promise 25", "-4;");
    BUSY.refused(-4, "few", 0, 0);
    BUSY.refused(-4, "few", 1, -1);
    BUSY.refused(-4, "few", LEAST, LEAST);
    BUSY.refused(-4, "few", 101, -1);
    BUSY.refused(-4, "few", 0, 1000000001);
    Sentence.of("Promise 25", "-6.");
    BUSY.refused(-6, "few", 101, 0);
    BUSY.refused(-6, "few", 1, 1000000001);
    BUSY.refused(-6, "few", MOST, MOST);
  }

  private static void takenFrom() {
    Sentence.of("Promise 26", "TAKEN FROM.");
    Calls three = new Calls(() -> World.giving(1000, "600"));
    three.asked(200, "takenFrom", 1, 0, 1);
    three.asked(100000, "takenFrom", 1, 0, 500);
    three.asked(0, "takenFrom", 0, 2, 500);
    Sentence.of("Promise 26", "-1 (one twice, too);");
    NEW.refused(-1, "takenFrom", 0, 1, 1);
    LAST.refused(-1, "takenFrom", 0, 1, 1);
    LAST.refused(-1, "takenFrom", 0, 0, 1);
    BUSY.refused(-1, "takenFrom", 2, 2, 1);
    BUSY.refused(-1, "takenFrom", 0, 3, 1);
    BUSY.refused(-1, "takenFrom", 3, 0, 1);
    BUSY.refused(-1, "takenFrom", 0, -1, 1);
    BUSY.refused(-1, "takenFrom", -1, 0, 1);
    BUSY.refused(-1, "takenFrom", 1, 1, 0);
    BUSY.refused(-1, "takenFrom", MOST, LEAST, 501);
    FULL.refused(-1, "takenFrom", 7, 8, 1);
    FULL.refused(-1, "takenFrom", 8, 7, 1);
    Sentence.of("Promise 26", "-4;");
    BUSY.refused(-4, "takenFrom", 0, 1, 0);
    BUSY.refused(-4, "takenFrom", 0, 1, LEAST);
    Sentence.of("Promise 26", "-6.");
    BUSY.refused(-6, "takenFrom", 0, 1, 501);
    BUSY.refused(-6, "takenFrom", 2, 0, MOST);
  }
}
