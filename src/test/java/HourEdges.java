/** An hour that goes by, of part III, and promises 22 and 23: sun, need, machine, cost and what is told of them. */
final class HourEdges {
  private static final int MOST = Integer.MAX_VALUE;
  private static final int LEAST = Integer.MIN_VALUE;
  private static final Calls NEW = new Calls(RockHeat::new);
  private static final Calls BUSY = new Calls(World::busy);
  private static final Calls FULL = new Calls(World::full);
  private static final Calls LAST = new Calls(World::last);

  private HourEdges() {
  }

  static void all() {
    sunOfHours();
    sunByNumbers();
    take();
    takeAsTheHourBegan();
    wasted();
    needByNumbers();
    openAndNotFrozen();
    giveWorth();
    giveHeld();
    giveLifted();
    liftAsTheHourBegan();
    lifted();
    bought();
    asTheHourBegan();
    cost();
    toldOfAll();
    allHeat();
    told();
    given();
  }

  private static RockHeat sunny(int sun, String take) {
    RockHeat x = new RockHeat();
    x.bore(0, 2, 100, 0, 10);
    x.bore(50, 2, 100, 0, 10);
    x.bore(99, 2, 100, 0, 10);
    x.sun(0, sun);
    Due.tell(x, take, World.TAKE, 0);
    return x;
  }

  private static void taken(RockHeat x, long... due) {
    x.hours(1);
    long all = 0;
    for (int b = 0; b < due.length; b++) {
      Sentence.due("BORE " + b + " took", x.heat(b, 0) - 1000000, due[b]);
      Sentence.due("its ring 1 did not", x.heat(b, 1), 1000000);
      all += due[b];
    }
    Sentence.due("TAKEN", x.told(0), all);
  }

  private static void sunOfHours() {
    Sentence.of("III", "AN HOUR goes by: SUN of the hour (told by hours of the day, 0 .. 99999; 0 at first)");
    RockHeat x = sunny(0, "99999");
    x.hours(24);
    Sentence.due("0 at first", x.told(0) + x.told(1), 0);
    x.sun(0, 3);
    x.sun(1, 40);
    x.sun(23, 99999);
    long[] due = {3, 43, 43};
    for (int hour = 0; hour < 3; hour++) {
      x.hours(1);
      Sentence.due("hour " + hour, x.told(0), due[hour]);
    }
    x.hours(20);
    Sentence.due("ahead of hour 23", x.told(0), 43);
    x.hours(1);
    Sentence.due("hour 23", x.told(0), 43 + 99999);
    x.hours(1);
    Sentence.due("hour 0 of the next DAY", x.told(0), 43 + 99999 + 3);
  }

  private static void sunByNumbers() {
    Sentence.of("III", "goes to BORES by numbers:");
    taken(sunny(1000, "600"), 600, 400, 0);
    taken(sunny(1000, "(b=2)*600+(b=1)*300"), 0, 300, 600);
    taken(sunny(600, "600"), 600, 0, 0);
    taken(sunny(601, "600"), 600, 1, 0);
    taken(sunny(99999, "99999"), 99999, 0, 0);
  }

  private static void take() {
    Sentence.of("III", "each that is OPEN takes no more than TAKE's worth (ring 0 has it),");
    taken(sunny(1000, "999*(b=1)"), 0, 999, 0);
    taken(sunny(1000, "1000*(b=1)"), 0, 1000, 0);
    taken(sunny(1000, "1001*(b=1)"), 0, 1000, 0);
    taken(sunny(1000, "0"), 0, 0, 0);
    taken(sunny(1000, "0-1"), 0, 0, 0);
    taken(sunny(99999, "1"), 1, 1, 1);
    RockHeat x = sunny(1000, "600");
    x.open(0, false);
    taken(x, 0, 600, 400);
    RockHeat all = sunny(1000, "600");
    for (int b = 0; b < 3; b++) {
      all.open(b, false);
    }
    taken(all, 0, 0, 0);
    RockHeat frozen = new RockHeat();
    frozen.bore(0, 1, 100, 0, 0);
    Due.tell(frozen, "70", World.TAKE, 0);
    frozen.sun(0, 70);
    frozen.hours(1);
    Sentence.due("a frozen one too", frozen.heat(0, 0), 70);
  }

  private static void takeAsTheHourBegan() {
    Sentence.of("III", "by its rule as the HOUR began;");
    RockHeat x = sunny(50000, "t*100+(t>10)*20000");
    taken(x, 1000, 1000, 1000);
    RockHeat y = World.needing(5000);
    y.bore(0, 1, 100, 0, 10);
    Due.tell(y, "99999", World.TAKE, 0);
    Due.tell(y, "(h=1)*t*100", World.GIVE, 0);
    y.sun(0, 50000);
    y.sun(1, 60000);
    y.hours(2);
    Sentence.due("TAKEN", y.told(0), 110000);
    Sentence.due("GIVE by 10 degrees, though it is 11 by now", y.told(2), 1000);
  }

  private static void wasted() {
    Sentence.of("III", "the rest is WASTED.");
    String[] takes = {"0", "333", "334", "499*(b<2)", "500*(b<2)", "999*(b=2)", "1000"};
    int[] due = {1000, 1, 0, 2, 0, 1, 0};
    for (int i = 0; i < takes.length; i++) {
      RockHeat x = sunny(1000, takes[i]);
      x.hours(1);
      Sentence.due("TAKE " + takes[i], x.told(1), due[i]);
    }
    RockHeat none = new RockHeat();
    none.sun(0, 99999);
    none.hours(1);
    Sentence.due("no BORE", none.told(1), 99999);
    RockHeat noRule = World.needing(0);
    noRule.bore(0, 1, 100, 0, 10);
    noRule.sun(0, 5);
    noRule.hours(1);
    Sentence.due("no rule", noRule.told(1), 5);
  }

  private static void gave(RockHeat x, long... due) {
    x.hours(1);
    for (int b = 0; b < due.length; b++) {
      Sentence.due("BORE " + b + " gave", x.given(b), due[b]);
      Sentence.due("from ring 0", x.heat(b, 0), 1000000 - due[b]);
      Sentence.due("not from ring 1", x.heat(b, 1), 1000000);
    }
  }

  private static void needByNumbers() {
    Sentence.of("III", "NEED is met by BORES by numbers:");
    gave(World.giving(1000, "600"), 600, 400, 0);
    gave(World.giving(600, "600"), 600, 0, 0);
    gave(World.giving(601, "600"), 600, 1, 0);
    gave(World.giving(1800, "600"), 600, 600, 600);
    gave(World.giving(1801, "600"), 600, 600, 600);
    gave(World.giving(1000, "(b=2)*600+(b=1)*300"), 0, 300, 600);
    gave(World.giving(0, "600"), 0, 0, 0);
  }

  private static void openAndNotFrozen() {
    Sentence.of("III", "each that is OPEN and not FROZEN gives HEAT to the MACHINE (from ring 0), g:");
    RockHeat shut = World.giving(1000, "600");
    shut.open(0, false);
    gave(shut, 0, 600, 400);
    int[] holds = {99, 100};
    for (int held : holds) {
      RockHeat x = World.warmed(1, 100, 0, held);
      x.house(1000, 0, World.ALWAYS);
      x.join(0, 0);
      Due.tell(x, "99999", World.GIVE, 0);
      x.hours(1);
      Sentence.due("HEAT " + held + " of HOLD 100", x.told(2), held < 100 ? 0 : 100);
      Sentence.due("bought", x.told(5), held < 100 ? 1000 : 900);
    }
    RockHeat below = World.belowZero();
    below.soil(0, 0, 0);
    below.hours(1);
    Sentence.due("none of below 0", below.told(2), 50000);
    Sentence.due("what it held", below.heat(0, 0), -4995);
  }

  private static void giveWorth() {
    Sentence.of("III", "no more than GIVE's worth,");
    gave(World.giving(1000, "999*(b=1)"), 0, 999, 0);
    gave(World.giving(1000, "1000*(b=1)"), 0, 1000, 0);
    gave(World.giving(1000, "1001*(b=1)"), 0, 1000, 0);
    gave(World.giving(1000, "0"), 0, 0, 0);
    gave(World.giving(1000, "0-1"), 0, 0, 0);
    gave(World.giving(9999, "1"), 1, 1, 1);
  }

  private static void giveHeld() {
    Sentence.of("III", "than what ring 0 holds above 0,");
    int[] needs = {4999, 5000, 5001};
    for (int need : needs) {
      RockHeat x = World.warmed(2, 100, 0, 5000);
      x.house(need, 0, World.ALWAYS);
      x.join(0, 0);
      Due.tell(x, "99999", World.GIVE, 0);
      x.hours(1);
      Sentence.due("of 5000 for " + need, x.told(2), Math.min(need, 5000));
      Sentence.due("left of 5000 for " + need, x.heat(0, 0), Math.max(0, 5000 - need));
      Sentence.due("bought of " + need, x.told(5), Math.max(0, need - 5000));
    }
    RockHeat sunny = World.warmed(1, 100, 0, 5000);
    sunny.house(9999, 0, World.ALWAYS);
    sunny.join(0, 0);
    sunny.sun(1, 300);
    Due.tell(sunny, "99999", World.GIVE, 0);
    sunny.hours(1);
    Sentence.due("with this HOUR's sun", sunny.told(2), 5300);
  }

  /** One BORE of a LIFT that is one at all WARMTHS: what it gives, lifts, and what is bought. */
  private static void machine(int need, int lift, int worth, int... due) {
    RockHeat x = World.needing(need);
    x.bore(0, 1, 9999, 0, 99);
    x.point(0, lift);
    Due.tell(x, "" + worth, World.GIVE, 0);
    x.hours(1);
    String name = "need " + need + ", LIFT " + lift + ", worth " + worth + ", ";
    Sentence.due(name + "g", x.told(2), due[0]);
    Sentence.due(name + "LIFTED", x.told(3), due[1]);
    Sentence.due(name + "POWER", x.told(4), due[1] - due[0]);
    Sentence.due(name + "BOUGHT", x.told(5), need - due[1]);
  }

  private static void giveLifted() {
    Sentence.of("III", "and than so much that g times LIFT (at ring 0's WARMTH as the HOUR began) by 100 would be above what is needed still: the greatest such g;");
    machine(0, 100, 99999, 0, 0);
    machine(1, 100, 99999, 1, 1);
    machine(9999, 100, 99999, 9999, 9999);
    machine(548, 300, 99999, 182, 546);
    machine(549, 300, 99999, 183, 549);
    machine(551, 300, 99999, 183, 549);
    machine(552, 300, 99999, 184, 552);
    machine(552, 300, 183, 183, 549);
    machine(99, 101, 99999, 99, 99);
    machine(100, 101, 99999, 99, 99);
    machine(101, 101, 99999, 100, 101);
    machine(3, 150, 99999, 2, 3);
    machine(4, 150, 99999, 3, 4);
    machine(5, 150, 99999, 3, 4);
    machine(6, 150, 99999, 4, 6);
    machine(8, 999, 99999, 0, 0);
    machine(9, 999, 99999, 1, 9);
    machine(18, 999, 99999, 1, 9);
    machine(19, 999, 99999, 2, 19);
    machine(9990, 999, 99999, 1000, 9990);
    machine(9989, 999, 99999, 999, 9980);
    RockHeat x = World.giving(8, "99999");
    x.point(0, 300);
    // 2 of 8 need 6; of the 2 that are needed still none can give.
    gave(x, 2, 0, 0);
    Sentence.due("bought", x.told(5), 2);
  }

  private static void liftAsTheHourBegan() {
    Sentence.of("III", "(at ring 0's WARMTH as the HOUR began)");
    RockHeat x = World.needing(1000);
    x.bore(0, 2, 100, 0, 10);
    x.point(10, 200);
    x.point(11, 300);
    Due.tell(x, "99999", World.TAKE, 0);
    Due.tell(x, "100", World.GIVE, 0);
    x.sun(0, 50000);
    x.hours(1);
    Sentence.due("by 10000 thousandths", x.told(3), 200);
    x.hours(1);
    Sentence.due("by 10499 thousandths", x.told(3), 200 + 249);
  }

  private static void lifted() {
    Sentence.of("III", "LIFTED is g times LIFT by 100, cut, POWER that less g.");
    RockHeat x = World.giving(1000, "3");
    x.point(0, 150);
    x.hours(1);
    Sentence.due("4.5 is cut, of each of three", x.told(3), 12);
    Sentence.due("1 of each", x.told(4), 3);
    RockHeat y = World.giving(1000, "1");
    y.point(0, 199);
    y.hours(1);
    Sentence.due("1.99 is cut", y.told(3), 3);
    Sentence.due("no POWER", y.told(4), 0);
    RockHeat z = World.giving(1000, "100");
    z.point(0, 999);
    z.hours(1);
    // 999 of the first; of 1 no more.
    Sentence.due("999", z.told(3), 999);
    Sentence.due("POWER", z.told(4), 899);
  }

  private static void bought() {
    Sentence.of("III", "What is not met is BOUGHT.");
    int[] needs = {0, 1, 1799, 1800, 1801, 9999};
    for (int need : needs) {
      RockHeat x = World.giving(need, "600");
      x.hours(1);
      Sentence.due("of " + need, x.told(5), Math.max(0, need - 1800));
    }
    RockHeat none = World.needing(7);
    none.hours(1);
    Sentence.due("no BORE", none.told(5), 7);
  }

  private static void asTheHourBegan() {
    Sentence.of("III", "Then AN HOUR of ground. (WARMTH and FROZEN as the HOUR began; HEAT as it is then.)");
    RockHeat frozen = World.needing(1000);
    frozen.bore(0, 1, 100, 0, 0);
    Due.tell(frozen, "99999", World.GIVE, 0);
    Due.tell(frozen, "99999", World.TAKE, 0);
    frozen.sun(0, 50000);
    frozen.soil(0, 100, 0);
    frozen.hours(1);
    Sentence.due("FROZEN as the HOUR began", frozen.told(2), 0);
    Sentence.due("no WARMTH as the HOUR began", frozen.told(7), 0);
    frozen.hours(1);
    Sentence.due("not FROZEN any more", frozen.told(2), 1000);
    Sentence.due("500 thousandths as the HOUR began", frozen.told(7), 500);
    RockHeat all = World.warmed(1, 100, 0, 100);
    all.house(5000, 0, World.ALWAYS);
    all.join(0, 0);
    all.soil(0, 999, 0);
    Due.tell(all, "99999", World.GIVE, 0);
    all.sun(1, 400);
    all.hours(1);
    Sentence.due("the HEAT as it is then", all.told(2), 500);
    Sentence.due("LOST though all is given", all.heat(0, 0), -9);
  }

  private static void cost() {
    Sentence.of("III", "COST: (POWER and BOUGHT of the HOUR) times PRICE by 100, cut, HOUR by HOUR.");
    int[] needs = {0, 9, 10, 19, 20, 109};
    int[] due = {0, 0, 1, 1, 2, 10};
    for (int i = 0; i < needs.length; i++) {
      RockHeat x = World.needing(needs[i]);
      x.hours(1);
      Sentence.due(needs[i] + " at 10", x.told(6), due[i]);
      x.hours(2);
      Sentence.due("HOUR by HOUR, " + needs[i] + " at 10", x.told(6), 3 * due[i]);
    }
    RockHeat x = World.needing(198);
    x.bore(0, 1, 100, 0, 10);
    x.bore(50, 1, 100, 0, 10);
    x.point(0, 160);
    Due.tell(x, "50", World.GIVE, 0);
    // Each gives 50 and lifts 80: POWER 60, BOUGHT 38.
    int[] prices = {1, 2, 102, 103, 999, 0};
    long[] costs = {0, 1, 99, 100, 979, 0};
    long all = 0;
    for (int hour = 0; hour < prices.length; hour++) {
      x.price(hour, prices[hour]);
      x.hours(1);
      all += costs[hour];
      Sentence.due("98 at " + prices[hour], x.told(6), all);
    }
    Sentence.due("POWER", x.told(4), 6 * 60);
    Sentence.due("BOUGHT", x.told(5), 6 * 38);
  }

  private static void toldOfAll() {
    Sentence.of("III", "TOLD of all HOURS: SUN TAKEN, WASTED, GIVEN, LIFTED, POWER, BOUGHT, COST, LOST, CARRIED OFF.");
    RockHeat x = World.needing(1000);
    x.bore(0, 1, 100, 0, 10);
    x.point(0, 200);
    x.soil(0, 100, 100);
    Due.tell(x, "700", World.TAKE, 0);
    Due.tell(x, "300", World.GIVE, 0);
    x.sun(0, 1000);
    x.sun(1, 1100);
    x.hours(2);
    // As HOUR 1 began it held 400 more, 4 thousandths.
    long[] due = {1400, 700, 600, 1200, 600, 800, 140, 4, 40};
    for (int what = 0; what < due.length; what++) {
      Sentence.due("told(" + what + ")", x.told(what), due[what]);
    }
  }

  private static void allHeat() {
    Sentence.of("III", "HEAT of all rings is what it was at first, and TAKEN, less GIVEN, LOST, CARRIED OFF.");
    RockHeat[] all = {new RockHeat(), World.belowZero(), World.busy(), World.full(), World.last()};
    for (int i = 0; i < all.length; i++) {
      for (int n = 0; n < 6; n++) {
        RockHeat x = all[i];
        long due = x.told(10) + x.told(0) - x.told(2) - x.told(7) - x.told(8);
        Sentence.due("object " + i + " in HOUR " + x.count(0), x.told(9), due);
        x.hours(1 + 7 * n);
      }
    }
  }

  private static void told() {
    Sentence.of("Promise 22", "0 SUN TAKEN, 1 WASTED, 2 GIVEN, 3 LIFTED, 4 POWER, 5 BOUGHT, 6 COST, 7 LOST, 8 CARRIED OFF, 9 HEAT of all rings, 10 what it was at first (of all BORES as they were told).");
    for (int what = 0; what <= 10; what++) {
      NEW.asked(0, "told", what);
      BUSY.asked(World.busy().told(what), "told", what);
    }
    long first = 0;
    for (int i = 0; i < 8; i++) {
      first += 1000L * (20 + i) * (100 + i + 110 + i);
    }
    FULL.asked(first, "told", 9);
    FULL.asked(first, "told", 10);
    LAST.asked(24000, "told", 2);
    LAST.asked(7976 * 100 - 24000, "told", 5);
    LAST.asked(976000, "told", 9);
    LAST.asked(1000000, "told", 10);
    RockHeat x = World.warmed(1, 100, 10, 5000);
    x.bore(0, 2, 200, 0, 20);
    Sentence.due("all rings, with a BORE told later", x.told(9), 1005000 + 8000000);
    Sentence.due("at first, with a BORE told later", x.told(10), 1000000 + 8000000);
    Sentence.of("Promise 22", "-2.");
    refusedWhat("told", -1, 11);
  }

  private static void refusedWhat(String name, int below, int above) {
    BUSY.refused(-2, name, below);
    BUSY.refused(-2, name, above);
    BUSY.refused(-2, name, LEAST);
    BUSY.refused(-2, name, MOST);
  }

  private static void given() {
    Sentence.of("Promise 23", "GIVEN of a BORE.");
    RockHeat x = World.giving(1000, "400");
    x.hours(3);
    Sentence.due("the first", x.given(0), 1200);
    Sentence.due("the last", x.given(2), 600);
    FULL.asked(0, "given", 7);
    LAST.asked(24000, "given", 0);
    Sentence.of("Promise 23", "-1.");
    NEW.refused(-1, "given", 0);
    BUSY.refused(-1, "given", 3);
    BUSY.refused(-1, "given", -1);
    BUSY.refused(-1, "given", MOST);
    BUSY.refused(-1, "given", LEAST);
    FULL.refused(-1, "given", 8);
  }
}
