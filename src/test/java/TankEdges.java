/** The tank of part IV, and promises 27 and 28: the best day. */
final class TankEdges {
  private static final int MOST = Integer.MAX_VALUE;
  private static final int LEAST = Integer.MIN_VALUE;
  private static final Calls NEW = new Calls(RockHeat::new);
  private static final Calls BUSY = new Calls(World::busy);
  private static final Calls LAST = new Calls(World::last);

  private TankEdges() {
  }

  static void all() {
    aDayFromNowOn();
    crates();
    sizes();
    threeMore();
    threeLess();
    leastCost();
    cutByHours();
    ofSeveral();
    tank();
    best();
  }

  /** One HOUSE, and PRICE 100 in all hours: what is bought is the cost. */
  private static RockHeat needing(int need) {
    RockHeat x = World.needing(need);
    for (int hour = 0; hour < 24; hour++) {
      x.price(hour, 100);
    }
    return x;
  }

  /** What is bought in the first HOURS and, at last, what is the cost of all 24. */
  private static void day(String name, RockHeat x, long... due) {
    for (int i = 0; i < due.length - 1; i++) {
      Sentence.due(name + ", HOUR " + i, x.best(i), due[i]);
    }
    Sentence.due(name + ", cost", x.best(24), due[due.length - 1]);
  }

  private static void aDayFromNowOn() {
    Sentence.of("IV", "THE TANK: a day from now on (24 HOURS by NEED and PRICE of them, nothing but what is bought):");
    RockHeat x = needing(100);
    x.house(7, 1, World.ALWAYS);
    x.join(1, 1);
    x.cold(1, 5);
    x.price(0, 200);
    x.bore(0, 1, 100, 0, 50);
    Due.tell(x, "99999", World.GIVE, 0);
    day("from HOUR 0 on", x, 100, 100, 100, 200 + 23 * 100);
    Sentence.due("to HOUR 23", x.best(23), 100);
    x.hours(1);
    day("from HOUR 1 on", x, 100, 100, 23 * 100 + 2 * 117);
    Sentence.due("to HOUR 24", x.best(23), 117);
    x.hours(22);
    day("from HOUR 23 on", x, 100, 117, 117, 100 + 2 * 117 + 22 * 117);
    x.hours(1);
    day("from HOUR 24 on", x, 117, 117, 117, 2 * 117 + 23 * 117);
    LAST.asked(100, "best", 0);
    LAST.asked(100, "best", 23);
    LAST.asked(240, "best", 24);
  }

  private static void crates() {
    Sentence.of("IV", "it holds up to some CRATES (0 .. 9; 0 at first)");
    RockHeat x = needing(100);
    for (int hour = 0; hour < 4; hour++) {
      x.price(hour, 0);
    }
    day("0 at first", x, 100, 100, 100, 100, 100, 2000);
    for (int held = 0; held <= 9; held++) {
      Sentence.due("told", x.tank(held, 10), held == 0 ? 0 : held - 1);
      int[] in = {0, Math.max(0, held - 6), Math.max(0, Math.min(3, held - 3)), Math.min(3, held)};
      for (int i = 0; i < 4; i++) {
        Sentence.due(held + " come in late, HOUR " + i, x.best(i), 100 + 10 * in[i]);
        Sentence.due(held + " come out early, HOUR " + (7 - i), x.best(7 - i), 100 - 10 * in[i]);
      }
      Sentence.due(held + " crates, cost", x.best(24), 2000 - 10 * held);
    }
    NEW.refused(-4, "tank", -1, 1);
    NEW.refused(-6, "tank", 10, 1);
  }

  private static void sizes() {
    Sentence.of("IV", "of SIZE (1 .. 9999 HEAT; 100 at first), none as the day begins;");
    int[] sizes = {1, 2, 5000, 9998, 9999};
    for (int size : sizes) {
      RockHeat x = needing(9999);
      x.price(1, 0);
      x.tank(1, size);
      day("SIZE " + size, x, 9999, 9999 + size, 9999 - size, 9999, 23 * 9999 - size);
    }
    NEW.refused(-4, "tank", 1, 0);
    NEW.refused(-6, "tank", 1, 10000);
    RockHeat x = needing(100);
    x.price(0, 999);
    x.tank(9, 10);
    day("none as the day begins", x, 100, 100, 999 + 2300);
    x.hours(24);
    day("nor the next one", x, 100, 100, 999 + 2300);
  }

  private static void threeMore() {
    Sentence.of("IV", "in each HOUR NEED and up to 3 CRATES more are bought (they go in),");
    int[] held = {1, 2, 3, 4, 9};
    for (int crates : held) {
      RockHeat x = needing(100);
      x.price(0, 0);
      x.tank(crates, 10);
      int more = 10 * Math.min(3, crates);
      day(crates + " crates", x, 100 + more, 100 - more, 100, 2300 - more);
      x.price(1, 0);
      x.tank(crates, 10);
      int both = 10 * Math.min(6, crates);
      Sentence.due(crates + " crates in two HOURS", x.best(0) + x.best(1), 200 + both);
      Sentence.due(crates + " crates in two HOURS, cost", x.best(24), 2200 - both);
    }
  }

  private static void threeLess() {
    Sentence.of("IV", "or up to 3 CRATES less (they come out; not below 0 bought).");
    int[] needs = {0, 9, 10, 19, 20, 29, 30, 31, 100};
    int[] out = {0, 0, 1, 1, 2, 2, 3, 3, 3};
    for (int i = 0; i < needs.length; i++) {
      RockHeat x = needing(needs[i]);
      x.price(4, 50);
      x.price(5, 200);
      x.price(6, 0);
      x.price(23, 200);
      x.price(22, 0);
      x.tank(9, 10);
      Sentence.due("need " + needs[i] + ", out", x.best(5), needs[i] - 10 * out[i]);
      Sentence.due("need " + needs[i] + ", at last", x.best(23), needs[i] - 10 * out[i]);
    }
    RockHeat x = needing(100);
    x.price(4, 200);
    x.price(5, 200);
    x.tank(4, 10);
    day("four of two HOURS", x, 100, 100, 110, 130, 70, 90, 100, 2600 - 40);
  }

  private static void leastCost() {
    Sentence.of("IV", "Of all ways the one with the least cost");
    RockHeat x = needing(100);
    int[] prices = {90, 110, 80, 120, 100, 100, 100, 100};
    for (int hour = 0; hour < prices.length; hour++) {
      x.price(hour, prices[hour]);
    }
    x.tank(1, 100);
    day("one crate twice", x, 200, 0, 200, 0, 100, 90 * 2 + 80 * 2 + 20 * 100);
    x.tank(2, 50);
    day("two crates twice", x, 200, 0, 200, 0, 100, 90 * 2 + 80 * 2 + 20 * 100);
    x.tank(2, 100);
    // A second crate of HOUR 2 is worth 100 from HOUR 4 on.
    day("two crates", x, 200, 0, 300, 0, 0, 90 * 2 + 80 * 3 + 19 * 100);
    RockHeat y = needing(100);
    y.price(0, 101);
    y.tank(9, 10);
    day("dear as the day begins", y, 100, 100, 101 + 2300);
  }

  private static void cutByHours() {
    Sentence.of("IV", "(bought times PRICE by 100, cut, HOUR by HOUR);");
    RockHeat x = World.needing(99);
    for (int hour = 0; hour < 24; hour++) {
      x.price(hour, 1);
    }
    Sentence.due("0.99 of each", x.best(24), 0);
    RockHeat y = World.needing(150);
    for (int hour = 0; hour < 24; hour++) {
      y.price(hour, 1);
    }
    Sentence.due("1.5 of each", y.best(24), 24);
    y.tank(2, 40);
    // 190 cost 1, 70 nothing, 230 two.
    for (int i = 0; i < 24; i++) {
      Sentence.due("two in, both out, HOUR " + i, y.best(i), i % 3 == 2 ? 70 : 190);
    }
    Sentence.due("two of three cost 1", y.best(24), 16);
    y.tank(1, 50);
    Sentence.due("200 cost 2", y.best(24), 24);
    y.tank(1, 49);
    Sentence.due("199 cost 1, 101 too", y.best(24), 24);
  }

  private static void ofSeveral() {
    Sentence.of("IV", "of several the one that buys least in the first HOUR, then the next one.");
    RockHeat x = needing(100);
    x.tank(9, 30);
    for (int i = 0; i < 24; i++) {
      Sentence.due("one PRICE, HOUR " + i, x.best(i), 100);
    }
    for (int hour = 0; hour < 24; hour++) {
      x.price(hour, 0);
    }
    for (int i = 0; i < 24; i++) {
      Sentence.due("for nothing, HOUR " + i, x.best(i), 100);
    }
    RockHeat y = needing(100);
    y.price(0, 50);
    y.price(1, 50);
    y.price(3, 200);
    y.price(4, 200);
    y.tank(1, 40);
    day("in late, out early", y, 100, 140, 100, 60, 100, 100, 50 + 70 + 100 + 120 + 200 + 1900);
    y.price(0, 49);
    day("cheaper in the first", y, 140, 100, 100, 60, 100, 100, 68 + 50 + 100 + 120 + 200 + 1900);
    RockHeat z = needing(100);
    z.price(23, 101);
    z.tank(1, 100);
    Sentence.due("nothing early", z.best(0) + z.best(21), 200);
    Sentence.due("in at last", z.best(22), 200);
    Sentence.due("out at last", z.best(23), 0);
  }

  private static void tank() {
    Sentence.of("Promise 27", "THE TANK: how many CRATES it held.");
    NEW.taken(0, "tank", 0, 1);
    NEW.taken(0, "tank", 9, 9999);
    BUSY.taken(3, "tank", 0, 9999);
    BUSY.taken(3, "tank", 9, 1);
    Sentence.of("Promise 27", "-4;");
    BUSY.refused(-4, "tank", -1, 1);
    BUSY.refused(-4, "tank", 0, 0);
    BUSY.refused(-4, "tank", 10, 0);
    BUSY.refused(-4, "tank", -1, 10000);
    BUSY.refused(-4, "tank", LEAST, LEAST);
    Sentence.of("Promise 27", "-6.");
    BUSY.refused(-6, "tank", 10, 1);
    BUSY.refused(-6, "tank", 0, 10000);
    BUSY.refused(-6, "tank", MOST, MOST);
  }

  private static void best() {
    Sentence.of("Promise 28", "Of the best day: i 0 .. 23: what is bought in the i-th HOUR, 24: the cost.");
    for (int i = 0; i <= 24; i++) {
      NEW.asked(0, "best", i);
      BUSY.asked(World.busy().best(i), "best", i);
    }
    for (int cheap = 0; cheap < 24; cheap++) {
      RockHeat x = World.needing(100);
      x.price(cheap, 5);
      x.tank(1, 60);
      for (int i = 0; i < 24; i++) {
        int due = cheap == 23 ? 100 : i == cheap ? 160 : i == cheap + 1 ? 40 : 100;
        Sentence.due("hour " + cheap + " is cheap, HOUR " + i, x.best(i), due);
      }
      Sentence.due("hour " + cheap + " is cheap, cost", x.best(24), cheap == 23 ? 235 : 232);
    }
    Sentence.of("Promise 28", "-2.");
    BUSY.refused(-2, "best", -1);
    BUSY.refused(-2, "best", 25);
    BUSY.refused(-2, "best", LEAST);
    BUSY.refused(-2, "best", MOST);
    NEW.refused(-2, "best", 25);
  }
}
