/** Promises 27 and 28: the tank and its best day. */
public final class TankTest {
  private static final int ALWAYS = 16777215;

  public static void main(String[] args) {
    tank();
    nothingTold();
    oneCrate();
    threeAnHour();
    notBelowZero();
    ofSeveral();
    costIsCutByHours();
    fromNowOn();
    byDays();
    everyWay();
    Due.end("TankTest");
  }

  private static void tank() {
    RockHeat x = new RockHeat();
    Due.due("27: crates", x.tank(-1, 10000), -4);
    Due.due("27: size", x.tank(10, 0), -4);
    Due.due("27: crates", x.tank(10, 1), -6);
    Due.due("27: size", x.tank(0, 10000), -6);
    Due.due("27: at first", x.tank(9, 9999), 0);
    Due.due("27: was", x.tank(0, 1), 9);
    Due.due("27: was", x.tank(1, 1), 0);
    Due.due("28: what", x.best(-1), Due.LONG + 2);
    Due.due("28: what", x.best(25), Due.LONG + 2);
    Due.due("32: count(12)", x.count(12), 2);
    Due.due("32: count(14)", x.count(14), 2);
    Due.due("32: count(16)", x.count(16), 2);
  }

  private static RockHeat needing(int need) {
    RockHeat x = new RockHeat();
    x.house(need, 0, ALWAYS);
    x.join(0, 0);
    for (int hour = 0; hour < 24; hour++) {
      x.price(hour, 100);
    }
    return x;
  }

  private static void day(String what, RockHeat x, long cost, int... bought) {
    for (int i = 0; i < bought.length; i++) {
      Due.due("28: " + what + ", hour " + i, x.best(i), bought[i]);
    }
    Due.due("28: " + what + ", cost", x.best(24), cost);
  }

  private static void nothingTold() {
    RockHeat x = needing(70);
    day("no crates", x, 24 * 70, 70, 70, 70);
    RockHeat y = new RockHeat();
    y.tank(9, 1);
    day("no need", y, 0, 0, 0, 0);
  }

  private static void oneCrate() {
    RockHeat x = needing(70);
    x.price(3, 50);
    x.price(6, 200);
    x.tank(1, 20);
    // It comes out at hour 4 and in again at hour 5, which costs no more and buys less ahead.
    day("one crate", x, 20 * 70 + 45 + 50 + 90 + 100, 70, 70, 70, 90, 50, 90, 50, 70);
    x.tank(1, 70);
    day("a whole one", x, 20 * 70 + 70 + 0 + 140 + 0, 70, 70, 70, 140, 0, 140, 0, 70);
    x.tank(1, 71);
    day("too large to come out", x, 22 * 70 + 35 + 140, 70, 70, 70, 70, 70, 70, 70);
  }

  private static void threeAnHour() {
    RockHeat x = needing(70);
    x.price(3, 10);
    x.price(6, 200);
    x.price(7, 300);
    x.tank(9, 10);
    // Three crates come in at hour 3, and more at 100 ahead of 200 and 300.
    day("three", x, 20 * 70 + 10 + 100 + 80 + 120, 70, 70, 70, 100, 70, 100, 40, 40, 70);
  }

  private static void notBelowZero() {
    RockHeat x = needing(25);
    x.price(0, 0);
    x.price(2, 999);
    x.tank(9, 10);
    // Three crates come in; of 25 needed two can come out at hour 2, never three.
    day("two of ten", x, 0 + 15 + 5 * 999 / 100 + 21 * 25, 55, 15, 5, 25);
  }

  private static void ofSeveral() {
    RockHeat x = needing(100);
    x.tank(3, 30);
    day("all prices one", x, 2400, 100, 100, 100, 100);
    x.price(5, 200);
    // The first hours buy least: the crates come as late as they can.
    day("late", x, 23 * 100 + 90 + 2 * 10, 100, 100, 100, 100, 190, 10, 100);
    x.tank(9, 10);
    day("late and small", x, 23 * 100 + 30 + 2 * 70, 100, 100, 100, 100, 130, 70, 100);
    for (int hour = 0; hour < 24; hour++) {
      x.price(hour, 0);
    }
    day("all for nothing", x, 0, 100, 100, 100, 100);
    x.tank(2, 100);
    x.price(9, 1);
    day("for nothing, late", x, 0, 100, 100, 100, 100, 100, 100, 100, 100, 200, 0, 100);
    RockHeat y = new RockHeat();
    y.tank(9, 50);
    day("price 10 of nothing", y, 0, 0, 0);
  }

  private static void costIsCutByHours() {
    RockHeat x = needing(99);
    for (int hour = 0; hour < 24; hour++) {
      x.price(hour, 1);
    }
    day("0.99 an hour", x, 0, 99, 99, 99);
    x.tank(1, 1);
    day("nothing is gained", x, 0, 99, 99, 99);
    RockHeat y = needing(150);
    for (int hour = 0; hour < 24; hour++) {
      y.price(hour, 1);
    }
    // 210 cost 2 and 90 nothing: nothing is gained.
    y.tank(1, 60);
    day("two hours cost two", y, 24, 150, 150, 150);
    y.tank(9, 17);
    // Two crates more cost 1, three crates less nothing: of 24 hours 9 by the 30 crates of 15.
    Due.due("28: nine hours for nothing", y.best(24), 15);
  }

  private static void fromNowOn() {
    RockHeat x = needing(100);
    x.price(22, 50);
    x.price(1, 300);
    x.tank(1, 40);
    x.hours(20);
    int[] bought = new int[24];
    for (int i = 0; i < 24; i++) {
      bought[i] = i == 2 || i == 4 ? 140 : i == 3 || i == 5 ? 60 : 100;
    }
    day("over midnight", x, 20 * 100 + 70 + 60 + 140 + 180, bought);
    x.hours(3);
    day("the hour is gone", x, 22 * 100 + 50 + 180 + 40, 100, 140, 60, 100);
  }

  private static void byDays() {
    RockHeat x = needing(100);
    x.house(7, 1, ALWAYS);
    x.join(1, 1);
    x.cold(1, 5);
    x.hours(23);
    day("the next day's need", x, 100 + 23 * 117, 100, 117, 117);
    x.bore(0, 1, 100, 0, 50);
    Due.tell(x, "99999", 0, 0);
    day("nothing but what is bought", x, 100 + 23 * 117, 100, 117, 117);
    Due.due("28: nothing changes", x.count(0), 23);
    x.hours(1);
    Due.due("22: the tank is in mind only", x.told(5), 2300);
  }

  /** Prices, needs and tanks of many kinds, against a best day worked out the other way round. */
  private static void everyWay() {
    java.util.Random chance = new java.util.Random(11);
    for (int run = 0; run < 60; run++) {
      RockHeat x = new RockHeat();
      int[] prices = new int[24];
      for (int hour = 0; hour < 24; hour++) {
        prices[hour] = chance.nextInt(run % 2 == 0 ? 5 : 400);
        x.price(hour, prices[hour]);
      }
      x.house(chance.nextInt(300), 0, chance.nextInt(ALWAYS + 1));
      x.join(0, 0);
      int crates = chance.nextInt(10);
      int size = 1 + chance.nextInt(120);
      x.tank(crates, size);
      x.hours(1 + chance.nextInt(40));
      long[] needs = new long[24];
      int[] paid = new int[24];
      for (int i = 0; i < 24; i++) {
        needs[i] = x.need(x.count(0) + i);
        paid[i] = prices[(x.count(0) + i) % 24];
      }
      long[] best = BestDay.of(needs, paid, crates, size);
      for (int i = 0; i <= 24; i++) {
        Due.due("28: run " + run + ", " + i, x.best(i), best[i]);
      }
    }
  }
}
