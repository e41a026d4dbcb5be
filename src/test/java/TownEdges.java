/** Part II and promises 10 to 18: houses, cold, need, the machine's table, prices and sun. */
final class TownEdges {
  private static final int MOST = Integer.MAX_VALUE;
  private static final int LEAST = Integer.MIN_VALUE;
  private static final Calls NEW = new Calls(RockHeat::new);
  private static final Calls BUSY = new Calls(World::busy);
  private static final Calls FULL = new Calls(World::full);
  private static final Calls LAST = new Calls(World::last);

  private TownEdges() {
  }

  static void all() {
    terms();
    lifts();
    house();
    join();
    cold();
    need();
    point();
    untable();
    lift();
    price();
    sun();
  }

  private static void terms() {
    housesHaveNumbers();
    base();
    more();
    wake();
    half();
    joinedFrom();
    coldOfDays();
    needTogether();
    prices();
  }

  private static void lifts() {
    table();
    between();
    outside();
  }

  /** NEED of the first HOUR of one HOUSE on a DAY that is so cold. */
  private static long needOf(int base, int more, int cold) {
    RockHeat x = new RockHeat();
    x.house(base, more, World.ALWAYS);
    x.join(0, 0);
    x.cold(0, cold);
    return x.need(0);
  }

  private static void housesHaveNumbers() {
    Sentence.of("II", "HOUSES have numbers from 0 on (20 at most):");
    RockHeat x = new RockHeat();
    for (int i = 0; i < 20; i++) {
      Sentence.due("none yet of number " + i, x.join(i, 0), -1);
      Sentence.due("number " + i, x.house(1, 0, World.ALWAYS), i);
      Sentence.due("one of number " + i, x.join(i, 0), 1);
      Sentence.due("its need", x.need(0), i + 1);
    }
    Sentence.due("a twenty-first", x.house(1, 0, 0), -6);
    Sentence.due("none of number 20", x.join(20, 0), -1);
    Sentence.due("twenty", x.count(3), 20);
  }

  private static void base() {
    Sentence.of("II", "BASE (0 .. 9999) of HEAT an HOUR,");
    Sentence.due("0", needOf(0, 0, -40), 0);
    Sentence.due("1", needOf(1, 0, -40), 1);
    Sentence.due("9999", needOf(9999, 0, 40), 9999);
    NEW.refused(-4, "house", -1, 0, 0);
    NEW.refused(-6, "house", 10000, 0, 0);
  }

  private static void more() {
    Sentence.of("II", "MORE (0 .. 999) for each degree by which it is COLDER than 15,");
    Sentence.due("16", needOf(100, 7, 16), 100);
    Sentence.due("15", needOf(100, 7, 15), 100);
    Sentence.due("14", needOf(100, 7, 14), 107);
    Sentence.due("1", needOf(100, 7, 1), 198);
    Sentence.due("0", needOf(100, 7, 0), 205);
    Sentence.due("-1", needOf(100, 7, -1), 212);
    Sentence.due("-40", needOf(0, 999, -40), 999 * 55);
    Sentence.due("40", needOf(0, 999, 40), 0);
    NEW.refused(-4, "house", 0, -1, 0);
    NEW.refused(-6, "house", 0, 1000, 0);
  }

  private static void wake() {
    Sentence.of("II", "WAKE (a row of hours as bits 0 .. 23:");
    for (int bit = 0; bit < 24; bit++) {
      RockHeat x = new RockHeat();
      x.house(11, 0, 1 << bit);
      x.house(1000, 0, World.ALWAYS ^ 1 << bit);
      x.join(0, 0);
      x.join(1, 0);
      for (int hour = 0; hour < 48; hour++) {
        Sentence.due("bit " + bit + ", hour " + hour, x.need(hour), hour % 24 == bit ? 511 : 1005);
      }
    }
    NEW.taken(0, "house", 0, 0, 16777215);
    NEW.refused(-6, "house", 0, 0, 16777216);
    NEW.refused(-4, "house", 0, 0, -1);
  }

  private static void half() {
    Sentence.of("II", "in others it needs half, cut);");
    RockHeat x = new RockHeat();
    x.cold(0, 14);
    int[][] houses = {{0, 0}, {1, 0}, {2, 0}, {3, 0}, {1, 1}, {9999, 0}, {9999, 999}};
    int[] halves = {0, 0, 1, 1, 1, 4999, 5499};
    int due = 0;
    for (int i = 0; i < houses.length; i++) {
      x.house(houses[i][0], houses[i][1], 0);
      x.join(i, 0);
      due += halves[i];
      Sentence.due("each HOUSE by itself, " + i, x.need(i), due);
    }
  }

  private static void joinedFrom() {
    Sentence.of("II", "JOINED from a DAY on (told, now or later; not joined at first).");
    RockHeat x = new RockHeat();
    x.house(1, 0, World.ALWAYS);
    x.house(10, 0, World.ALWAYS);
    x.house(100, 0, World.ALWAYS);
    x.hours(24);
    Sentence.due("not joined at first", x.need(9999), 0);
    Sentence.due("now", x.join(0, 1), 1);
    Sentence.due("later", x.join(1, 2), 1);
    Sentence.due("on the last DAY", x.join(2, 333), 1);
    Sentence.due("the DAY ahead of now", x.need(23), 0);
    Sentence.due("now", x.need(24), 1);
    Sentence.due("the HOUR ahead of it", x.need(47), 1);
    Sentence.due("later", x.need(48), 11);
    Sentence.due("the HOUR ahead of the last DAY", x.need(333 * 24 - 1), 11);
    Sentence.due("the last DAY", x.need(333 * 24), 111);
    Sentence.due("for ever", x.need(9999), 111);
    Sentence.due("one is joined now", x.count(4), 1);
    x.hours(23);
    Sentence.due("one still", x.count(4), 1);
    x.hours(1);
    Sentence.due("two from DAY 2 on", x.count(4), 2);
  }

  private static void coldOfDays() {
    Sentence.of("II", "COLD: degrees (-40 .. 40) of each DAY modulo 12 (0 at first).");
    RockHeat x = new RockHeat();
    x.house(0, 1, World.ALWAYS);
    x.join(0, 0);
    Sentence.due("0 at first", x.need(0), 15);
    int[] degrees = {-40, 14, 13, 12, 11, 10, 9, 8, 7, 6, 5, -39};
    for (int i = 0; i < 12; i++) {
      Sentence.due("0 at first, " + i, x.cold(i, degrees[i]), 0);
    }
    int[] days = {0, 1, 10, 11, 12, 13, 23, 24, 333, 415, 416};
    for (int day : days) {
      Sentence.due("the first HOUR of DAY " + day, x.need(24 * day), 15 - degrees[day % 12]);
      Sentence.due("the hour 14 of DAY " + day, x.need(24 * day + 14), 15 - degrees[day % 12]);
    }
    Sentence.due("DAY 11's last HOUR", x.need(287), 54);
    Sentence.due("DAY 12's first HOUR", x.need(288), 55);
  }

  private static void needTogether() {
    Sentence.of("II", "NEED of an HOUR: of all HOUSES JOINED, together.");
    RockHeat x = new RockHeat();
    Sentence.due("no HOUSE", x.need(0), 0);
    x.cold(0, -40);
    for (int i = 0; i < 20; i++) {
      x.house(9999, 999, World.ALWAYS);
      Sentence.due("one that is not joined", x.need(0), 64944L * i);
      x.join(i, 0);
      Sentence.due("one more", x.need(0), 64944L * (i + 1));
    }
    x.hours(1);
    Sentence.due("all of it is bought", x.told(5), 64944L * 20);
  }

  private static void table() {
    Sentence.of("II", "A MACHINE (one): a TABLE of at most 8 points: WARMTH (degrees, rising, -20 .. 99) and how much it lifts (hundredths, 100 .. 999).");
    RockHeat x = new RockHeat();
    int[] warms = {-20, -19, 0, 1, 50, 51, 98, 99};
    int[] lifts = {999, 100, 100, 999, 500, 100, 999, 100};
    for (int i = 0; i < 8; i++) {
      Sentence.due("not rising, point " + i, i == 0 ? -4 : x.point(warms[i - 1], 100), -4);
      Sentence.due("point " + i, x.point(warms[i], lifts[i]), i + 1);
    }
    for (int i = 0; i < 8; i++) {
      Sentence.due("at point " + i, x.lift(1000 * warms[i]), lifts[i]);
    }
    FULL.refused(-6, "point", 99, 100);
    NEW.refused(-4, "point", -21, 100);
    NEW.refused(-6, "point", 100, 100);
    NEW.refused(-4, "point", 0, 99);
    NEW.refused(-6, "point", 0, 1000);
  }

  private static void between() {
    Sentence.of("II", "LIFT at a WARMTH (thousandths): between two points, the lower one's and what it is more for the difference, in thousandths of degrees, cut;");
    RockHeat x = new RockHeat();
    x.point(-20, 100);
    x.point(99, 999);
    // 899 more for 119000 thousandths.
    Sentence.due("at the lower one", x.lift(-20000), 100);
    Sentence.due("0.997 more", x.lift(-19868), 100);
    Sentence.due("1.005 more", x.lift(-19867), 101);
    Sentence.due("at 0", x.lift(0), 251);
    Sentence.due("898.99 more", x.lift(98999), 998);
    Sentence.due("at the upper one", x.lift(99000), 999);
    RockHeat y = new RockHeat();
    y.point(0, 300);
    y.point(3, 200);
    y.point(4, 200);
    y.point(5, 201);
    Sentence.due("0.97 less", y.lift(29), 300);
    Sentence.due("1 less", y.lift(30), 299);
    Sentence.due("99.97 less", y.lift(2999), 201);
    Sentence.due("at the second", y.lift(3000), 200);
    Sentence.due("nothing more", y.lift(3500), 200);
    Sentence.due("0.999 more", y.lift(4999), 200);
    Sentence.due("at the last", y.lift(5000), 201);
  }

  private static void outside() {
    Sentence.of("II", "ahead of the first, behind the last: that one's; without any 100.");
    Sentence.due("without any", new RockHeat().lift(-100000), 100);
    RockHeat x = new RockHeat();
    x.point(-1, 400);
    Sentence.due("ahead of the only one", x.lift(-1001), 400);
    Sentence.due("at it", x.lift(-1000), 400);
    Sentence.due("behind it", x.lift(-999), 400);
    x.point(2, 700);
    Sentence.due("far ahead of the first", x.lift(-100000), 400);
    Sentence.due("just ahead of the first", x.lift(-1001), 400);
    Sentence.due("at the first", x.lift(-1000), 400);
    Sentence.due("just behind the first", x.lift(-990), 401);
    Sentence.due("just ahead of the last", x.lift(1990), 699);
    Sentence.due("at the last", x.lift(2000), 700);
    Sentence.due("far behind the last", x.lift(200000), 700);
    x.untable();
    Sentence.due("without any again", x.lift(0), 100);
  }

  private static void prices() {
    Sentence.of("II", "PRICES of HOURS of the day (0 .. 999; 10 at first): for 100 of HEAT or of what the MACHINE takes.");
    RockHeat x = World.needing(100);
    x.hours(1);
    Sentence.due("10 for 100 bought", x.told(6), 10);
    x.price(1, 999);
    x.hours(1);
    Sentence.due("999 for 100 bought", x.told(6), 10 + 999);
    x.price(2, 0);
    x.hours(1);
    Sentence.due("0 for 100 bought", x.told(6), 10 + 999);
    RockHeat y = World.needing(200);
    y.bore(0, 1, 100, 0, 10);
    y.point(0, 200);
    Due.tell(y, "100", World.GIVE, 0);
    y.price(0, 999);
    y.hours(1);
    Sentence.due("nothing bought", y.told(5), 0);
    Sentence.due("999 for 100 of POWER", y.told(6), 999);
    y.price(23, 3);
    y.hours(24);
    Sentence.due("by hours of the day: 22 at 10, one at 3, one at 999", y.told(6), 999 + 220 + 3 + 999);
  }

  private static void house() {
    Sentence.of("Promise 10", "A HOUSE (WAKE 0 .. 16777215): its number.");
    NEW.taken(0, "house", 0, 0, 0);
    BUSY.taken(3, "house", 0, 0, 0);
    BUSY.taken(3, "house", 9999, 999, 16777215);
    Sentence.of("Promise 10", "-4;");
    BUSY.refused(-4, "house", -1, 0, 0);
    BUSY.refused(-4, "house", 0, -1, 0);
    BUSY.refused(-4, "house", 0, 0, -1);
    BUSY.refused(-4, "house", LEAST, LEAST, LEAST);
    BUSY.refused(-4, "house", -1, 1000, 16777216);
    BUSY.refused(-4, "house", 10000, -1, 16777216);
    BUSY.refused(-4, "house", 10000, 1000, -1);
    FULL.refused(-4, "house", 0, 0, -1);
    Sentence.of("Promise 10", "-6 (20, too).");
    BUSY.refused(-6, "house", 10000, 0, 0);
    BUSY.refused(-6, "house", 0, 1000, 0);
    BUSY.refused(-6, "house", 0, 0, 16777216);
    BUSY.refused(-6, "house", MOST, MOST, MOST);
    FULL.refused(-6, "house", 0, 0, 0);
  }

  private static void join() {
    Sentence.of("Promise 11", "It is JOINED from a DAY on: 1.");
    BUSY.taken(1, "join", 1, 1);
    BUSY.taken(1, "join", 1, 333);
    LAST.taken(1, "join", 1, 333);
    Sentence.of("Promise 11", "-1;");
    NEW.refused(-1, "join", 0, 0);
    BUSY.refused(-1, "join", 3, 1);
    BUSY.refused(-1, "join", -1, 1);
    BUSY.refused(-1, "join", MOST, 334);
    BUSY.refused(-1, "join", LEAST, -1);
    FULL.refused(-1, "join", 20, 0);
    Sentence.of("Promise 11", "-3 that was told;");
    BUSY.refused(-3, "join", 0, 1);
    BUSY.refused(-3, "join", 0, 0);
    BUSY.refused(-3, "join", 0, 334);
    BUSY.refused(-3, "join", 2, 5);
    BUSY.refused(-3, "join", 2, 1);
    FULL.refused(-3, "join", 19, 19);
    Sentence.of("Promise 11", "-4 ahead of now;");
    BUSY.refused(-4, "join", 1, 0);
    BUSY.refused(-4, "join", 1, -1);
    BUSY.refused(-4, "join", 1, LEAST);
    LAST.refused(-4, "join", 1, 332);
    Sentence.of("Promise 11", "-6 DAY above 333.");
    BUSY.refused(-6, "join", 1, 334);
    BUSY.refused(-6, "join", 1, MOST);
    LAST.refused(-6, "join", 1, 334);
  }

  private static void cold() {
    Sentence.of("Promise 12", "COLD of DAYS that are i (0 .. 11) modulo 12: what it was.");
    BUSY.taken(4, "cold", 0, -40);
    BUSY.taken(-3, "cold", 1, 40);
    BUSY.taken(0, "cold", 11, 0);
    RockHeat x = new RockHeat();
    Sentence.due("at first", x.cold(11, -40), 0);
    Sentence.due("the least was", x.cold(11, 40), -40);
    Sentence.due("the greatest was", x.cold(11, 1), 40);
    Sentence.of("Promise 12", "Refused as told: -4, -6 i; then -4, -6 degrees.");
    BUSY.refused(-4, "cold", -1, 0);
    BUSY.refused(-4, "cold", LEAST, 41);
    BUSY.refused(-6, "cold", 12, 0);
    BUSY.refused(-6, "cold", MOST, -41);
    BUSY.refused(-4, "cold", 0, -41);
    BUSY.refused(-4, "cold", 11, LEAST);
    BUSY.refused(-6, "cold", 0, 41);
    BUSY.refused(-6, "cold", 11, MOST);
  }

  private static void need() {
    Sentence.of("Promise 13", "NEED of an HOUR (0 .. 9999).");
    LAST.asked(0, "need", 0);
    LAST.asked(0, "need", 23);
    LAST.asked(100, "need", 24);
    LAST.asked(100, "need", 8001);
    LAST.asked(100, "need", 9999);
    Sentence.of("Promise 13", "-4;");
    BUSY.refused(-4, "need", -1);
    BUSY.refused(-4, "need", LEAST);
    Sentence.of("Promise 13", "-6.");
    BUSY.refused(-6, "need", 10000);
    BUSY.refused(-6, "need", MOST);
  }

  private static void point() {
    Sentence.of("Promise 14", "A point more of the TABLE: how many.");
    NEW.taken(1, "point", -20, 100);
    NEW.taken(1, "point", 99, 999);
    BUSY.taken(3, "point", 13, 100);
    BUSY.taken(3, "point", 99, 999);
    Sentence.of("Promise 14", "-4 (WARMTH not above the last one's, too);");
    BUSY.refused(-4, "point", -21, 200);
    BUSY.refused(-4, "point", 13, 99);
    BUSY.refused(-4, "point", 12, 200);
    BUSY.refused(-4, "point", 11, 200);
    BUSY.refused(-4, "point", 12, 1000);
    BUSY.refused(-4, "point", 100, 99);
    BUSY.refused(-4, "point", LEAST, LEAST);
    FULL.refused(-4, "point", 7, 100);
    FULL.refused(-4, "point", 8, 99);
    RockHeat x = new RockHeat();
    x.point(99, 100);
    Sentence.due("behind 99 there is none", x.point(99, 100), -4);
    Sentence.of("Promise 14", "-6 (8, too).");
    BUSY.refused(-6, "point", 100, 200);
    BUSY.refused(-6, "point", 13, 1000);
    BUSY.refused(-6, "point", MOST, MOST);
    FULL.refused(-6, "point", 8, 100);
    FULL.refused(-6, "point", 100, 100);
    Sentence.due("above 99, behind 99", x.point(100, 100), -6);
  }

  private static void untable() {
    Sentence.of("Promise 15", "The TABLE has no points any more: how many it had.");
    NEW.asked(0, "untable");
    BUSY.taken(2, "untable");
    FULL.taken(8, "untable");
    RockHeat x = World.full();
    x.untable();
    Sentence.due("none any more", x.count(5), 0);
    Sentence.due("LIFT", x.lift(3500), 100);
    Sentence.due("none to be above of", x.point(-20, 345), 1);
    Sentence.due("LIFT of the new one", x.lift(3500), 345);
  }

  private static void lift() {
    Sentence.of("Promise 16", "LIFT at a WARMTH (thousandths, -100000 .. 200000).");
    BUSY.asked(250, "lift", -100000);
    BUSY.asked(330, "lift", 200000);
    NEW.asked(100, "lift", -100000);
    NEW.asked(100, "lift", 200000);
    Sentence.of("Promise 16", "-4;");
    BUSY.refused(-4, "lift", -100001);
    BUSY.refused(-4, "lift", LEAST);
    Sentence.of("Promise 16", "-6.");
    BUSY.refused(-6, "lift", 200001);
    BUSY.refused(-6, "lift", MOST);
  }

  private static void price() {
    Sentence.of("Promise 17", "PRICE of an hour of the day: what it was.");
    BUSY.taken(10, "price", 0, 0);
    BUSY.taken(26, "price", 6, 999);
    BUSY.taken(10, "price", 23, 999);
    RockHeat x = new RockHeat();
    Sentence.due("at first", x.price(23, 999), 10);
    Sentence.due("the greatest was", x.price(23, 0), 999);
    Sentence.due("the least was", x.price(23, 1), 0);
    Sentence.of("Promise 17", "-4, -6 hour; then -4, -6 v.");
    hourAndValue("price", 1000);
  }

  private static void sun() {
    Sentence.of("Promise 18", "SUN of an hour of the day: what it was.");
    BUSY.taken(0, "sun", 0, 99999);
    BUSY.taken(3000, "sun", 6, 0);
    BUSY.taken(0, "sun", 23, 99999);
    RockHeat x = new RockHeat();
    Sentence.due("at first", x.sun(23, 99999), 0);
    Sentence.due("the greatest was", x.sun(23, 0), 99999);
    x.sun(0, 7);
    x.sun(23, 500);
    x.hours(23);
    Sentence.due("hour 0", x.told(1), 7);
    x.hours(1);
    Sentence.due("hour 23", x.told(1), 507);
    x.hours(1);
    Sentence.due("hour 0 again", x.told(1), 514);
    Sentence.of("Promise 18", "-4, -6 hour; then -4, -6 v.");
    hourAndValue("sun", 100000);
  }

  private static void hourAndValue(String name, int above) {
    BUSY.refused(-4, name, -1, 0);
    BUSY.refused(-4, name, LEAST, above);
    BUSY.refused(-6, name, 24, 0);
    BUSY.refused(-6, name, MOST, -1);
    BUSY.refused(-4, name, 0, -1);
    BUSY.refused(-4, name, 23, LEAST);
    BUSY.refused(-6, name, 0, above);
    BUSY.refused(-6, name, 23, MOST);
  }
}
