import java.util.ArrayList;
import java.util.List;

/** Objects to begin a test with, and all answers that tell what stands in one. */
final class World {
  static final int ALWAYS = 16777215;
  static final int GIVE = 0;
  static final int TAKE = 1;

  private World() {
  }

  /** Without BORES, with one HOUSE that needs so much in each HOUR. */
  static RockHeat needing(int need) {
    RockHeat x = new RockHeat();
    x.house(need, 0, ALWAYS);
    x.join(0, 0);
    return x;
  }

  /** With three BORES of 10 degrees and HOLD 100, one HOUSE, and one rule for GIVE. */
  static RockHeat giving(int need, String give) {
    RockHeat x = needing(need);
    x.bore(0, 2, 100, 0, 10);
    x.bore(50, 2, 100, 0, 10);
    x.bore(99, 2, 100, 0, 10);
    Due.tell(x, give, GIVE, 0);
    return x;
  }

  /** With eight BORES that give 1, 2, 4 .. 128 in an HOUR, of which 255 are needed: what is BOUGHT is the set that is SHUT. */
  static RockHeat bits() {
    RockHeat x = needing(255);
    for (int i = 0; i < 8; i++) {
      x.bore(0, 1, 100, 0, Math.min(99, 1 << i));
    }
    Due.tell(x, "f+(b=7)*29", GIVE, 0);
    return x;
  }

  /** In HOUR 1, with one BORE whose ring 0 has got so much sun in HOUR 0. */
  static RockHeat warmed(int rings, int hold, int degrees, int sun) {
    RockHeat x = new RockHeat();
    x.bore(0, rings, hold, 0, degrees);
    Due.tell(x, "99999", TAKE, 0);
    x.sun(0, sun);
    x.hours(1);
    return x;
  }

  /** In HOUR 1, with one BORE whose ring 0 has given so much in HOUR 0. */
  static RockHeat cooled(int rings, int hold, int degrees, int given) {
    RockHeat x = needing(given);
    x.bore(0, rings, hold, 0, degrees);
    Due.tell(x, "(d*24+h=0)*99999", GIVE, 0);
    x.hours(1);
    return x;
  }

  /** In HOUR 2, with one BORE of 0 degrees and HOLD 100 whose ring 0 holds -4995: 4995 went as it gave all of 50000. */
  static RockHeat belowZero() {
    RockHeat x = new RockHeat();
    x.bore(0, 1, 100, 0, 0);
    x.soil(0, 999, 0);
    x.house(9999, 999, ALWAYS);
    x.join(0, 0);
    x.cold(0, -40);
    Due.tell(x, "99999", TAKE, 0);
    Due.tell(x, "99999", GIVE, 0);
    x.sun(0, 50000);
    x.hours(2);
    return x;
  }

  /** In HOUR 30, with some of all that can be told. */
  static RockHeat busy() {
    RockHeat x = new RockHeat();
    x.bore(505, 2, 150, 50, 12);
    x.bore(508, 1, 200, 0, 9);
    x.bore(1205, 3, 120, 10, 15);
    x.soil(0, 300, 7);
    x.soil(1, 90, 30);
    x.soil(2, 500, 0);
    x.share(200);
    x.house(300, 20, 255);
    x.house(500, 5, ALWAYS);
    x.house(40, 0, ALWAYS);
    x.join(0, 0);
    x.join(2, 5);
    x.cold(0, 4);
    x.cold(1, -3);
    x.cold(5, 20);
    x.point(5, 250);
    x.point(12, 330);
    for (int hour = 6; hour < 12; hour++) {
      x.price(hour, 20 + hour);
      x.sun(hour, 3000);
    }
    Due.tell(x, "n/2+t", GIVE, 0);
    Due.tell(x, "900-r*10", TAKE, 0);
    x.tank(3, 40);
    x.hours(20);
    x.reading(0, 12000);
    x.hours(10);
    x.reading(1, 9100);
    x.reading(0, 11900);
    x.open(2, false);
    Due.type(x, "h*9");
    return x;
  }

  /** As many of all as there is room for, in HOUR 0. */
  static RockHeat full() {
    RockHeat x = new RockHeat();
    for (int i = 0; i < 8; i++) {
      x.bore(1000 + i, 2, 100 + i, 10, 20 + i);
      x.point(i, 200 + i);
    }
    for (int i = 0; i < 20; i++) {
      x.house(100 + i, 1, ALWAYS);
      x.join(i, i);
      x.reading(i % 8, 20000 + i);
    }
    for (int i = 0; i < 30; i++) {
      Due.tell(x, "" + (100 + i), i % 2, i / 2);
    }
    Due.type(x, "1+1+1+1+1+1+1+1+1+1+1+1+1+1+1+1+1+1+1+1+1+1+1+1+1+1+1+1+1+11");
    return x;
  }

  /** In HOUR 8000, the last one. */
  static RockHeat last() {
    RockHeat x = new RockHeat();
    x.bore(0, 1, 100, 0, 10);
    x.house(100, 0, ALWAYS);
    x.house(7, 0, ALWAYS);
    x.join(0, 1);
    Due.tell(x, "30", GIVE, 300);
    x.hours(8000);
    return x;
  }

  static long[] counts(RockHeat x) {
    long[] counts = new long[18];
    for (int what = 0; what < counts.length; what++) {
      counts[what] = x.count(what);
    }
    return counts;
  }

  /** What is told and reckoned, at last by telling all of it anew and by HOURS that go by: the object is used up. */
  static List<Long> answers(RockHeat x) {
    List<Long> all = new ArrayList<>();
    for (int what = 0; what <= 10; what++) {
      all.add(x.told(what));
    }
    for (int b = 0; b < 8; b++) {
      all.add(x.heat(b, 0));
      all.add(x.heat(b, 1));
      all.add((long) x.frozen(b));
      all.add(x.given(b));
      all.add((long) x.may(b, GIVE));
      all.add((long) x.may(b, TAKE));
      all.add(x.leak(b));
    }
    for (int i = 0; i <= 24; i++) {
      all.add(x.best(i));
      all.add(x.wrong(i));
      all.add(x.need(i));
      all.add(x.need(24 * i + 5));
    }
    for (int degrees = -20; degrees <= 20; degrees += 4) {
      all.add((long) x.lift(1000 * degrees + 500));
    }
    all.add(x.ahead(30, 0, 0));
    all.add(x.ahead(30, 1, 2));
    all.add((long) x.few(10, 3000));
    all.add((long) x.hours(25));
    for (int what = 0; what <= 10; what++) {
      all.add(x.told(what));
    }
    toldAnew(x, all);
    return all;
  }

  private static void toldAnew(RockHeat x, List<Long> all) {
    for (int b = 0; b < 8; b++) {
      all.add((long) x.soil(b, 0, 0));
      all.add((long) x.open(b, true));
    }
    for (int hour = 0; hour < 24; hour++) {
      all.add((long) x.price(hour, 0));
      all.add((long) x.sun(hour, 0));
    }
    for (int i = 0; i < 12; i++) {
      all.add((long) x.cold(i, 0));
    }
    for (int i = 0; i < 20; i++) {
      all.add((long) x.join(i, 333));
    }
    all.add((long) x.share(0));
    all.add((long) x.tank(0, 1));
    all.add((long) x.untable());
    all.add((long) x.rule(TAKE, 333));
  }
}
