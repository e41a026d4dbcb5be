/** Promises 10 to 18: houses, cold, need, the machine's table, prices and sun. */
public final class HousesTest {
  private static final int ALWAYS = 16777215;

  public static void main(String[] args) {
    house();
    join();
    joinLater();
    cold();
    need();
    needByDays();
    point();
    lift();
    untable();
    price();
    sun();
    Due.end("HousesTest");
  }

  private static void house() {
    RockHeat x = new RockHeat();
    Due.due("10: base", x.house(-1, 0, 0), -4);
    Due.due("10: more", x.house(0, -1, 0), -4);
    Due.due("10: wake", x.house(0, 0, -1), -4);
    Due.due("10: below ahead of room", x.house(10000, 0, -1), -4);
    Due.due("10: base", x.house(10000, 0, 0), -6);
    Due.due("10: more", x.house(0, 1000, 0), -6);
    Due.due("10: wake", x.house(0, 0, ALWAYS + 1), -6);
    for (int i = 0; i < 20; i++) {
      Due.due("10: number", x.house(9999, 999, ALWAYS), i);
      Due.due("11: joined", x.join(i, 0), 1);
    }
    Due.due("10: a twenty-first", x.house(0, 0, 0), -6);
    Due.due("10: a twenty-first, below", x.house(0, -1, 0), -4);
    Due.due("32: houses", x.count(3), 20);
    for (int i = 0; i < 12; i++) {
      x.cold(i, -40);
    }
    Due.due("13: the most", x.need(9999), 20L * (9999 + 999 * 55));
    Due.due("32: count(14)", x.count(14), 5);
    Due.due("32: count(16)", x.count(16), 4);
  }

  private static void join() {
    RockHeat x = new RockHeat();
    Due.due("11: nobody", x.join(0, -1), -1);
    x.house(100, 0, ALWAYS);
    x.house(200, 0, ALWAYS);
    x.house(400, 0, ALWAYS);
    x.house(800, 0, ALWAYS);
    Due.due("11: nobody", x.join(4, 0), -1);
    Due.due("11: nobody", x.join(-1, 0), -1);
    Due.due("13: none joined", x.need(9999), 0);
    x.hours(24);
    Due.due("11: ahead of now", x.join(0, 0), -4);
    Due.due("11: room", x.join(0, 334), -6);
    Due.due("11: today", x.join(0, 1), 1);
    Due.due("11: told", x.join(0, 1), -3);
    Due.due("11: told, ahead of now", x.join(0, 0), -3);
    Due.due("11: told, room", x.join(0, 334), -3);
    Due.due("11: the last day", x.join(1, 333), 1);
    Due.due("11: told, later", x.join(1, 333), -3);
    Due.due("13: behind", x.need(23), 0);
    Due.due("13: joined", x.need(24), 100);
    Due.due("13: both", x.need(333 * 24), 300);
    Due.due("13: not yet", x.need(333 * 24 - 1), 100);
    Due.due("32: count(4)", x.count(4), 1);
    Due.due("32: count(13)", x.count(13), 4);
  }

  private static void joinLater() {
    RockHeat x = new RockHeat();
    x.house(100, 0, ALWAYS);
    x.join(0, 1);
    x.hours(23);
    Due.due("32: not joined", x.count(4), 0);
    x.hours(1);
    Due.due("32: joined", x.count(4), 1);
    Due.due("22: nothing bought yet", x.told(5), 0);
    x.hours(1);
    Due.due("22: bought", x.told(5), 100);
    x.hours(7975);
    x.house(1, 0, 0);
    Due.due("11: day 333 is now", x.join(1, 332), -4);
    Due.due("11: day 333", x.join(1, 333), 1);
  }

  private static void cold() {
    RockHeat x = new RockHeat();
    Due.due("12: i below", x.cold(-1, 99), Due.COLD + 4);
    Due.due("12: i room ahead of degrees", x.cold(12, -99), Due.COLD + 6);
    Due.due("12: degrees below", x.cold(11, -41), Due.COLD + 4);
    Due.due("12: degrees room", x.cold(11, 41), Due.COLD + 6);
    Due.due("12: at first", x.cold(11, -40), 0);
    Due.due("12: was", x.cold(11, 40), -40);
    Due.due("12: was", x.cold(11, 0), 40);
    Due.due("32: count(14)", x.count(14), 2);
    Due.due("32: count(16)", x.count(16), 2);
  }

  private static void need() {
    RockHeat x = new RockHeat();
    x.house(1001, 3, 1 | 1 << 23);
    x.join(0, 0);
    Due.due("13: awake", x.need(0), 1046);
    Due.due("13: asleep", x.need(1), 523);
    Due.due("13: asleep", x.need(22), 523);
    Due.due("13: awake", x.need(23), 1046);
    Due.due("13: awake the next day", x.need(24), 1046);
    x.cold(0, 14);
    Due.due("13: a degree", x.need(0), 1004);
    x.cold(0, 15);
    Due.due("13: none at 15", x.need(0), 1001);
    Due.due("13: half is cut", x.need(1), 500);
    x.cold(0, 40);
    Due.due("13: nothing less", x.need(0), 1001);
    x.cold(0, -5);
    Due.due("13: below 0", x.need(0), 1061);
    x.house(1, 0, 0);
    x.join(1, 0);
    x.house(3, 0, 0);
    x.join(2, 0);
    Due.due("13: each half is cut", x.need(1), 530 + 0 + 1);
    Due.due("13: below", x.need(-1), Due.LONG + 4);
    Due.due("13: room", x.need(10000), Due.LONG + 6);
  }

  private static void needByDays() {
    RockHeat x = new RockHeat();
    x.house(0, 1, ALWAYS);
    x.join(0, 0);
    for (int i = 0; i < 12; i++) {
      x.cold(i, i);
    }
    Due.due("13: day 11", x.need(11 * 24 + 23), 4);
    Due.due("13: day 12", x.need(12 * 24), 15);
    Due.due("13: day 13", x.need(13 * 24 + 5), 14);
    Due.due("13: day 416", x.need(9999), 15 - 416 % 12);
  }

  private static void point() {
    RockHeat x = new RockHeat();
    Due.due("14: warmth", x.point(-21, 100), -4);
    Due.due("14: lift", x.point(-20, 99), -4);
    Due.due("14: warmth", x.point(100, 100), -6);
    Due.due("14: lift", x.point(-20, 1000), -6);
    Due.due("14: below ahead of room", x.point(100, 99), -4);
    Due.due("14: first", x.point(-20, 100), 1);
    Due.due("14: the same", x.point(-20, 999), -4);
    Due.due("14: the same ahead of room", x.point(-20, 1000), -4);
    Due.due("14: second", x.point(-19, 999), 2);
    for (int i = 3; i <= 7; i++) {
      Due.due("14: more", x.point(i, 100), i);
    }
    Due.due("14: eighth", x.point(99, 100), 8);
    Due.due("14: not above, with no room", x.point(99, 100), -4);
    Due.due("14: above 99", x.point(100, 100), -6);
    Due.due("32: points", x.count(5), 8);
    RockHeat y = new RockHeat();
    for (int i = 1; i <= 8; i++) {
      y.point(i, 100);
    }
    Due.due("14: a ninth", y.point(9, 100), -6);
    Due.due("32: points", y.count(5), 8);
  }

  private static void lift() {
    RockHeat x = new RockHeat();
    Due.due("16: no table", x.lift(200000), 100);
    Due.due("16: below", x.lift(-100001), -4);
    Due.due("16: room", x.lift(200001), -6);
    x.point(-10, 200);
    Due.due("16: one point, ahead", x.lift(-100000), 200);
    Due.due("16: one point, behind", x.lift(200000), 200);
    x.point(10, 300);
    x.point(13, 200);
    Due.due("16: ahead", x.lift(-10001), 200);
    Due.due("16: at the first", x.lift(-10000), 200);
    Due.due("16: 1.995 more is cut", x.lift(-9601), 201);
    Due.due("16: 2 more", x.lift(-9600), 202);
    Due.due("16: half way", x.lift(0), 250);
    Due.due("16: at the second", x.lift(10000), 300);
    Due.due("16: 0.03 less is cut", x.lift(10001), 300);
    Due.due("16: 33.3 less is cut", x.lift(11000), 267);
    Due.due("16: at the last", x.lift(13000), 200);
    Due.due("16: behind", x.lift(13001), 200);
  }

  private static void untable() {
    RockHeat x = new RockHeat();
    Due.due("15: none", x.untable(), 0);
    x.point(99, 300);
    x.point(98, 300);
    Due.due("15: one", x.untable(), 1);
    Due.due("15: no lift", x.lift(0), 100);
    Due.due("32: points", x.count(5), 0);
    Due.due("14: lower than the old ones", x.point(-20, 400), 1);
    Due.due("16: the new one's", x.lift(0), 400);
    Due.due("15: one", x.untable(), 1);
    Due.due("15: none", x.untable(), 0);
  }

  private static void price() {
    RockHeat x = new RockHeat();
    Due.due("17: hour below", x.price(-1, 1000), -4);
    Due.due("17: hour room ahead of v", x.price(24, -1), -6);
    Due.due("17: v below", x.price(23, -1), -4);
    Due.due("17: v room", x.price(23, 1000), -6);
    Due.due("17: at first", x.price(23, 999), 10);
    Due.due("17: was", x.price(23, 0), 999);
    Due.due("17: another's", x.price(22, 0), 10);
  }

  private static void sun() {
    RockHeat x = new RockHeat();
    Due.due("18: hour below", x.sun(-1, 100000), -4);
    Due.due("18: hour room ahead of v", x.sun(24, -1), -6);
    Due.due("18: v below", x.sun(23, -1), -4);
    Due.due("18: v room", x.sun(23, 100000), -6);
    Due.due("18: at first", x.sun(23, 99999), 0);
    Due.due("18: was", x.sun(23, 5), 99999);
    Due.due("18: another's", x.sun(22, 0), 0);
    x.hours(48);
    Due.due("18: each day", x.told(1), 10);
  }
}
