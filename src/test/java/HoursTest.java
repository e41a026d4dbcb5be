/** Promises 2, 22 and 23: sun, need, machine and cost of the hours that go by. */
public final class HoursTest {
  private static final int ALWAYS = 16777215;

  public static void main(String[] args) {
    sunByNumbers();
    giveByNumbers();
    giveIsHeld();
    liftedAndPower();
    liftAsTheHourBegan();
    frozenAsTheHourBegan();
    rulesAsTheHourBegan();
    rulesByDays();
    theLastOne();
    cost();
    groundByTheHoursBeginning();
    tellings();
    aDay();
    Due.end("HoursTest");
  }

  private static RockHeat needing(int need) {
    RockHeat x = new RockHeat();
    x.house(need, 0, ALWAYS);
    x.join(0, 0);
    return x;
  }

  private static void sunByNumbers() {
    RockHeat x = new RockHeat();
    x.sun(0, 1000);
    x.hours(1);
    Due.due("22: no bore: wasted", x.told(1), 1000);
    Due.due("22: no bore: none taken", x.told(0), 0);
    x.bore(0, 2, 100, 0, 0);
    x.bore(50, 1, 100, 0, 10);
    x.bore(99, 1, 100, 0, 10);
    x.sun(1, 1000);
    x.hours(1);
    Due.due("22: no rule: wasted", x.told(1), 2000);
    Due.tell(x, "300+b*400", 1, 0);
    x.sun(2, 1000);
    x.hours(1);
    Due.due("22: 300, frozen too", x.heat(0, 0), 300);
    Due.due("22: ring 0 has it", x.heat(0, 1), 0);
    Due.due("22: 700", x.heat(1, 0), 1000700);
    Due.due("22: none left", x.heat(2, 0), 1000000);
    Due.due("22: taken", x.told(0), 1000);
    Due.due("22: wasted", x.told(1), 2000);
    x.open(1, false);
    x.sun(3, 2000);
    x.hours(1);
    Due.due("22: 300 more", x.heat(0, 0), 600);
    Due.due("22: a shut one none", x.heat(1, 0), 1000700);
    Due.due("22: 1100", x.heat(2, 0), 1001100);
    Due.due("22: taken", x.told(0), 2400);
    Due.due("22: the rest", x.told(1), 2600);
    Due.due("22: all heat", x.told(9), 600 + 1000700 + 1001100);
    Due.due("22: at first", x.told(10), 2000000);
  }

  private static void giveByNumbers() {
    RockHeat x = needing(1000);
    x.bore(0, 1, 100, 0, 10);
    x.bore(50, 1, 100, 0, 10);
    x.bore(99, 1, 100, 0, 10);
    x.hours(1);
    Due.due("22: no rule: bought", x.told(5), 1000);
    Due.tell(x, "600-b*100", 0, 0);
    x.hours(1);
    Due.due("23: first", x.given(0), 600);
    Due.due("23: second", x.given(1), 400);
    Due.due("23: third", x.given(2), 0);
    Due.due("22: given", x.told(2), 1000);
    Due.due("22: lifted", x.told(3), 1000);
    Due.due("22: no power", x.told(4), 0);
    Due.due("22: none bought", x.told(5), 1000);
    Due.due("7: from ring 0", x.heat(0, 0), 999400);
    x.open(0, false);
    x.hours(1);
    Due.due("23: shut", x.given(0), 600);
    Due.due("23: second", x.given(1), 900);
    Due.due("23: third", x.given(2), 400);
    Due.due("22: 100 bought", x.told(5), 1100);
    Due.due("23: nobody", x.given(3), Due.LONG + 1);
    Due.due("23: nobody", x.given(-1), Due.LONG + 1);
    Due.due("32: count(11)", x.count(11), 2);
  }

  private static void giveIsHeld() {
    RockHeat x = needing(9999);
    x.bore(0, 2, 100, 0, 1);
    Due.tell(x, "99999", 0, 0);
    x.hours(10);
    Due.due("22: 10 hours of 9999", x.given(0), 99990);
    Due.due("8: 10 left", x.warmth(0, 0), 0);
    Due.due("9: frozen", x.frozen(0), 1);
    x.hours(1);
    Due.due("22: a frozen one gives nothing", x.given(0), 99990);
    Due.due("22: bought", x.told(5), 9999);
    RockHeat y = needing(6000);
    y.house(5000, 0, ALWAYS);
    y.join(1, 0);
    y.bore(0, 1, 100, 0, 1);
    Due.tell(y, "99999", 0, 0);
    y.hours(9);
    Due.due("7: left", y.heat(0, 0), 1000);
    y.hours(1);
    Due.due("22: no more than it holds", y.given(0), 100000);
    Due.due("7: nothing left", y.heat(0, 0), 0);
    Due.due("22: bought", y.told(5), 10000);
    RockHeat z = needing(9999);
    z.bore(0, 1, 100, 0, 1);
    Due.tell(z, "(h<10)*9999+(h>9)*99999", 0, 0);
    Due.tell(z, "99999", 1, 0);
    z.sun(10, 500);
    z.hours(10);
    Due.due("7: 10 left", z.heat(0, 0), 10);
    z.hours(1);
    Due.due("22: frozen, with new sun", z.heat(0, 0), 510);
    z.sun(11, 200);
    z.hours(1);
    Due.due("22: the new sun is given too", z.heat(0, 0), 0);
    Due.due("23: all", z.given(0), 100700);
  }

  private static void liftedAndPower() {
    RockHeat x = needing(550);
    x.point(0, 250);
    x.bore(0, 1, 9999, 0, 10);
    x.bore(50, 1, 9999, 0, 10);
    Due.tell(x, "99999", 0, 0);
    x.hours(1);
    // 220 * 2.5 is 550.
    Due.due("23: 220", x.given(0), 220);
    Due.due("22: lifted", x.told(3), 550);
    Due.due("22: power", x.told(4), 330);
    Due.due("22: none bought", x.told(5), 0);
    x.untable();
    x.point(0, 300);
    x.hours(1);
    // 183 * 3 is 549; the second may give none for the last.
    Due.due("23: 183", x.given(0), 403);
    Due.due("23: none", x.given(1), 0);
    Due.due("22: lifted", x.told(3), 1099);
    Due.due("22: power", x.told(4), 696);
    Due.due("22: bought", x.told(5), 1);
    x.untable();
    x.point(0, 150);
    Due.tell(x, "(b=0)*364+(b=1)*99", 0, 0);
    x.hours(1);
    // 364 * 1.5 is 546; of 4 left 3 * 1.5, cut, is 4.
    Due.due("23: no more than its worth", x.given(0), 767);
    Due.due("23: cut ahead of what is needed", x.given(1), 3);
    Due.due("22: lifted", x.told(3), 1649);
    Due.due("22: power", x.told(4), 696 + 182 + 1);
    Due.due("22: none bought", x.told(5), 1);
    x.untable();
    x.point(0, 999);
    Due.tell(x, "1", 0, 0);
    x.hours(1);
    Due.due("22: 9.99 is cut", x.told(3), 1649 + 18);
    Due.due("22: power", x.told(4), 879 + 16);
    Due.due("22: bought", x.told(5), 1 + 532);
  }

  private static void liftAsTheHourBegan() {
    RockHeat x = needing(1000);
    x.point(10, 200);
    x.point(11, 300);
    x.bore(0, 1, 100, 0, 10);
    x.bore(50, 1, 100, 0, 99);
    Due.tell(x, "(b=0)*99999", 1, 0);
    Due.tell(x, "100", 0, 0);
    x.sun(0, 50000);
    x.hours(1);
    // Sun makes it 10.5 degrees warm; as the hour began it was 10.
    Due.due("22: 2 of 10 degrees, 3 of 99", x.told(3), 200 + 300);
    x.hours(1);
    // 1050000 - 100: 10499 thousandths: 249.9.
    Due.due("22: 249 of 10.499 degrees", x.told(3), 500 + 249 + 300);
  }

  private static void frozenAsTheHourBegan() {
    RockHeat x = needing(100);
    x.bore(0, 1, 100, 0, 0);
    Due.tell(x, "99999", 1, 0);
    Due.tell(x, "99999", 0, 0);
    x.sun(0, 5000);
    x.hours(1);
    Due.due("22: frozen as the hour began", x.told(5), 100);
    Due.due("9: no more", x.frozen(0), 0);
    x.hours(1);
    Due.due("22: it gives", x.told(5), 100);
    Due.due("23: it gave", x.given(0), 100);
  }

  private static void rulesAsTheHourBegan() {
    RockHeat x = needing(9999);
    x.bore(0, 1, 100, 0, 10);
    x.sun(0, 99999);
    Due.tell(x, "90000+t", 1, 0);
    Due.tell(x, "t*10+r+(h=0)*(n=9999)*1000", 0, 0);
    x.hours(1);
    Due.due("22: taken by 10 degrees", x.told(0), 90010);
    Due.due("22: given by 10 degrees", x.told(2), 1110);
    x.hours(1);
    // 1000000 + 90010 - 1110 is 10.889 degrees; not as many as 11.
    Due.due("22: given by 10 degrees still", x.told(2), 1220);
    x.sun(2, 20000);
    x.hours(1);
    x.hours(1);
    Due.due("22: given by 11 degrees", x.told(2), 1220 + 110 + 121);
  }

  private static void rulesByDays() {
    RockHeat x = needing(500);
    x.bore(0, 1, 100, 0, 10);
    x.sun(0, 900);
    Due.tell(x, "100", 0, 1);
    Due.tell(x, "700", 1, 1);
    Due.tell(x, "200", 0, 2);
    Due.tell(x, "50", 1, 2);
    x.hours(24);
    Due.due("22: no rule in force: none given", x.told(2), 0);
    Due.due("22: none taken", x.told(0), 0);
    x.hours(24);
    Due.due("22: day 1's give", x.told(2), 2400);
    Due.due("22: day 1's take", x.told(0), 700);
    x.hours(24);
    Due.due("22: day 2's give", x.told(2), 2400 + 4800);
    Due.due("22: day 2's take", x.told(0), 750);
    Due.due("22: wasted", x.told(1), 900 + 200 + 850);
  }

  private static void theLastOne() {
    RockHeat x = needing(101);
    x.bore(0, 1, 100, 0, 10);
    x.bore(50, 1, 100, 0, 10);
    Due.tell(x, "100", 0, 0);
    Due.tell(x, "100", 1, 0);
    x.sun(0, 101);
    x.hours(1);
    Due.due("23: the last one of the need", x.given(1), 1);
    Due.due("22: none bought", x.told(5), 0);
    Due.due("7: the last one of the sun", x.heat(1, 0), 1000000);
    Due.due("22: none wasted", x.told(1), 0);
  }

  private static void cost() {
    RockHeat x = needing(199);
    x.hours(1);
    Due.due("22: 19.9 is cut", x.told(6), 19);
    x.hours(1);
    Due.due("22: hour by hour", x.told(6), 38);
    x.price(2, 999);
    x.price(3, 0);
    x.hours(2);
    Due.due("22: 1988.01", x.told(6), 38 + 1988);
    Due.due("22: bought", x.told(5), 4 * 199);
    x.point(0, 160);
    x.bore(0, 1, 100, 0, 10);
    Due.tell(x, "101", 0, 0);
    x.price(4, 100);
    x.hours(1);
    // 101 * 1.6, cut, is 161: power 60; bought 38: together 98.
    Due.due("22: power", x.told(4), 60);
    Due.due("22: bought", x.told(5), 4 * 199 + 38);
    Due.due("22: power and bought", x.told(6), 2026 + 98);
    x.price(5, 50);
    Due.tell(x, "1", 0, 0);
    x.hours(1);
    // Power 0, bought 198.
    Due.due("22: 99", x.told(6), 2124 + 99);
    x.price(6, 1);
    Due.tell(x, "101", 0, 0);
    x.hours(1);
    Due.due("22: 60 and 38 are not cut one by one", x.told(6), 2223);
    x.price(7, 2);
    x.hours(1);
    Due.due("22: 1.96", x.told(6), 2224);
  }

  /** What the sun brings and the machine takes in an hour moves no heat in the ground in that hour. */
  private static void groundByTheHoursBeginning() {
    RockHeat x = needing(2000);
    x.bore(0, 1, 100, 0, 10);
    x.soil(0, 100, 100);
    Due.tell(x, "(h=1)*2000", 0, 0);
    Due.tell(x, "99999", 1, 0);
    x.sun(0, 5000);
    x.sun(1, 700);
    x.hours(1);
    Due.due("2: nothing lost yet", x.told(7), 0);
    Due.due("2: nothing carried off yet", x.told(8), 0);
    x.hours(1);
    // 5000 above: 50 to the rim, 500 by water; 700 came and 2000 went.
    Due.due("2: lost", x.told(7), 50);
    Due.due("2: carried off", x.told(8), 500);
    Due.due("2: heat", x.heat(0, 0), 1005000 - 550 + 700 - 2000);
    x.hours(1);
    // 3150 above, 31 thousandths.
    Due.due("2: lost", x.told(7), 50 + 31);
    Due.due("2: carried off", x.told(8), 500 + 315);
    Due.due("2: heat", x.heat(0, 0), 1003150 - 31 - 315);
  }

  private static void tellings() {
    RockHeat x = new RockHeat();
    Due.due("22: none below 0", x.told(-1), Due.LONG + 2);
    Due.due("22: none above 10", x.told(11), Due.LONG + 2);
    Due.due("22: none above 10", x.told(Integer.MAX_VALUE), Due.LONG + 2);
    Due.due("32: count(12)", x.count(12), 3);
    x.bore(0, 3, 100, 10, 5);
    Due.due("22: at first", x.told(10), 5000 * 330);
    x.hours(5);
    x.bore(0, 1, 200, 10, 7);
    Due.due("22: at first, of both", x.told(10), 5000 * 330 + 7000 * 200);
    Due.due("22: now, of both", x.told(9), 5000 * 330 + 7000 * 200);
  }

  /** Two days of everything: the heat of all rings is what the tellings leave. */
  private static void aDay() {
    RockHeat x = needing(3000);
    x.house(100, 50, 255);
    x.join(1, 0);
    x.bore(505, 4, 150, 70, 12);
    x.bore(508, 3, 250, 30, 9);
    x.bore(1205, 2, 400, 10, 15);
    x.soil(0, 300, 7);
    x.soil(1, 500, 0);
    x.soil(2, 90, 30);
    x.share(400);
    x.point(5, 250);
    x.point(15, 420);
    Due.tell(x, "n/3+t*20", 0, 0);
    Due.tell(x, "(h>8)*(3000-r*100)", 1, 0);
    for (int hour = 7; hour < 19; hour++) {
      x.sun(hour, 4000);
    }
    for (int i = 0; i < 48; i++) {
      x.hours(1);
      long first = x.told(10) + x.told(0);
      Due.due("22: nothing comes of nothing", x.told(9), first - x.told(2) - x.told(7) - x.told(8));
      Due.due("22: given in all", x.told(2), x.given(0) + x.given(1) + x.given(2));
      Due.due("22: power", x.told(4), x.told(3) - x.told(2));
    }
    long needed = 0;
    for (int hour = 0; hour < 48; hour++) {
      needed += x.need(hour);
    }
    Due.due("22: lifted and bought", x.told(3) + x.told(5), needed);
    Due.due("22: taken and wasted", x.told(0) + x.told(1), 2 * 12 * 4000);
  }
}
