/** Promises 1 to 9: a new object, hours, bores and the ground around them. */
public final class GroundTest {
  public static void main(String[] args) {
    newObject();
    hours();
    bores();
    boreRefusals();
    soil();
    leadToRim();
    leadBetweenRings();
    water();
    share();
    open();
    frozen();
    Due.end("GroundTest");
  }

  private static void newObject() {
    RockHeat x = new RockHeat();
    for (int what = 0; what <= 8; what++) {
      Due.due("1: count(" + what + ")", x.count(what), 0);
    }
    for (int what = 11; what <= 16; what++) {
      Due.due("1: count(" + what + ")", x.count(what), 0);
    }
    for (int what = 0; what <= 10; what++) {
      Due.due("1: told(" + what + ")", x.told(what), 0);
    }
    Due.due("1: share", x.share(0), 0);
    Due.due("1: tank", x.tank(0, 100), 0);
    Due.due("1: lift", x.lift(0), 100);
    Due.due("1: need", x.need(0), 0);
    for (int hour = 0; hour < 24; hour++) {
      Due.due("1: price", x.price(hour, 0), 10);
      Due.due("1: sun", x.sun(hour, 0), 0);
    }
    for (int i = 0; i < 12; i++) {
      Due.due("1: cold", x.cold(i, 0), 0);
    }
    RockHeat y = new RockHeat();
    y.share(5);
    Due.due("1: another object is not told", new RockHeat().share(0), 0);
  }

  private static void hours() {
    RockHeat x = new RockHeat();
    Due.due("2: hours(0)", x.hours(0), -4);
    Due.due("2: hours(least)", x.hours(Integer.MIN_VALUE), -4);
    Due.due("2: hours(8001)", x.hours(8001), -6);
    Due.due("2: hours(most)", x.hours(Integer.MAX_VALUE), -6);
    Due.due("2: still 0", x.count(0), 0);
    Due.due("2: hours(1)", x.hours(1), 1);
    Due.due("2: hours(7998)", x.hours(7998), 7999);
    Due.due("2: hours(2)", x.hours(2), -6);
    Due.due("2: hours(1)", x.hours(1), 8000);
    Due.due("2: hours(1) at the end", x.hours(1), -6);
    Due.due("2: count(0)", x.count(0), 8000);
    Due.due("2: count(14)", x.count(14), 2);
    Due.due("2: count(16)", x.count(16), 4);
  }

  private static void bores() {
    RockHeat x = new RockHeat();
    Due.due("3: bore", x.bore(0, 8, 9999, 999, 99), 0);
    Due.due("3: bore", x.bore(9999, 1, 100, 0, 0), 1);
    Due.due("7: heat of ring 0", x.heat(0, 0), 1000L * 99 * 9999);
    Due.due("7: heat of ring 7", x.heat(0, 7), 1000L * 99 * (9999 + 7 * 999));
    Due.due("8: warmth of ring 7", x.warmth(0, 7), 99000);
    Due.due("7: heat at 0 degrees", x.heat(1, 0), 0);
    Due.due("8: warmth at 0 degrees", x.warmth(1, 0), 0);
    Due.due("7: no ring 8", x.heat(0, 8), Due.LONG + 1);
    Due.due("7: no ring -1", x.heat(0, -1), Due.LONG + 1);
    Due.due("7: no ring 1", x.heat(1, 1), Due.LONG + 1);
    Due.due("7: no bore 2", x.heat(2, 0), Due.LONG + 1);
    Due.due("7: no bore -1", x.heat(-1, 0), Due.LONG + 1);
    Due.due("8: no ring 8", x.warmth(0, 8), Due.LONG + 1);
    Due.due("8: no ring -1", x.warmth(0, -1), Due.LONG + 1);
    Due.due("8: no bore 2", x.warmth(2, 0), Due.LONG + 1);
    Due.due("8: no bore -1", x.warmth(-1, 0), Due.LONG + 1);
    Due.due("32: count(11)", x.count(11), 9);
    long first = 0;
    for (int k = 0; k < 8; k++) {
      first += 1000L * 99 * (9999 + k * 999);
    }
    Due.due("22: told(9)", x.told(9), first);
    Due.due("22: told(10)", x.told(10), first);
  }

  private static void boreRefusals() {
    RockHeat x = new RockHeat();
    Due.due("3: place", x.bore(-1, 1, 100, 0, 0), -4);
    Due.due("3: rings", x.bore(0, 0, 100, 0, 0), -4);
    Due.due("3: hold", x.bore(0, 1, 99, 0, 0), -4);
    Due.due("3: step", x.bore(0, 1, 100, -1, 0), -4);
    Due.due("3: warmth", x.bore(0, 1, 100, 0, -1), -4);
    Due.due("3: place", x.bore(10000, 1, 100, 0, 0), -6);
    Due.due("3: rings", x.bore(0, 9, 100, 0, 0), -6);
    Due.due("3: hold", x.bore(0, 1, 10000, 0, 0), -6);
    Due.due("3: step", x.bore(0, 1, 100, 1000, 0), -6);
    Due.due("3: warmth", x.bore(0, 1, 100, 0, 100), -6);
    Due.due("3: below ahead of room", x.bore(10000, 1, 100, 0, -1), -4);
    Due.due("3: nothing is made", x.count(1), 0);
    for (int i = 0; i < 8; i++) {
      Due.due("3: number", x.bore(i, 1, 100, 0, 0), i);
    }
    Due.due("3: a ninth", x.bore(9, 1, 100, 0, 0), -6);
    Due.due("3: a ninth, and below", x.bore(9, 0, 100, 0, 0), -4);
    Due.due("3: eight", x.count(1), 8);
    Due.due("3: refusals", x.count(14), 7);
    Due.due("3: refusals", x.count(16), 6);
  }

  private static void soil() {
    RockHeat x = new RockHeat();
    x.bore(0, 1, 100, 0, 10);
    Due.due("4: at first", x.soil(0, 999, 100), 0);
    Due.due("4: was", x.soil(0, 7, 0), 999);
    Due.due("4: nobody", x.soil(1, -1, 101), -1);
    Due.due("4: nobody", x.soil(-1, 0, 0), -1);
    Due.due("4: lead", x.soil(0, -1, 0), -4);
    Due.due("4: water", x.soil(0, 0, -1), -4);
    Due.due("4: below ahead of room", x.soil(0, 1000, -1), -4);
    Due.due("4: lead", x.soil(0, 1000, 0), -6);
    Due.due("4: water", x.soil(0, 0, 101), -6);
    Due.due("4: nothing changed", x.soil(0, 0, 0), 7);
  }

  /** One ring of 100 at 10 degrees, 5000 of sun in the first hour; LEAD 100 carries a heat for each thousandth. */
  private static void leadToRim() {
    RockHeat x = warmed(1, 100, 0, 5000);
    x.soil(0, 100, 0);
    x.hours(1);
    Due.due("2: the sun's hour loses by its beginning", x.heat(0, 0), 1005000);
    x.hours(1);
    Due.due("2: to the rim", x.heat(0, 0), 1004950);
    Due.due("22: lost", x.told(7), 50);
    Due.due("8: cut", x.warmth(0, 0), 10049);
    x.hours(1);
    Due.due("2: to the rim again", x.heat(0, 0), 1004901);
    Due.due("22: lost", x.told(7), 99);
    RockHeat y = new RockHeat();
    y.bore(0, 1, 100, 0, 10);
    y.house(5000, 0, 16777215);
    y.join(0, 0);
    Due.tell(y, "(h=0)*5000", 0, 0);
    y.soil(0, 30, 0);
    y.hours(2);
    Due.due("2: from the rim", y.heat(0, 0), 995015);
    Due.due("22: lost below 0", y.told(7), -15);
    y.soil(0, 1, 0);
    y.hours(1);
    Due.due("2: cut toward 0", y.heat(0, 0), 995015);
  }

  /** HOLD 100, 200, 300 at 10 degrees: by the warmths as the hour began, ring by ring. */
  private static void leadBetweenRings() {
    RockHeat x = warmed(3, 100, 100, 20000);
    x.soil(0, 200, 0);
    x.hours(2);
    Due.due("2: ring 0", x.heat(0, 0), 1020000 - 400);
    Due.due("2: ring 1", x.heat(0, 1), 2000000 + 400);
    Due.due("2: ring 2 later", x.heat(0, 2), 3000000);
    x.hours(1);
    // 10196 and 10002: 2 * 194 from 0 to 1; 2 * 2 from 1 to 2.
    Due.due("2: ring 0", x.heat(0, 0), 1019600 - 388);
    Due.due("2: ring 1", x.heat(0, 1), 2000400 + 388 - 4);
    Due.due("2: ring 2", x.heat(0, 2), 3000000 + 4);
    Due.due("22: none lost", x.told(7), 0);
    Due.due("22: all is there", x.told(9), 6020000);
  }

  private static void water() {
    RockHeat x = warmed(2, 100, 0, 5000);
    x.soil(0, 0, 10);
    x.hours(1);
    Due.due("2: water by the heat as the hour began", x.told(8), 0);
    x.hours(1);
    Due.due("2: carried off", x.told(8), 50);
    Due.due("2: of ring 0", x.heat(0, 0), 1004950);
    Due.due("2: not of ring 1", x.heat(0, 1), 1000000);
    x.hours(1);
    Due.due("2: 49.5 is cut", x.told(8), 99);
    RockHeat y = new RockHeat();
    y.bore(0, 1, 100, 0, 10);
    y.house(5050, 0, 16777215);
    y.join(0, 0);
    Due.tell(y, "(h=0)*5050", 0, 0);
    y.soil(0, 0, 10);
    y.hours(2);
    Due.due("2: below what it held", y.told(8), -50);
    Due.due("2: it comes", y.heat(0, 0), 995000);
    y.soil(0, 0, 100);
    y.hours(1);
    Due.due("2: a tenth", y.told(8), -550);
  }

  private static void share() {
    RockHeat x = new RockHeat();
    Due.due("5: at first", x.share(999), 0);
    Due.due("5: was", x.share(200), 999);
    Due.due("5: below", x.share(-1), -4);
    Due.due("5: room", x.share(1000), -6);
    Due.due("5: nothing changed", x.share(200), 200);
    x.bore(1010, 1, 100, 0, 10);
    x.bore(1910, 1, 100, 0, 20);
    x.bore(2010, 1, 100, 0, 50);
    x.hours(1);
    // FAR 9 and 10 of the first: 200 * -10000 / 1000; FAR 1: 200 * -30000 / 200.
    Due.due("5: far 9", x.heat(0, 0), 1000000 + 2000);
    Due.due("5: between", x.heat(1, 0), 2000000 - 2000 + 30000);
    Due.due("5: far 10 none", x.heat(2, 0), 5000000 - 30000);
    Due.due("5: none lost", x.told(7), 0);
    RockHeat y = new RockHeat();
    y.share(150);
    y.bore(1414, 2, 100, 50, 10);
    y.bore(1414, 1, 200, 0, 11);
    y.bore(1017, 1, 100, 0, 10);
    y.bore(1427, 1, 100, 0, 90);
    y.hours(1);
    // One place: 150 * -1000 / 100; the greater of 4 and 3: 150 * 1000 / 500.
    Due.due("5: ring 0 shares nothing", y.heat(0, 0), 1000000);
    Due.due("5: the last ring does", y.heat(0, 1), 1500000 + 1500);
    Due.due("5: to both", y.heat(1, 0), 2200000 - 1500 - 300);
    Due.due("5: the greater difference", y.heat(2, 0), 1000000 + 300);
    Due.due("5: far 10 by y", y.heat(3, 0), 9000000);
    y.share(0);
    y.hours(1);
    Due.due("5: no share any more", y.heat(2, 0), 1000300);
  }

  private static void open() {
    RockHeat x = new RockHeat();
    x.bore(0, 1, 100, 0, 10);
    x.bore(0, 1, 100, 0, 10);
    Due.due("6: open at first", x.open(0, true), 0);
    Due.due("6: shut", x.open(0, false), 1);
    Due.due("6: shut again", x.open(0, false), 0);
    Due.due("32: open ones", x.count(2), 1);
    Due.due("6: open", x.open(0, true), 1);
    Due.due("6: nobody", x.open(2, true), -1);
    Due.due("6: nobody", x.open(-1, false), -1);
    Due.tell(x, "100", 1, 0);
    x.sun(0, 1000);
    x.open(0, false);
    x.hours(1);
    Due.due("6: a shut one takes nothing", x.heat(0, 0), 1000000);
    Due.due("6: an open one does", x.heat(1, 0), 1000100);
    x.share(100);
    x.soil(1, 100, 0);
    x.hours(1);
    Due.due("6: the ground goes on around a shut one", x.heat(0, 0), 1000001);
  }

  private static void frozen() {
    RockHeat x = new RockHeat();
    x.bore(0, 1, 100, 0, 0);
    x.bore(50, 1, 100, 0, 1);
    Due.due("9: at 0", x.frozen(0), 1);
    Due.due("9: at 1000", x.frozen(1), 0);
    Due.due("9: nobody", x.frozen(2), -1);
    Due.due("9: nobody", x.frozen(-1), -1);
    Due.tell(x, "(b=0)*99", 1, 0);
    x.sun(0, 99);
    x.hours(1);
    Due.due("9: 99 of 100", x.frozen(0), 1);
    x.sun(1, 1);
    x.hours(1);
    Due.due("9: 1 thousandth", x.frozen(0), 0);
    Due.due("8: 1 thousandth", x.warmth(0, 0), 1);
    Due.due("9: asks nothing of it", x.heat(0, 0), 100);
  }

  /** A bore at 10 degrees that takes so much sun in hour 0. */
  private static RockHeat warmed(int rings, int hold, int step, int sun) {
    RockHeat x = new RockHeat();
    x.bore(0, rings, hold, step, 10);
    Due.tell(x, "99999", 1, 0);
    x.sun(0, sun);
    return x;
  }
}
