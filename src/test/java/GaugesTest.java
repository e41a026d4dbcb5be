/** Promises 29 to 32: readings, what is wrong of them, leaks and counts. */
public final class GaugesTest {
  public static void main(String[] args) {
    reading();
    wrong();
    leak();
    leakIsCut();
    counts();
    Due.end("GaugesTest");
  }

  private static void reading() {
    RockHeat x = new RockHeat();
    Due.due("29: nobody", x.reading(0, -100001), -1);
    x.bore(0, 1, 100, 0, 10);
    x.bore(0, 1, 100, 0, 20);
    Due.due("29: nobody", x.reading(2, 0), -1);
    Due.due("29: nobody", x.reading(-1, 0), -1);
    Due.due("29: below", x.reading(0, -100001), -4);
    Due.due("29: room", x.reading(0, 200001), -6);
    Due.due("29: first", x.reading(0, -100000), 0);
    Due.due("29: second", x.reading(1, 200000), 1);
    Due.due("30: of the first", x.wrong(0), -110000);
    Due.due("30: of the second", x.wrong(1), 180000);
    for (int i = 2; i < 20; i++) {
      Due.due("29: number", x.reading(i % 2, i), i);
    }
    Due.due("29: a twenty-first", x.reading(0, 0), -6);
    Due.due("29: a twenty-first, below", x.reading(0, -100001), -4);
    Due.due("29: a twenty-first of nobody", x.reading(2, 0), -1);
    Due.due("32: readings", x.count(8), 20);
    Due.due("30: the last", x.wrong(19), 19 - 20000);
    Due.due("30: none such", x.wrong(20), Due.LONG + 1);
    Due.due("30: none such", x.wrong(-1), Due.LONG + 1);
    Due.due("32: count(11)", x.count(11), 6);
  }

  private static void wrong() {
    RockHeat x = new RockHeat();
    x.bore(0, 2, 100, 0, 10);
    Due.tell(x, "999", 1, 0);
    x.sun(0, 999);
    Due.due("29: now", x.reading(0, 10000), 0);
    Due.due("30: right", x.wrong(0), 0);
    x.hours(1);
    Due.due("29: now", x.reading(0, 10000), 1);
    Due.due("30: ring 0 was 10009", x.wrong(1), -9);
    Due.due("30: by what it was then", x.wrong(0), 0);
    x.hours(9);
    Due.due("30: by what it was then", x.wrong(1), -9);
  }

  private static void leak() {
    RockHeat x = new RockHeat();
    Due.due("31: nobody", x.leak(0), Due.LONG + 1);
    x.bore(0, 2, 150, 50, 10);
    x.bore(0, 1, 100, 0, 10);
    Due.due("31: nobody", x.leak(-1), Due.LONG + 1);
    Due.due("31: nobody", x.leak(2), Due.LONG + 1);
    Due.due("31: no reading", x.leak(0), Due.LONG + 3);
    x.reading(0, 10100);
    Due.due("31: one reading", x.leak(0), Due.LONG + 3);
    x.reading(0, 10000);
    x.reading(1, 9000);
    Due.due("31: of one hour", x.leak(0), Due.LONG + 3);
    x.hours(3);
    x.reading(0, 9980);
    Due.due("31: first less last by 3 hours", x.leak(0), 120 * 150 / 3);
    Due.due("31: one reading of the other", x.leak(1), Due.LONG + 3);
    x.hours(1);
    x.reading(0, 10500);
    Due.due("31: the last", x.leak(0), -400 * 150 / 4);
    x.reading(1, 9008);
    Due.due("31: of the other", x.leak(1), -8 * 100 / 4);
    Due.due("32: count(13)", x.count(13), 4);
    Due.due("32: count(11)", x.count(11), 3);
  }

  private static void leakIsCut() {
    RockHeat x = new RockHeat();
    x.bore(0, 1, 101, 0, 10);
    x.reading(0, 10001);
    x.hours(7);
    x.reading(0, 10000);
    Due.due("31: 101 by 7", x.leak(0), 14);
    RockHeat y = new RockHeat();
    y.hours(50);
    y.bore(0, 1, 101, 0, 10);
    y.reading(0, 10000);
    y.hours(7);
    y.reading(0, 10001);
    Due.due("31: -101 by 7", y.leak(0), -14);
  }

  private static void counts() {
    RockHeat x = new RockHeat();
    Due.due("32: another", x.count(-1), -9);
    Due.due("32: another", x.count(9), -9);
    Due.due("32: another", x.count(10), -9);
    Due.due("32: another", x.count(17), -9);
    Due.due("32: another", x.count(Integer.MAX_VALUE), -9);
    Due.due("32: another", x.count(Integer.MIN_VALUE), -9);
    x.hours(30);
    x.bore(0, 1, 100, 0, 10);
    x.bore(0, 1, 100, 0, 10);
    x.bore(0, 1, 100, 0, 10);
    x.open(1, false);
    for (int i = 0; i < 6; i++) {
      x.house(0, 0, 0);
    }
    x.join(0, 1);
    x.join(5, 1);
    x.join(2, 1);
    x.join(3, 1);
    x.join(1, 2);
    for (int i = 0; i < 5; i++) {
      x.point(i, 100);
    }
    for (int i = 0; i < 7; i++) {
      Due.tell(x, "1", i % 2, 1 + i);
    }
    Due.type(x, "12345678");
    for (int i = 0; i < 9; i++) {
      x.reading(0, 0);
    }
    int[] due = {30, 3, 2, 6, 4, 5, 7, 8, 9};
    for (int what = 0; what < due.length; what++) {
      Due.due("32: count(" + what + ")", x.count(what), due[what]);
    }
    x.given(3);
    x.told(11);
    x.told(11);
    x.leak(1);
    x.leak(1);
    x.leak(1);
    for (int i = 0; i < 4; i++) {
      x.need(-1);
    }
    for (int i = 0; i < 5; i++) {
      x.need(10000);
    }
    int[] refused = {1, 2, 3, 4, 0, 5};
    for (int i = 0; i < refused.length; i++) {
      Due.due("32: count(" + (11 + i) + ")", x.count(11 + i), refused[i]);
    }
  }
}
