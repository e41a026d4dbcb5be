/** Promises 24 to 26: hours in mind only. */
public final class MindTest {
  private static final int ALWAYS = 16777215;

  public static void main(String[] args) {
    aheadRefusals();
    aheadWithNoBore();
    aheadColdest();
    aheadShut();
    aheadIsAsHours();
    aheadBeyond();
    few();
    fewOfSeveral();
    fewRefusals();
    takenFrom();
    takenFromRefusals();
    nothingChanges();
    Due.end("MindTest");
  }

  private static RockHeat needing(int need) {
    RockHeat x = new RockHeat();
    x.house(need, 0, ALWAYS);
    x.join(0, 0);
    return x;
  }

  private static void aheadRefusals() {
    RockHeat x = new RockHeat();
    x.bore(0, 1, 100, 0, 3);
    x.bore(0, 1, 100, 0, 2);
    Due.due("24: others", x.ahead(0, 4, 3), Due.LONG + 1);
    Due.due("24: others too", x.ahead(1, 7, 0), Due.LONG + 1);
    Due.due("24: others", x.ahead(1, -1, 0), Due.LONG + 1);
    Due.due("24: others", x.ahead(1, 1 << 31, 0), Due.LONG + 1);
    Due.due("24: others", x.ahead(1, 1 << 8, 0), Due.LONG + 1);
    Due.due("24: what", x.ahead(0, 3, 3), Due.LONG + 2);
    Due.due("24: what", x.ahead(501, 3, -1), Due.LONG + 2);
    Due.due("24: n", x.ahead(0, 3, 0), Due.LONG + 4);
    Due.due("24: n", x.ahead(501, 3, 2), Due.LONG + 6);
    Due.due("24: 1", x.ahead(1, 3, 0), 2000);
    Due.due("24: 500", x.ahead(500, 0, 1), 0);
    Due.due("32: count(11)", x.count(11), 5);
    Due.due("32: count(12)", x.count(12), 2);
    Due.due("32: count(14)", x.count(14), 1);
    Due.due("32: count(16)", x.count(16), 1);
    for (int i = 2; i < 8; i++) {
      x.bore(0, 1, 100, 0, 3);
    }
    Due.due("24: all eight", x.ahead(1, 255, 0), 2000);
    Due.due("24: a ninth", x.ahead(1, 256, 0), Due.LONG + 1);
  }

  private static void aheadWithNoBore() {
    RockHeat x = needing(30);
    Due.due("24: others", x.ahead(1, 1, 2), Due.LONG + 1);
    Due.due("24: what", x.ahead(1, 0, 3), Due.LONG + 2);
    Due.due("24: n first", x.ahead(0, 0, 0), Due.LONG + 4);
    Due.due("24: n first", x.ahead(501, 0, 1), Due.LONG + 6);
    Due.due("24: no bore", x.ahead(1, 0, 0), Due.LONG + 3);
    Due.due("24: no bore", x.ahead(1, 0, 1), Due.LONG + 3);
    Due.due("24: bought", x.ahead(10, 0, 2), 300);
    Due.due("32: count(13)", x.count(13), 2);
  }

  private static void aheadColdest() {
    RockHeat x = needing(1000);
    x.bore(0, 1, 100, 0, 10);
    x.bore(50, 1, 100, 0, 10);
    Due.tell(x, "(b=1)*(h=3)*1000", 0, 0);
    Due.tell(x, "(b=1)*99999", 1, 0);
    x.sun(5, 1000);
    x.sun(6, 500);
    Due.due("24: not yet", x.ahead(3, 0, 0), 10000);
    Due.due("24: the first of three", x.ahead(3, 0, 1), 0);
    Due.due("24: at the end of hour 3", x.ahead(4, 0, 0), 9990);
    Due.due("24: hour 3", x.ahead(4, 0, 1), 3);
    Due.due("24: it stays the coldest", x.ahead(9, 0, 0), 9990);
    Due.due("24: the first", x.ahead(9, 0, 1), 3);
    Due.due("24: bought", x.ahead(9, 0, 2), 8000);
    x.hours(4);
    Due.due("24: hour 4 is as cold", x.ahead(9, 0, 1), 4);
    Due.due("24: of the hours ahead alone", x.ahead(9, 0, 2), 9000);
    x.hours(2);
    Due.due("24: warmer", x.ahead(5, 0, 0), 10000);
    Due.due("24: the first of these", x.ahead(5, 0, 1), 6);
    // 500 came in hour 6, 1000 go in hour 27.
    Due.due("24: and a day on", x.ahead(24, 0, 0), 9995);
    Due.due("24: its hour", x.ahead(24, 0, 1), 27);
    RockHeat y = new RockHeat();
    y.bore(0, 1, 100, 0, 0);
    y.bore(0, 1, 100, 0, 50);
    y.soil(0, 100, 0);
    Due.due("24: at 0", y.ahead(500, 0, 0), 0);
    Due.due("24: ring 0 of all, open or shut", y.ahead(2, 1, 0), 0);
  }

  private static void aheadShut() {
    RockHeat x = needing(100);
    x.bore(0, 1, 100, 0, 10);
    x.bore(50, 1, 100, 0, 10);
    Due.tell(x, "60", 0, 0);
    Due.due("24: both", x.ahead(10, 0, 2), 0);
    Due.due("24: one shut", x.ahead(10, 1, 2), 400);
    Due.due("24: the other shut", x.ahead(10, 2, 2), 400);
    Due.due("24: both shut", x.ahead(10, 3, 2), 1000);
    x.open(1, false);
    Due.due("24: others as they are", x.ahead(10, 0, 2), 400);
    Due.due("24: shut is shut", x.ahead(10, 2, 2), 400);
    Due.due("24: none is opened", x.ahead(10, 1, 2), 1000);
    Due.due("24: nothing changes", x.open(1, true), 1);
    Due.due("24: nothing changes", x.open(0, true), 0);
  }

  private static RockHeat busy() {
    RockHeat x = needing(2500);
    x.house(10, 40, 4095);
    x.join(1, 1);
    x.cold(1, -9);
    x.bore(505, 3, 120, 30, 4);
    x.bore(512, 2, 200, 10, 6);
    x.bore(1011, 1, 300, 0, 8);
    x.soil(0, 400, 20);
    x.soil(2, 100, 5);
    x.share(300);
    x.point(0, 180);
    x.point(6, 310);
    Due.tell(x, "n/4+t*50", 0, 0);
    Due.tell(x, "1500-r*90", 1, 0);
    Due.tell(x, "n/2", 0, 2);
    for (int hour = 8; hour < 17; hour++) {
      x.sun(hour, 2600);
    }
    return x;
  }

  private static void aheadIsAsHours() {
    RockHeat x = busy();
    RockHeat y = busy();
    x.hours(7);
    y.hours(7);
    long least = Long.MAX_VALUE;
    long at = -1;
    for (int n = 1; n <= 80; n++) {
      int hour = y.count(0);
      y.hours(1);
      for (int b = 0; b < 3; b++) {
        if (y.warmth(b, 0) < least) {
          least = y.warmth(b, 0);
          at = hour;
        }
      }
      if (n % 16 == 0) {
        Due.due("24: coldest", x.ahead(n, 0, 0), least);
        Due.due("24: its hour", x.ahead(n, 0, 1), at);
        Due.due("24: bought", x.ahead(n, 0, 2), y.told(5) - x.told(5));
      }
    }
  }

  private static void aheadBeyond() {
    RockHeat x = needing(10);
    x.bore(0, 1, 100, 0, 10);
    Due.tell(x, "(d>338)*(h=23)", 0, 0);
    x.hours(8000);
    Due.due("24: beyond 8000", x.ahead(500, 0, 2), 5000 - 15);
    Due.due("24: not so far", x.ahead(100, 0, 2), 1000);
    Due.due("24: the hour", x.ahead(500, 0, 1), 339 * 24 + 23);
    Due.due("24: 9999", x.ahead(500, 0, 0), 9999);
    Due.due("25: beyond 8000", x.few(100, 1000), 0);
    Due.due("28: beyond 8000", x.best(23), 10);
    Due.due("24: still 8000", x.count(0), 8000);
  }

  private static void few() {
    RockHeat x = needing(100);
    Due.due("25: no bore", x.few(10, 1000), 0);
    Due.due("25: no bore", x.few(10, 999), -9);
    x.bore(0, 1, 100, 0, 10);
    x.bore(50, 1, 100, 0, 10);
    x.bore(99, 1, 100, 0, 10);
    Due.tell(x, "30+b*10", 0, 0);
    Due.due("25: none needed", x.few(10, 1000), 0);
    Due.due("25: one, the third", x.few(10, 500), 4);
    Due.due("25: one, the second", x.few(10, 600), 2);
    Due.due("25: one, the first", x.few(10, 700), 1);
    Due.due("25: two", x.few(10, 300), 3);
    Due.due("25: two", x.few(10, 299), 5);
    Due.due("25: two", x.few(10, 200), 5);
    Due.due("25: two", x.few(10, 199), 6);
    Due.due("25: three", x.few(10, 99), 7);
    Due.due("25: three", x.few(10, 0), 7);
    x.open(0, false);
    x.open(2, false);
    Due.due("25: shut ones may be opened", x.few(10, 0), 7);
    Due.due("25: open ones are shut", x.few(10, 1000), 0);
    Due.due("6: nothing changes", x.open(0, true) + x.open(1, true) + x.open(2, true), 2);
    x.house(21, 0, ALWAYS);
    x.join(1, 0);
    Due.due("25: none is enough", x.few(10, 9), -9);
    Due.due("25: -9 is no refusal", x.count(11) + x.count(12) + x.count(13) + x.count(14) + x.count(16), 0);
    Due.due("25: seven is", x.few(10, 10), 7);
    x.hours(100);
    Due.due("25: what was bought does not count", x.few(10, 10), 7);
  }

  private static void fewOfSeveral() {
    RockHeat x = needing(100);
    for (int i = 0; i < 8; i++) {
      x.bore(i * 1000, 1, 100, 0, i == 0 || i == 5 ? 0 : 1);
    }
    Due.tell(x, "35", 0, 0);
    Due.due("25: fewest, then least as bits", x.few(5, 0), 2 + 4 + 8);
    Due.due("25: two of 70", x.few(5, 150), 2 + 4);
    Due.due("25: one of 35", x.few(5, 325), 2);
    Due.tell(x, "(b=7)*90+(b=1)*10+(b=2)*5+(b=3)*5", 0, 0);
    Due.due("25: fewer is ahead of least", x.few(2, 20), 128);
    Due.due("25: two", x.few(2, 0), 2 + 128);
    Due.tell(x, "(b=6)*90+(b=1)*30+(b=2)*60+(b=3)*40", 0, 0);
    Due.due("25: 2 and 3 are less than 1 and 6", x.few(2, 0), 4 + 8);
  }

  private static void fewRefusals() {
    RockHeat x = new RockHeat();
    Due.due("25: n", x.few(0, 0), -4);
    Due.due("25: m", x.few(1, -1), -4);
    Due.due("25: below ahead of room", x.few(101, -1), -4);
    Due.due("25: below ahead of room", x.few(0, 1000000001), -4);
    Due.due("25: n", x.few(101, 0), -6);
    Due.due("25: m", x.few(1, 1000000001), -6);
    Due.due("25: the most", x.few(100, 1000000000), 0);
    Due.due("32: count(14)", x.count(14), 4);
    Due.due("32: count(16)", x.count(16), 2);
  }

  private static void takenFrom() {
    RockHeat x = needing(100);
    x.bore(0, 1, 100, 0, 10);
    x.bore(50, 1, 100, 0, 10);
    x.bore(99, 1, 100, 0, 10);
    Due.tell(x, "60", 0, 0);
    x.hours(3);
    Due.due("26: 20 more", x.takenFrom(1, 0, 10), 200);
    Due.due("26: 40 more", x.takenFrom(2, 0, 10), 400);
    Due.due("26: 60 more are not taken", x.takenFrom(2, 1, 10), 400);
    Due.due("26: those ahead lose nothing", x.takenFrom(0, 1, 10), 0);
    Due.due("26: 500", x.takenFrom(1, 0, 500), 10000);
    Due.due("26: 1", x.takenFrom(1, 0, 1), 20);
    x.open(0, false);
    Due.due("26: shut already", x.takenFrom(1, 0, 10), 0);
    Due.due("26: of a shut one", x.takenFrom(0, 1, 10), 0);
    Due.due("26: nothing changes", x.open(0, true), 1);
    Due.due("26: less", sharing().takenFrom(0, 1, 20), -given(20, sharing()));
    Due.due("26: all of it", sharing().takenFrom(1, 0, 20), 0);
  }

  /** Bore 0 gives only what the sun of bore 1 has made of it. */
  private static RockHeat sharing() {
    RockHeat x = needing(500);
    x.bore(0, 1, 100, 0, 10);
    x.bore(0, 1, 100, 0, 10);
    x.share(999);
    Due.tell(x, "(b=0)*(t>10)*500", 0, 0);
    Due.tell(x, "(b=1)*99999", 1, 0);
    for (int hour = 0; hour < 10; hour++) {
      x.sun(hour, 99999);
    }
    return x;
  }

  private static long given(int hours, RockHeat x) {
    x.hours(hours);
    Due.due("26: it gives some", x.given(0) >= 500 ? 1 : 0, 1);
    return x.given(0);
  }

  private static void takenFromRefusals() {
    RockHeat x = new RockHeat();
    x.bore(0, 1, 100, 0, 10);
    x.bore(50, 1, 100, 0, 10);
    Due.due("26: one twice", x.takenFrom(0, 0, 0), Due.LONG + 1);
    Due.due("26: nobody", x.takenFrom(0, 2, 501), Due.LONG + 1);
    Due.due("26: nobody", x.takenFrom(2, 0, 1), Due.LONG + 1);
    Due.due("26: nobody", x.takenFrom(-1, 0, 1), Due.LONG + 1);
    Due.due("26: nobody", x.takenFrom(0, -1, 1), Due.LONG + 1);
    Due.due("26: n", x.takenFrom(0, 1, 0), Due.LONG + 4);
    Due.due("26: n", x.takenFrom(0, 1, 501), Due.LONG + 6);
    Due.due("32: count(11)", x.count(11), 5);
  }

  private static void nothingChanges() {
    RockHeat x = busy();
    RockHeat y = busy();
    for (int i = 0; i < 6; i++) {
      x.ahead(50 + i, i, i % 3);
      x.few(20 + i, 1000 * i);
      x.takenFrom(i % 3, (i + 1) % 3, 30 + i);
      x.best(i);
      x.may(i % 3, i % 2);
      x.hours(5 + i);
      y.hours(5 + i);
      for (int what = 0; what <= 10; what++) {
        Due.due("24 to 26: told(" + what + ")", x.told(what), y.told(what));
      }
      for (int what = 0; what <= 16; what++) {
        Due.due("24 to 26: count(" + what + ")", x.count(what), y.count(what));
      }
      for (int b = 0; b < 3; b++) {
        Due.due("24 to 26: heat", x.heat(b, 0), y.heat(b, 0));
        Due.due("24 to 26: given", x.given(b), y.given(b));
      }
    }
    x.soil(1, 99, 9);
    y.soil(1, 99, 9);
    x.share(1);
    y.share(1);
    y.hours(40);
    Due.due("24: by what was told since", x.ahead(40, 0, 2), y.told(5) - x.told(5));
  }
}
