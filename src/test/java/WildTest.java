import java.util.Random;

/** Calls of any kind with numbers of any size: each ends with an answer, and with the same one again. */
public final class WildTest {
  private static final int[] EDGES = {
    0, 1, -1, 2, 3, 7, 8, 9, 10, 15, 20, 23, 24, 25, 30, 60, 99, 100, 101, 255, 256, 333, 334, 500, 501, 999, 1000,
    7999, 8000, 9999, 10000, 99999, 16777215, Integer.MAX_VALUE, Integer.MIN_VALUE,
  };

  private WildTest() {
  }

  public static void main(String[] args) {
    for (int seed = 0; seed < 60; seed++) {
      Random chance = new Random(seed);
      RockHeat x = new RockHeat();
      RockHeat y = new RockHeat();
      int[] v = new int[6];
      for (int call = 0; call < 512; call++) {
        int kind = chance.nextInt(34);
        for (int i = 0; i < v.length; i++) {
          v[i] = chance.nextInt(4) == 0 ? EDGES[chance.nextInt(EDGES.length)] : chance.nextInt(12);
        }
        long bytes = chance.nextInt(3) == 0 ? chance.nextLong() : 0x292B3128L + chance.nextInt(3);
        Due.due("seed " + seed + ", call " + call, call(x, kind, v, bytes), call(y, kind, v, bytes));
      }
    }
    Due.end("WildTest");
  }

  private static long call(RockHeat x, int kind, int[] v, long bytes) {
    return switch (kind) {
      case 0 -> x.hours(v[0]);
      case 1 -> x.bore(v[0], v[1], v[2] + 100, v[3], v[4]);
      case 2 -> x.soil(v[0], v[1] * 80, v[2] * 9);
      case 3 -> x.share(v[0] * 90);
      case 4 -> x.open(v[0], v[1] % 2 == 0);
      case 5 -> x.heat(v[0], v[1]);
      case 6 -> x.warmth(v[0], v[1]);
      case 7 -> x.frozen(v[0]);
      case 8 -> x.house(v[0], v[1], v[2]);
      case 9 -> x.join(v[0], v[1]);
      case 10 -> x.cold(v[0], v[1]);
      case 11 -> x.need(v[0]);
      case 12 -> x.point(v[0], v[1] * 50);
      case 13 -> v[0] == 3 ? x.untable() : 0;
      case 14 -> x.lift(v[0] * 1000);
      case 15 -> x.price(v[0], v[1]);
      case 16 -> x.sun(v[0], v[1] * 1000);
      case 17 -> x.feed(v[0], bytes);
      case 18 -> x.rule(v[0] % 3, v[1]);
      case 19 -> x.may(v[0], v[1] % 3);
      case 20 -> x.told(v[0]);
      case 21 -> x.given(v[0]);
      case 22 -> x.ahead(v[0], v[1], v[2] % 4);
      case 23 -> x.few(v[0] % 20, v[1]);
      case 24 -> x.takenFrom(v[0], v[1], v[2]);
      case 25 -> x.tank(v[0], v[1]);
      case 26 -> x.best(v[0]);
      case 27 -> x.reading(v[0], v[1] * 1000);
      case 28 -> x.wrong(v[0]);
      case 29 -> x.leak(v[0]);
      case 30, 31 -> rule(x, v);
      default -> x.count(v[0]);
    };
  }

  private static long rule(RockHeat x, int[] v) {
    x.rule(0, 0);
    String[] texts = {"t*900", "n", "99999", "h*b*400-r", "(t<5)*n/0"};
    String text = texts[Math.floorMod(v[0], texts.length)];
    for (int i = 0; i < text.length(); i++) {
      x.feed(1, text.charAt(i));
    }
    return x.rule(v[1] & 1, 333 * (v[2] & 1));
  }
}
