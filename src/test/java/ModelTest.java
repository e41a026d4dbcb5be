import java.util.Random;

/** Runs of calls by chance (of seeds written here) on the program and on its model. */
public final class ModelTest {
  private static final String[] SHAPES = {
    "n", "n/2", "n/3+t*20", "(t>f)*n", "(h<8)*900", "(p>10)*(r-f+5)*100", "1500-r*90+b*10",
    "(h>8)*(h<18)*2000", "(c<5)*n+(c=5)*50", "d*100+500", "99999", "0", "(b=1)*n", "(r<t)*4000",
  };

  /** Numbers of a part of what may be told, where much happens, or of all of it. */
  private static final class Chance extends Random {
    private static final long serialVersionUID = 1;
    private final boolean isWide;

    Chance(long seed, boolean isWide) {
      super(seed);
      this.isWide = isWide;
    }

    int below(int part, int all) {
      return nextInt(isWide ? all : part);
    }
  }

  private ModelTest() {
  }

  public static void main(String[] args) {
    texts();
    for (int seed = 0; seed < 150; seed++) {
      run(new Chance(seed, seed % 3 == 0), seed);
    }
    Due.end("ModelTest");
  }

  private static void texts() {
    Random chance = new Random(5);
    String signs = "0123456789hdpcntrbf+-*/()<=>()+-*/x";
    for (int i = 0; i < 4000; i++) {
      StringBuilder text = new StringBuilder();
      int length = chance.nextInt(61);
      while (text.length() < length) {
        String start = text.toString();
        String next = start + signs.charAt(chance.nextInt(signs.length()));
        // Mostly on from where something can stand, or no text would be long.
        if (chance.nextInt(40) == 0 || TextModel.fault(next) < 0 || TextModel.fault(next) == next.length()) {
          text = new StringBuilder(next);
        } else if (chance.nextInt(30) == 0) {
          break;
        }
      }
      RockHeat x = new RockHeat();
      x.bore(0, 2, 100, 0, 7);
      int fault = TextModel.fault(text.toString());
      Due.due("20: " + text, Due.tell(x, text.toString(), 0, 0), fault < 0 ? 1 : -20 - fault);
      long[] letters = {0, 0, 10, 0, 0, 7, 7, 0, 7};
      long worth = fault < 0 ? TextModel.worth(text.toString(), letters) : 0;
      Due.due("21: " + text, x.may(0, 0), Math.max(0, Math.min(99999, worth)));
    }
  }

  private static void run(Chance chance, int seed) {
    RockHeat x = new RockHeat();
    Model m = new Model();
    for (int call = 0; call < 220; call++) {
      int kind = chance.nextInt(36);
      String name = "seed " + seed + ", call " + call + ", kind " + kind;
      if (kind < 16) {
        tell(kind, x, m, chance, name);
      } else if (kind < 24) {
        int n = 1 + chance.nextInt(chance.nextInt(4) == 0 ? 30 : 4);
        if (m.hour + n <= 700) {
          for (int i = 0; i < n; i++) {
            m.pass();
          }
          Due.due(name, x.hours(n), m.hour);
        }
      } else {
        ask(kind, x, m, chance, name);
      }
      for (int what = 0; what <= 10; what++) {
        Due.due(name + ", told " + what, x.told(what), m.told(what));
      }
    }
  }

  private static void tell(int kind, RockHeat x, Model m, Chance chance, String name) {
    int bores = m.bores.size();
    switch (kind) {
      case 0, 1 -> {
        int place = (40 + chance.nextInt(14)) * 100 + 50 + chance.nextInt(14);
        int[] v = {1 + chance.nextInt(8), 100 + chance.below(400, 9900), chance.below(200, 1000),
            chance.below(30, 100)};
        if (bores < 8) {
          Due.due(name, x.bore(place, v[0], v[1], v[2], v[3]), bores);
          m.bore(place, v[0], v[1], v[2], v[3]);
        }
      }
      case 2, 3 -> {
        if (bores > 0) {
          int b = chance.nextInt(bores);
          int lead = chance.nextInt(1000);
          int water = chance.nextInt(3) * chance.nextInt(51);
          Due.due(name, x.soil(b, lead, water), m.bores.get(b).lead);
          m.bores.get(b).lead = lead;
          m.bores.get(b).water = water;
        }
      }
      case 4 -> {
        int v = chance.nextInt(1000);
        Due.due(name, x.share(v), m.share);
        m.share = v;
      }
      case 5 -> {
        if (bores > 0) {
          int b = chance.nextInt(bores);
          boolean on = chance.nextInt(3) > 0;
          Due.due(name, x.open(b, on), m.bores.get(b).open == on ? 0 : 1);
          m.bores.get(b).open = on;
        }
      }
      case 6 -> {
        if (m.houses.size() < 20) {
          int[] house = {chance.below(1500, 10000), chance.below(60, 1000), chance.nextInt(1 << 24), -1};
          Due.due(name, x.house(house[0], house[1], house[2]), m.houses.size());
          m.houses.add(house);
        }
      }
      case 7 -> {
        for (int i = 0; i < m.houses.size(); i++) {
          if (m.houses.get(i)[3] < 0) {
            int day = m.hour / 24 + chance.nextInt(3);
            Due.due(name, x.join(i, day), 1);
            m.houses.get(i)[3] = day;
          }
        }
      }
      case 8 -> {
        int i = chance.nextInt(12);
        int degrees = chance.below(50, 81) - (chance.isWide ? 40 : 25);
        Due.due(name, x.cold(i, degrees), m.coldOf(i));
        m.colds.put(i, degrees);
      }
      case 9 -> {
        int warmth = chance.below(25, 120) - (chance.isWide ? 20 : 5);
        int lift = 100 + chance.below(400, 900);
        if (m.table.isEmpty() || m.table.size() < 8 && m.table.get(m.table.size() - 1)[0] < warmth) {
          m.table.add(new int[] {warmth, lift});
          Due.due(name, x.point(warmth, lift), m.table.size());
        } else if (chance.nextInt(6) == 0) {
          Due.due(name, x.untable(), m.table.size());
          m.table.clear();
        }
      }
      case 10 -> {
        int hour = chance.nextInt(24);
        int v = chance.below(200, 1000);
        Due.due(name, x.price(hour, v), m.priceOf(hour));
        m.prices.put(hour, v);
      }
      case 11, 12 -> {
        int hour = chance.nextInt(24);
        int v = chance.nextInt(chance.nextInt(5) == 0 ? 100000 : 9000);
        Due.due(name, x.sun(hour, v), m.suns.getOrDefault(hour, 0));
        m.suns.put(hour, v);
      }
      case 13, 14 -> {
        if (m.rules.size() < 30) {
          String text = SHAPES[chance.nextInt(SHAPES.length)];
          int purpose = chance.nextInt(2);
          int day = m.hour / 24 + chance.nextInt(2) * chance.nextInt(4);
          m.rules.add(new Model.Told(purpose, day, text));
          Due.due(name, Due.tell(x, text, purpose, day), m.rules.size());
        }
      }
      default -> {
        int crates = chance.nextInt(10);
        int size = 1 + chance.below(600, 9999);
        Due.due(name, x.tank(crates, size), m.crates);
        m.crates = crates;
        m.size = size;
        if (bores > 0 && m.readings.size() < 20) {
          int b = chance.nextInt(bores);
          int read = chance.below(30000, 300001) - (chance.isWide ? 100000 : 0);
          Due.due(name, x.reading(b, read), m.readings.size());
          m.readings.add(new Model.Read(b, m.hour, read - m.bores.get(b).warm(0)));
        }
      }
    }
  }

  private static void ask(int kind, RockHeat x, Model m, Chance chance, String name) {
    int bores = m.bores.size();
    int b = bores == 0 ? 0 : chance.nextInt(bores);
    switch (kind) {
      case 24 -> {
        int hour = chance.nextInt(10000);
        Due.due(name, x.need(hour), m.need(hour));
      }
      case 25 -> {
        int warm = chance.below(60000, 300001) - (chance.isWide ? 100000 : 20000);
        Due.due(name, x.lift(warm), m.lift(warm));
      }
      case 26 -> {
        int i = chance.nextInt(25);
        Due.due(name, x.best(i), m.best(i));
      }
      case 27 -> {
        for (int i = 0; i < m.readings.size(); i++) {
          Due.due(name, x.wrong(i), m.readings.get(i).wrong());
        }
        Due.due(name, x.leak(b), bores == 0 ? Due.LONG + 1 : m.leak(b));
      }
      case 28, 29 -> {
        for (int i = 0; i < bores; i++) {
          Due.due(name, x.given(i), m.bores.get(i).given);
          Due.due(name, x.frozen(i), m.bores.get(i).warm(0) <= 0 ? 1 : 0);
          Due.due(name, x.may(i, kind - 28), m.worth(i, kind - 28, m.warms()));
          for (int k = 0; k < m.bores.get(i).heat.length; k++) {
            Due.due(name, x.heat(i, k), m.bores.get(i).heat[k]);
            Due.due(name, x.warmth(i, k), m.bores.get(i).warm(k));
          }
        }
      }
      case 30, 31, 32 -> {
        int n = 1 + chance.nextInt(40);
        int shut = chance.nextInt(1 << bores);
        Due.due(name, x.ahead(n, shut, 2), m.ahead(n, shut, 2));
        if (bores > 0) {
          Due.due(name, x.ahead(n, shut, 0), m.ahead(n, shut, 0));
          Due.due(name, x.ahead(n, shut, 1), m.ahead(n, shut, 1));
        }
      }
      case 33, 34 -> {
        if (bores > 1) {
          int other = (b + 1 + chance.nextInt(bores - 1)) % bores;
          int n = 1 + chance.nextInt(60);
          Due.due(name, x.takenFrom(b, other, n), m.takenFrom(b, other, n));
        }
      }
      default -> {
        int n = 1 + chance.nextInt(12);
        int most = (int) m.ahead(n, 0, 2) + chance.nextInt(3000);
        Due.due(name, x.few(n, most), m.few(n, most));
      }
    }
  }
}
