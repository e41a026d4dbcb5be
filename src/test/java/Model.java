import java.util.ArrayList;
import java.util.HashMap;
import java.util.List;
import java.util.Map;

/** A second, slow program of the document, written apart from the first, for calls that are not refused. */
final class Model {
  static final class Bore {
    int x;
    int y;
    long degrees;
    long lead;
    long water;
    boolean open = true;
    long given;
    long[] hold;
    long[] heat;

    Bore copy() {
      Bore other = new Bore();
      other.x = x;
      other.y = y;
      other.degrees = degrees;
      other.lead = lead;
      other.water = water;
      other.open = open;
      other.given = given;
      other.hold = hold;
      other.heat = heat.clone();
      return other;
    }

    long warm(int ring) {
      return heat[ring] / hold[ring];
    }

    long first(int ring) {
      return 1000 * degrees * hold[ring];
    }
  }

  record Told(int purpose, int day, String text) {
  }

  record Read(int bore, int hour, long wrong) {
  }

  List<Bore> bores = new ArrayList<>();
  List<int[]> houses = new ArrayList<>();
  List<int[]> table = new ArrayList<>();
  List<Told> rules = new ArrayList<>();
  List<Read> readings = new ArrayList<>();
  Map<Integer, Integer> colds = new HashMap<>();
  Map<Integer, Integer> prices = new HashMap<>();
  Map<Integer, Integer> suns = new HashMap<>();
  long share;
  int hour;
  int crates;
  int size = 100;
  long[] totals = new long[9];

  /** What hours change is copied; what is told is one and the same. */
  Model inMind() {
    Model other = new Model();
    for (Bore bore : bores) {
      other.bores.add(bore.copy());
    }
    other.houses = houses;
    other.table = table;
    other.rules = rules;
    other.colds = colds;
    other.prices = prices;
    other.suns = suns;
    other.share = share;
    other.hour = hour;
    other.totals = totals.clone();
    return other;
  }

  void bore(int place, int rings, int hold, int step, int warmth) {
    Bore bore = new Bore();
    bore.x = place / 100;
    bore.y = place % 100;
    bore.degrees = warmth;
    bore.hold = new long[rings];
    bore.heat = new long[rings];
    for (int k = 0; k < rings; k++) {
      bore.hold[k] = hold + (long) k * step;
      bore.heat[k] = bore.first(k);
    }
    bores.add(bore);
  }

  int coldOf(int day) {
    return colds.getOrDefault(day % 12, 0);
  }

  int priceOf(int when) {
    return prices.getOrDefault(when % 24, 10);
  }

  long need(int when) {
    long sum = 0;
    for (int[] house : houses) {
      if (house[3] >= 0 && when / 24 >= house[3]) {
        long wanted = house[0];
        for (int degree = coldOf(when / 24); degree < 15; degree++) {
          wanted += house[1];
        }
        sum += (house[2] >> when % 24) % 2 == 1 ? wanted : wanted / 2;
      }
    }
    return sum;
  }

  long lift(long warm) {
    if (table.isEmpty()) {
      return 100;
    }
    int[] below = null;
    for (int[] point : table) {
      if (point[0] * 1000L > warm) {
        if (below == null) {
          return point[1];
        }
        long more = (point[1] - below[1]) * (warm - below[0] * 1000L) / ((point[0] - below[0]) * 1000L);
        return below[1] + more;
      }
      below = point;
    }
    return below[1];
  }

  long worth(int number, int purpose, long[][] warms) {
    Told inForce = null;
    for (Told told : rules) {
      if (told.purpose() == purpose && told.day() <= hour / 24) {
        if (inForce == null || told.day() >= inForce.day()) {
          inForce = told;
        }
      }
    }
    if (inForce == null) {
      return 0;
    }
    long[] warm = warms[number];
    long[] letters = {hour % 24, hour / 24, priceOf(hour), coldOf(hour / 24), need(hour),
        warm[0] / 1000, warm[warm.length - 1] / 1000, number, bores.get(number).degrees};
    return Math.max(0, Math.min(99999, TextModel.worth(inForce.text(), letters)));
  }

  long[][] warms() {
    long[][] warms = new long[bores.size()][];
    for (int b = 0; b < warms.length; b++) {
      warms[b] = new long[bores.get(b).heat.length];
      for (int k = 0; k < warms[b].length; k++) {
        warms[b][k] = bores.get(b).warm(k);
      }
    }
    return warms;
  }

  void pass() {
    long[][] warms = warms();
    long[][] heats = new long[bores.size()][];
    for (int b = 0; b < heats.length; b++) {
      heats[b] = bores.get(b).heat.clone();
    }
    long sun = suns.getOrDefault(hour % 24, 0);
    for (int b = 0; b < bores.size(); b++) {
      if (bores.get(b).open) {
        long taken = Math.min(sun, worth(b, 1, warms));
        bores.get(b).heat[0] += taken;
        totals[0] += taken;
        sun -= taken;
      }
    }
    totals[1] += sun;
    long needed = need(hour);
    long power = 0;
    for (int b = 0; b < bores.size(); b++) {
      Bore bore = bores.get(b);
      if (bore.open && warms[b][0] > 0) {
        long lift = lift(warms[b][0]);
        long g = Math.min(worth(b, 0, warms), Math.min(bore.heat[0], 100 * needed + 99));
        // By halves: one by one from 99999 down would take most of a run's time.
        for (long step = 1 << 17; step > 0; step /= 2) {
          while (g * lift / 100 > needed && (g - step) * lift / 100 > needed) {
            g -= step;
          }
        }
        g -= g * lift / 100 > needed ? 1 : 0;
        bore.heat[0] -= g;
        bore.given += g;
        totals[2] += g;
        totals[3] += g * lift / 100;
        power += g * lift / 100 - g;
        needed -= g * lift / 100;
      }
    }
    totals[4] += power;
    totals[5] += needed;
    totals[6] += (power + needed) * priceOf(hour) / 100;
    ground(warms, heats);
    hour++;
  }

  private void ground(long[][] warms, long[][] heats) {
    for (int b = 0; b < bores.size(); b++) {
      Bore bore = bores.get(b);
      int last = bore.heat.length - 1;
      for (int k = 0; k < last; k++) {
        long goes = bore.lead * (warms[b][k] - warms[b][k + 1]) / 100;
        bore.heat[k] -= goes;
        bore.heat[k + 1] += goes;
      }
      long lost = bore.lead * (warms[b][last] - 1000 * bore.degrees) / 100;
      bore.heat[last] -= lost;
      totals[7] += lost;
      for (int k = 0; k <= last; k++) {
        long carried = (heats[b][k] - bore.first(k)) * bore.water / 1000;
        bore.heat[k] -= carried;
        totals[8] += carried;
      }
    }
    for (int a = 0; a < bores.size(); a++) {
      for (int b = a + 1; b < bores.size(); b++) {
        Bore one = bores.get(a);
        Bore other = bores.get(b);
        int far = Math.max(Math.abs(one.x - other.x), Math.abs(one.y - other.y));
        if (far < 10) {
          int i = one.heat.length - 1;
          int j = other.heat.length - 1;
          long goes = share * (warms[a][i] - warms[b][j]) / (100 * (far + 1));
          one.heat[i] -= goes;
          other.heat[j] += goes;
        }
      }
    }
  }

  long told(int what) {
    if (what < 9) {
      return totals[what];
    }
    long sum = 0;
    for (Bore bore : bores) {
      for (int k = 0; k < bore.heat.length; k++) {
        sum += what == 9 ? bore.heat[k] : bore.first(k);
      }
    }
    return sum;
  }

  /** Coldest, its hour, bought. */
  long ahead(int n, int shut, int what) {
    Model mind = inMind();
    for (int b = 0; b < bores.size(); b++) {
      mind.bores.get(b).open &= (shut >> b) % 2 == 0;
    }
    long[] coldest = {Long.MAX_VALUE, -1};
    for (int i = 0; i < n; i++) {
      mind.pass();
      for (Bore bore : mind.bores) {
        if (bore.warm(0) < coldest[0]) {
          coldest = new long[] {bore.warm(0), mind.hour - 1};
        }
      }
    }
    return what == 2 ? mind.totals[5] - totals[5] : coldest[what];
  }

  long few(int n, long m) {
    long best = -9;
    for (int set = (1 << bores.size()) - 1; set >= 0; set--) {
      Model mind = inMind();
      for (int b = 0; b < bores.size(); b++) {
        mind.bores.get(b).open = (set >> b) % 2 == 1;
      }
      for (int i = 0; i < n; i++) {
        mind.pass();
      }
      boolean enough = mind.totals[5] - totals[5] <= m;
      if (enough && (best < 0 || Integer.bitCount(set) <= Integer.bitCount((int) best))) {
        best = set;
      }
    }
    return best;
  }

  long takenFrom(int bore, int other, int n) {
    Model asIs = inMind();
    Model shut = inMind();
    shut.bores.get(other).open = false;
    for (int i = 0; i < n; i++) {
      asIs.pass();
      shut.pass();
    }
    return shut.bores.get(bore).given - asIs.bores.get(bore).given;
  }

  long best(int i) {
    long[] needs = new long[24];
    int[] paid = new int[24];
    for (int h = 0; h < 24; h++) {
      needs[h] = need(hour + h);
      paid[h] = priceOf(hour + h);
    }
    return BestDay.of(needs, paid, crates, size)[i];
  }

  long leak(int bore) {
    Read first = null;
    Read last = null;
    for (Read read : readings) {
      if (read.bore() == bore) {
        first = first == null ? read : first;
        last = read;
      }
    }
    if (first == null || first.hour() == last.hour()) {
      return Due.LONG + 3;
    }
    return (first.wrong() - last.wrong()) * bores.get(bore).hold[0] / (last.hour() - first.hour());
  }
}
