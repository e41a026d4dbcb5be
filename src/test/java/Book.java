/** The whole face on the model: each call's REFUSALS, in the order in which its promise tells them, and their counts. */
final class Book {
  private static final int TAPE = 60;
  private final Model m = new Model();
  private final long[] refused = new long[7];
  private String tape = "";

  int hour() {
    return m.hour;
  }

  int bores() {
    return m.bores.size();
  }

  long answer(String name, long... v) {
    int number = refusal(name, v);
    if (number != 0) {
      refused[-number]++;
      return Calls.asAnswered(number, name);
    }
    return m.bores.size() > 0 && isOfBore(name) ? ofBore(name, m.bores.get((int) v[0]), v) : taken(name, v);
  }

  private static boolean isOfBore(String name) {
    return switch (name) {
      case "soil", "open", "heat", "warmth", "frozen", "may", "given", "takenFrom", "reading", "leak" -> true;
      default -> false;
    };
  }

  private int refusal(String name, long[] v) {
    int day = m.hour / 24;
    return switch (name) {
      case "hours" -> within(v[0], 1, 8000 - m.hour);
      case "bore" -> all(m.bores.size() == 8, v, 0, 9999, 1, 8, 100, 9999, 0, 999, 0, 99);
      case "soil" -> then(bore(v[0]), all(false, v, v[0], v[0], 0, 999, 0, 100));
      case "share" -> within(v[0], 0, 999);
      case "open", "frozen", "given" -> bore(v[0]);
      case "heat", "warmth" -> then(bore(v[0]), ring(v[0], v[1]));
      case "house" -> all(m.houses.size() == 20, v, 0, 9999, 0, 999, 0, 16777215);
      case "join" -> join(v, day);
      case "cold" -> then(within(v[0], 0, 11), within(v[1], -40, 40));
      case "need" -> within(v[0], 0, 9999);
      case "point" -> all(m.table.size() == 8, v, m.table.isEmpty() ? -20 : lastPoint() + 1, Math.max(99, lastPoint()), 100, 999);
      case "lift" -> within(v[0], -100000, 200000);
      case "price" -> then(within(v[0], 0, 23), within(v[1], 0, 999));
      case "sun" -> then(within(v[0], 0, 23), within(v[1], 0, 99999));
      case "feed" -> within(v[0], 1, Math.min(8, TAPE - tape.length()));
      case "rule" -> then(purpose(v[0]), all(m.rules.size() == 30, v, v[0], v[0], day, 333));
      case "may" -> then(bore(v[0]), purpose(v[1]));
      case "told" -> v[0] < 0 || v[0] > 10 ? -2 : 0;
      case "ahead" -> ahead(v);
      case "few" -> all(false, v, 1, 100, 0, 1000000000);
      case "takenFrom" -> then(bore(v[0]), then(bore(v[1]), then(v[0] == v[1] ? -1 : 0, within(v[2], 1, 500))));
      case "tank" -> all(false, v, 0, 9, 1, 9999);
      case "best" -> v[0] < 0 || v[0] > 24 ? -2 : 0;
      case "reading" -> then(bore(v[0]), all(m.readings.size() == 20, v, v[0], v[0], -100000, 200000));
      case "wrong" -> v[0] < 0 || v[0] >= m.readings.size() ? -1 : 0;
      case "leak" -> then(bore(v[0]), bore(v[0]) == 0 && m.leak((int) v[0]) == Due.LONG + 3 ? -3 : 0);
      default -> 0;
    };
  }

  private static int then(int first, int next) {
    return first != 0 ? first : next;
  }

  private static int within(long v, long least, long most) {
    return v < least ? -4 : v > most ? -6 : 0;
  }

  /** Numbers of one refusal together: any that is below, then any that is above or that there is no room. */
  private static int all(boolean isFull, long[] v, long... bounds) {
    boolean isAbove = isFull;
    for (int i = 0; i < v.length; i++) {
      if (v[i] < bounds[2 * i]) {
        return -4;
      }
      isAbove |= v[i] > bounds[2 * i + 1];
    }
    return isAbove ? -6 : 0;
  }

  private int bore(long number) {
    return number < 0 || number >= m.bores.size() ? -1 : 0;
  }

  private int ring(long bore, long ring) {
    return bore(bore) == 0 && ring >= 0 && ring < m.bores.get((int) bore).heat.length ? 0 : -1;
  }

  private static int purpose(long v) {
    return v == 0 || v == 1 ? 0 : -2;
  }

  private int lastPoint() {
    return m.table.isEmpty() ? -21 : m.table.get(m.table.size() - 1)[0];
  }

  private int join(long[] v, int day) {
    if (v[0] < 0 || v[0] >= m.houses.size()) {
      return -1;
    }
    return m.houses.get((int) v[0])[3] >= 0 ? -3 : within(v[1], day, 333);
  }

  private int ahead(long[] v) {
    boolean isSet = v[1] >= 0 && v[1] < Math.pow(2, m.bores.size());
    boolean isAsked = v[2] == 0 || v[2] == 1 || v[2] == 2;
    int number = then(isSet ? 0 : -1, then(isAsked ? 0 : -2, within(v[0], 1, 500)));
    return then(number, v[2] < 2 && m.bores.isEmpty() ? -3 : 0);
  }

  private long ofBore(String name, Model.Bore bore, long[] v) {
    int number = (int) v[0];
    switch (name) {
      case "soil":
        long lead = bore.lead;
        bore.lead = v[1];
        bore.water = v[2];
        return lead;
      case "open":
        boolean was = bore.open;
        bore.open = v[1] != 0;
        return was == bore.open ? 0 : 1;
      case "heat": return bore.heat[(int) v[1]];
      case "warmth": return bore.warm((int) v[1]);
      case "frozen": return bore.warm(0) > 0 ? 0 : 1;
      case "may": return m.worth(number, (int) v[1], m.warms());
      case "given": return bore.given;
      case "takenFrom": return m.takenFrom(number, (int) v[1], (int) v[2]);
      case "reading":
        m.readings.add(new Model.Read(number, m.hour, v[1] - bore.warm(0)));
        return m.readings.size() - 1;
      default: return m.leak(number);
    }
  }

  private long taken(String name, long[] v) {
    int first = v.length == 0 ? 0 : (int) v[0];
    int next = v.length < 2 ? 0 : (int) v[1];
    switch (name) {
      case "hours":
        for (int i = 0; i < first; i++) {
          m.pass();
        }
        return m.hour;
      case "bore":
        m.bore(first, next, (int) v[2], (int) v[3], (int) v[4]);
        return m.bores.size() - 1;
      case "share":
        long share = m.share;
        m.share = first;
        return share;
      case "house":
        m.houses.add(new int[] {first, next, (int) v[2], -1});
        return m.houses.size() - 1;
      case "join":
        m.houses.get(first)[3] = next;
        return 1;
      case "point":
        m.table.add(new int[] {first, next});
        return m.table.size();
      case "untable":
        int points = m.table.size();
        m.table.clear();
        return points;
      case "cold": return was(m.colds.put(first, next), 0);
      case "price": return was(m.prices.put(first, next), 10);
      case "sun": return was(m.suns.put(first, next), 0);
      case "feed": return feed(first, v[1]);
      case "rule": return rule(first, next);
      case "tank":
        int crates = m.crates;
        m.crates = first;
        m.size = next;
        return crates;
      default: return asked(name, v, first);
    }
  }

  private long asked(String name, long[] v, int first) {
    return switch (name) {
      case "need" -> m.need(first);
      case "lift" -> m.lift(first);
      case "told" -> m.told(first);
      case "ahead" -> m.ahead(first, (int) v[1], (int) v[2]);
      case "few" -> m.few(first, v[1]);
      case "best" -> m.best(first);
      case "wrong" -> m.readings.get(first).wrong();
      default -> count(first);
    };
  }

  private static long was(Integer before, int atFirst) {
    return before == null ? atFirst : before;
  }

  private long feed(int n, long bytes) {
    for (int i = 0; i < n; i++) {
      tape += (char) Math.floorMod(bytes, 256);
      bytes = Math.floorDiv(bytes, 256);
    }
    return tape.length();
  }

  private long rule(int purpose, int day) {
    String text = tape;
    tape = "";
    int fault = TextModel.fault(text);
    if (fault >= 0) {
      return -20 - fault;
    }
    m.rules.add(new Model.Told(purpose, day, text));
    return m.rules.size();
  }

  private long count(int what) {
    return switch (what) {
      case 0 -> m.hour;
      case 1 -> m.bores.size();
      case 2 -> m.bores.stream().filter(bore -> bore.open).count();
      case 3 -> m.houses.size();
      case 4 -> m.houses.stream().filter(house -> house[3] >= 0 && house[3] <= m.hour / 24).count();
      case 5 -> m.table.size();
      case 6 -> m.rules.size();
      case 7 -> tape.length();
      case 8 -> m.readings.size();
      case 11, 12, 13, 14, 15, 16 -> refused[what - 10];
      default -> -9;
    };
  }
}
