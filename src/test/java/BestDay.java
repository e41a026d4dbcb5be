/** The tank's best day worked out from the first hour on, with the whole way kept for each filling. */
final class BestDay {
  private BestDay() {
  }

  /** What is bought in 24 hours, and behind it the cost. */
  static long[] of(long[] needs, int[] prices, int crates, int size) {
    long[][] ways = new long[crates + 1][];
    ways[0] = new long[25];
    for (int hour = 0; hour < 24; hour++) {
      long[][] next = new long[crates + 1][];
      for (int held = 0; held <= crates; held++) {
        for (int then = 0; then <= crates; then++) {
          long bought = needs[hour] + (long) (then - held) * size;
          if (ways[held] != null && Math.abs(then - held) <= 3 && bought >= 0) {
            long[] way = ways[held].clone();
            way[hour] = bought;
            way[24] += bought * prices[hour] / 100;
            next[then] = better(next[then], way);
          }
        }
      }
      ways = next;
    }
    long[] best = null;
    for (long[] way : ways) {
      best = way == null ? best : better(best, way);
    }
    return best;
  }

  private static long[] better(long[] one, long[] other) {
    if (one == null || other[24] != one[24]) {
      return one == null || other[24] < one[24] ? other : one;
    }
    for (int i = 0; i < 24; i++) {
      if (one[i] != other[i]) {
        return one[i] < other[i] ? one : other;
      }
    }
    return one;
  }
}
