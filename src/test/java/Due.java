/** Counts the answers that are not the ones that are due. */
final class Due {
  static final long LONG = 4000000000000000000L;
  static final int COLD = 1000000000;
  private static int asked = 0;
  private static int wrong = 0;

  private Due() {
  }

  static void due(String call, long got, long want) {
    asked++;
    if (got != want) {
      wrong++;
      System.out.println(call + " answered " + got + ", due is " + want);
    }
  }

  /** Puts a text on THE TAPE, eight bytes a call. */
  static void type(RockHeat x, String text) {
    for (int from = 0; from < text.length(); from += 8) {
      int n = Math.min(8, text.length() - from);
      long bytes = 0;
      for (int i = 0; i < n; i++) {
        bytes |= (long) (text.charAt(from + i) & 255) << (8 * i);
      }
      due("feed of " + text, x.feed(n, bytes), from + n);
    }
  }

  /** A text told as a RULE: what rule() answers. */
  static int tell(RockHeat x, String text, int purpose, int day) {
    type(x, text);
    return x.rule(purpose, day);
  }

  static void end(String test) {
    System.out.println(test + ": " + asked + " answers, " + wrong + " not as due");
    if (wrong != 0) {
      System.exit(1);
    }
  }
}
