/** A second reading of TEXTS: whether one can stand, where its FAULT is, and its worth, straight from its signs. */
final class TextModel {
  private final String text;
  private final long[] letters;
  private int at = 0;
  private boolean stands = true;

  private TextModel(String text, long[] letters) {
    this.text = text;
    this.letters = letters;
  }

  /** The first sign behind which no ending makes a TEXT of it; the end, if something lacks; -1 without a FAULT. */
  static int fault(String text) {
    for (int i = 1; i <= text.length(); i++) {
      if (!canGoOn(text.substring(0, i))) {
        return i - 1;
      }
    }
    return isText(text) ? -1 : text.length();
  }

  static boolean isText(String text) {
    TextModel model = new TextModel(text, new long[9]);
    model.sum(0);
    return model.stands && model.at == text.length();
  }

  /** Letters in the order h d p c n t r b f. */
  static long worth(String text, long[] letters) {
    return new TextModel(text, letters).sum(0);
  }

  private static boolean canGoOn(String start) {
    for (String unit : new String[] {"", "1"}) {
      String closed = start + unit;
      for (int brackets = 0; brackets <= 5; brackets++) {
        if (isText(closed)) {
          return true;
        }
        closed += ")";
      }
    }
    return false;
  }

  private char sign() {
    return at < text.length() ? text.charAt(at) : '$';
  }

  private boolean skip(char sign) {
    if (sign() == sign) {
      at++;
      return true;
    }
    return false;
  }

  private static long held(long v) {
    return Math.max(-1000000000L, Math.min(1000000000L, v));
  }

  private long sum(int depth) {
    long v = term(depth);
    while (stands) {
      if (skip('+')) {
        v = held(v + term(depth));
      } else if (skip('-')) {
        v = held(v - term(depth));
      } else {
        break;
      }
    }
    return v;
  }

  private long term(int depth) {
    long v = unit(depth);
    while (stands) {
      if (skip('*')) {
        v = held(v * unit(depth));
      } else if (skip('/')) {
        long by = unit(depth);
        v = by == 0 ? 0 : v / by;
      } else {
        break;
      }
    }
    return v;
  }

  private long unit(int depth) {
    int letter = "hdpcntrbf".indexOf(sign());
    if (letter >= 0) {
      at++;
      return letters[letter];
    }
    int from = at;
    while (at < from + 5 && "0123456789".indexOf(sign()) >= 0) {
      at++;
    }
    if (at > from) {
      return Long.parseLong(text.substring(from, at));
    }
    if (depth == 5 || !skip('(')) {
      stands = false;
      return 0;
    }
    long v = sum(depth + 1);
    if (skip('<')) {
      v = v < sum(depth + 1) ? 1 : 0;
    } else if (skip('=')) {
      v = v == sum(depth + 1) ? 1 : 0;
    } else if (skip('>')) {
      v = v > sum(depth + 1) ? 1 : 0;
    }
    stands = stands && skip(')');
    return v;
  }
}
