import java.util.Arrays;
import java.util.Random;

/** Whole runs of 512 calls by chance (of seeds written here), taken and refused ones mixed, against the model's book. */
public final class BookTest {
  /** A method, how often it is called, and the least and greatest of each number that it is given. */
  private record Kind(String name, int often, long... bounds) {
  }

  private static final Kind[] KINDS = {
    new Kind("hours", 5, 1, 30), new Kind("bore", 4, 0, 9999, 1, 8, 100, 9999, 0, 999, 0, 99),
    new Kind("soil", 4, 0, 7, 0, 999, 0, 100), new Kind("share", 2, 0, 999), new Kind("open", 3, 0, 7, 0, 1),
    new Kind("heat", 4, 0, 7, 0, 7), new Kind("warmth", 4, 0, 7, 0, 7), new Kind("frozen", 2, 0, 7),
    new Kind("house", 3, 0, 9999, 0, 999, 0, 16777215), new Kind("join", 4, 0, 19, 0, 333), new Kind("cold", 3, 0, 11, -40, 40),
    new Kind("need", 2, 0, 9999), new Kind("point", 3, -20, 99, 100, 999), new Kind("untable", 1),
    new Kind("lift", 3, -100000, 200000), new Kind("price", 3, 0, 23, 0, 999), new Kind("sun", 4, 0, 23, 0, 99999),
    new Kind("feed", 3, 1, 8, 0, 0), new Kind("rule", 3, 0, 1, 0, 333), new Kind("may", 3, 0, 7, 0, 1),
    new Kind("told", 5, 0, 10), new Kind("given", 2, 0, 7), new Kind("ahead", 3, 1, 500, 0, 255, 0, 2),
    new Kind("few", 1, 1, 100, 0, 1000000000), new Kind("takenFrom", 2, 0, 7, 0, 7, 1, 500), new Kind("tank", 2, 0, 9, 1, 9999),
    new Kind("best", 3, 0, 24), new Kind("reading", 3, 0, 7, -100000, 200000), new Kind("wrong", 3, 0, 19),
    new Kind("leak", 2, 0, 7), new Kind("count", 4, 0, 17),
  };
  private static final String[] TEXTS = {
    "n", "n/2", "(t>f)*n", "1500-r*90+b*10", "99999", "h*40+d*7", "(c<5)*n+(c=5)*50+p", "n/0+300", "((((((1", "1+", "5x", "",
    "(((((n)))))", "123456", "(1<2<3)", "99999*99999/9", "(b=2)*n+(b<2)*n/3", "t*r*5-f",
  };

  private final Random chance;
  private final RockHeat x = new RockHeat();
  private final Book book = new Book();
  private final String run;
  private int calls = 0;

  private BookTest(int seed) {
    chance = new Random(seed);
    run = "run " + seed + ", call ";
  }

  public static void main(String[] args) {
    for (int seed = 0; seed < 150; seed++) {
      new BookTest(seed).play();
    }
    late();
    Due.end("BookTest");
  }

  private void play() {
    int all = 0;
    for (Kind kind : KINDS) {
      all += kind.often();
    }
    while (calls < 460) {
      int i = 0;
      for (int at = chance.nextInt(all); at >= KINDS[i].often(); i++) {
        at -= KINDS[i].often();
      }
      play(KINDS[i]);
    }
    end();
  }

  private void play(Kind kind) {
    long[] v = new long[kind.bounds().length / 2];
    for (int i = 0; i < v.length; i++) {
      v[i] = number(kind.bounds()[2 * i], kind.bounds()[2 * i + 1]);
    }
    switch (kind.name()) {
      case "feed" -> v[1] = chance.nextLong();
      case "open" -> v[1] &= 1;
      case "few" -> v[0] = v[0] > 6 && v[0] <= 100 && chance.nextInt(20) > 0 ? 1 + v[0] % 6 : v[0];
      case "rule" -> {
        // What feed() left stays at times: then it is mostly a FAULT.
        if (chance.nextInt(8) > 0) {
          call("rule", 0, book.hour() / 24);
          write(TEXTS[chance.nextInt(TEXTS.length)]);
        }
        v[1] = soon(v[1]);
      }
      case "join" -> v[1] = soon(v[1]);
      case "ahead", "takenFrom" -> {
        int n = kind.name().equals("ahead") ? 0 : 2;
        v[n] = v[n] > 20 && v[n] <= 500 && chance.nextInt(8) > 0 ? 1 + v[n] % 20 : v[n];
      }
      case "bore" -> v[0] = chance.nextInt(3) > 0 ? 4000 + v[0] % 12 * 100 + v[0] % 7 : v[0];
      default -> { }
    }
    if (v.length > 0 && isOfBore(kind) && chance.nextInt(6) > 0 && book.bores() > 0) {
      v[0] = chance.nextInt(book.bores());
    }
    if (kind.name().equals("ahead") && chance.nextInt(6) > 0) {
      v[1] = chance.nextInt(1 << book.bores());
    }
    call(kind.name(), v);
  }

  private static boolean isOfBore(Kind kind) {
    return kind.bounds()[0] == 0 && kind.bounds()[1] == 7;
  }

  /** A DAY about now, so that what is told for it comes to be. */
  private long soon(long day) {
    return chance.nextInt(6) == 0 ? day : book.hour() / 24 + chance.nextInt(4) - (chance.nextInt(5) == 0 ? 1 : 0);
  }

  private long number(long least, long most) {
    return switch (chance.nextInt(30)) {
      case 0 -> least - 1;
      case 1 -> most + 1;
      case 2, 3 -> least;
      case 4, 5 -> most;
      case 6 -> chance.nextInt(4) == 0 ? chance.nextInt() : least;
      default -> least + chance.nextInt((int) (most - least) + 1);
    };
  }

  private void write(String text) {
    for (int from = 0; from < text.length(); from += 8) {
      int n = Math.min(8, text.length() - from);
      long bytes = 0;
      for (int i = n - 1; i >= 0; i--) {
        bytes = bytes * 256 + text.charAt(from + i);
      }
      call("feed", n, bytes);
    }
  }

  private void call(String name, long... v) {
    calls++;
    String told = run + calls + ": " + name + Arrays.toString(v);
    Due.due(told, Calls.answer(x, name, v), book.answer(name, v));
  }

  private void end() {
    for (int what = 0; what <= 10; what++) {
      call("told", what);
    }
    for (int what = -1; what <= 17; what++) {
      call("count", what);
    }
    for (int b = 0; b < 8; b++) {
      call("given", b);
      call("heat", b, 0);
    }
  }

  /** The last HOURS there are, and what still can be told in them. */
  private static void late() {
    for (int seed = 1000; seed < 1004; seed++) {
      BookTest one = new BookTest(seed);
      one.call("bore", 0, 3, 200, 10, 12);
      one.call("bore", 4, 2, 300, 0, 9);
      one.call("soil", 0, 120, 9);
      one.call("soil", 1, 80, 3);
      one.call("share", 150);
      one.call("sun", 11, 2500);
      one.call("house", 90, 9, 16711680);
      one.call("join", 0, 332 - seed % 2);
      one.write("n");
      one.call("rule", 0, 300 + seed % 3);
      one.write("900-h*9");
      one.call("rule", 1, 331);
      one.call("hours", 7990 + seed % 4);
      one.play();
    }
  }
}
