import java.lang.reflect.Method;
import java.util.Arrays;
import java.util.List;
import java.util.function.Supplier;

/** Calls by their names, each on an object of its own that has been made in one way. */
final class Calls {
  private static final int REFUSED = 10;
  private final Supplier<RockHeat> maker;

  Calls(Supplier<RockHeat> maker) {
    this.maker = maker;
  }

  /** A call that is taken: it answers so, and no refusal is counted. */
  void taken(long want, String name, long... v) {
    RockHeat x = maker.get();
    long[] before = World.counts(x);
    Sentence.due(told(name, v), answer(x, name, v), want);
    long[] after = World.counts(x);
    for (int number = 1; number <= 6; number++) {
      Sentence.due(told(name, v) + " counts no refusal " + number, after[REFUSED + number], before[REFUSED + number]);
    }
  }

  /** A call that only asks: it answers so, and leaves all as it was. */
  void asked(long want, String name, long... v) {
    RockHeat x = maker.get();
    RockHeat asItWas = maker.get();
    Sentence.due(told(name, v), answer(x, name, v), want);
    asItWas(told(name, v), x, asItWas, World.counts(asItWas));
  }

  /** A call that is refused: it is counted once, as what it is, and leaves all else as it was. */
  void refused(int number, String name, long... v) {
    RockHeat x = maker.get();
    RockHeat asItWas = maker.get();
    Sentence.due(told(name, v), answer(x, name, v), asAnswered(number, name));
    long[] counts = World.counts(asItWas);
    counts[REFUSED - number]++;
    asItWas(told(name, v), x, asItWas, counts);
  }

  private static void asItWas(String call, RockHeat x, RockHeat asItWas, long[] counts) {
    Sentence.due(call + " counts what it should", Arrays.equals(World.counts(x), counts) ? 1 : 0, 1);
    List<Long> got = World.answers(x);
    List<Long> want = World.answers(asItWas);
    for (int i = 0; i < want.size(); i++) {
      Sentence.due(call + " changes nothing, answer " + i, got.get(i), want.get(i));
    }
  }

  /** How a method answers a refusal of this number. */
  static long asAnswered(int number, String name) {
    if (method(name).getReturnType() == long.class) {
      return Due.LONG - number;
    }
    return name.equals("cold") ? Due.COLD - number : number;
  }

  static long answer(RockHeat x, String name, long... v) {
    Method method = method(name);
    Class<?>[] types = method.getParameterTypes();
    Object[] given = new Object[types.length];
    for (int i = 0; i < types.length; i++) {
      if (types[i] == boolean.class) {
        given[i] = v[i] != 0;
      } else if (types[i] == long.class) {
        given[i] = v[i];
      } else {
        given[i] = Math.toIntExact(v[i]);
      }
    }
    try {
      return ((Number) method.invoke(x, given)).longValue();
    } catch (ReflectiveOperationException e) {
      throw new IllegalStateException(told(name, v), e);
    }
  }

  private static Method method(String name) {
    for (Method method : RockHeat.class.getMethods()) {
      if (method.getName().equals(name)) {
        return method;
      }
    }
    throw new IllegalArgumentException(name);
  }

  private static String told(String name, long... v) {
    String numbers = Arrays.toString(v);
    return name + "(" + numbers.substring(1, numbers.length() - 1) + ")";
  }
}
