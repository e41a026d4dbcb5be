import java.lang.reflect.Constructor;
import java.lang.reflect.Field;
import java.lang.reflect.Method;
import java.lang.reflect.Modifier;
import java.nio.file.Files;
import java.nio.file.Path;
import java.util.ArrayList;
import java.util.Arrays;
import java.util.List;
import java.util.TreeSet;
import java.util.regex.Matcher;
import java.util.regex.Pattern;

/** The face of the document and those rules of LANGUAGE.md that can be looked up. */
public final class LanguageTest {
  private static final String FACE = """
      int hours(int)
      int bore(int,int,int,int,int)
      int soil(int,int,int)
      int share(int)
      int open(int,boolean)
      long heat(int,int)
      long warmth(int,int)
      int frozen(int)
      int house(int,int,int)
      int join(int,int)
      int cold(int,int)
      long need(int)
      int point(int,int)
      int untable()
      int lift(int)
      int price(int,int)
      int sun(int,int)
      int feed(int,long)
      int rule(int,int)
      int may(int,int)
      long told(int)
      long given(int)
      long ahead(int,int,int)
      int few(int,int)
      long takenFrom(int,int,int)
      int tank(int,int)
      long best(int)
      int reading(int,int)
      long wrong(int)
      long leak(int)
      int count(int)
      """;

  private LanguageTest() {
  }

  public static void main(String[] args) throws Exception {
    face();
    classes();
    words(source());
    methods(source());
    Due.end("LanguageTest");
  }

  private static String source() throws Exception {
    String text = Files.readString(Path.of("src/main/java/RockHeat.java"));
    // Comments and what stands in quotes bind nothing.
    return text.replaceAll("(?s)/\\*.*?\\*/", " ").replaceAll("//[^\n]*", " ")
        .replaceAll("\"(\\\\.|[^\"\\\\])*\"", "\"\"").replaceAll("'(\\\\.|[^'\\\\])'", "' '");
  }

  private static void face() {
    TreeSet<String> got = new TreeSet<>();
    for (Method method : RockHeat.class.getDeclaredMethods()) {
      if (!Modifier.isPrivate(method.getModifiers())) {
        String types = Arrays.toString(Arrays.stream(method.getParameterTypes()).map(Class::getName).toArray());
        got.add(method.getReturnType() + " " + method.getName() + "("
            + types.substring(1, types.length() - 1).replace(" ", "") + ")");
        none("a member of the face is public: " + method, !Modifier.isPublic(method.getModifiers()));
      }
    }
    TreeSet<String> want = new TreeSet<>(Arrays.asList(FACE.trim().split("\n")));
    none("face " + got, !got.equals(want));
    for (Field field : RockHeat.class.getDeclaredFields()) {
      none("rule 1: " + field, !Modifier.isPrivate(field.getModifiers()));
    }
    Constructor<?>[] made = RockHeat.class.getDeclaredConstructors();
    none("one constructor", made.length != 1 || made[0].getParameterCount() != 0
        || !Modifier.isPublic(made[0].getModifiers()));
    none("rule 1: final", !Modifier.isFinal(RockHeat.class.getModifiers()));
  }

  private static void classes() {
    List<Class<?>> all = new ArrayList<>(Arrays.asList(RockHeat.class.getDeclaredClasses()));
    all.add(RockHeat.class);
    none("rule 11: classes " + all.size(), all.size() > 12);
    TreeSet<String> open = new TreeSet<>();
    for (Method method : RockHeat.class.getDeclaredMethods()) {
      if (Modifier.isPublic(method.getModifiers())) {
        open.add(method.getName());
      }
    }
    for (Class<?> one : all) {
      none("rule 2: static " + one, one != RockHeat.class && !Modifier.isStatic(one.getModifiers()));
      none("rule 1: " + one, one != RockHeat.class && (Modifier.isPublic(one.getModifiers())
          || Modifier.isProtected(one.getModifiers())));
      int fields = 0;
      for (Field field : one.getDeclaredFields()) {
        boolean isStatic = Modifier.isStatic(field.getModifiers());
        fields += isStatic ? 0 : 1;
        none("rule 5: " + field, isStatic && !Modifier.isFinal(field.getModifiers()));
      }
      none("rule 11: fields of " + one + ": " + fields, fields > 20);
      for (Method method : one.getDeclaredMethods()) {
        none("rule 11: " + method, method.getParameterCount() > 7);
        none("rule 1: name of " + method, !Modifier.isPublic(method.getModifiers()) && open.contains(method.getName()));
      }
    }
  }

  private static void words(String source) {
    String[] forbidden = {"\\bthrow", "\\btry\\b", "\\bcatch\\b", "\\bfinally\\b", "\\bsynchronized\\b", "\\bassert\\b",
        "->", "::", "Exact\\b", "\\bpackage\\b", "\\bhashCode\\b", "\\btoString\\b", "\\bException\\b", "\\bObject\\b",
        "\\bvar\\b", "_VALUE\\b", "\\bfloat\\b", "\\bdouble\\b", "@", "\\bSystem\\b", "\\bIterator\\b"};
    for (String word : forbidden) {
      none("a word that can not stand: " + word, Pattern.compile(word).matcher(source).find());
    }
    Matcher imports = Pattern.compile("import ([^;]*);").matcher(source);
    while (imports.find()) {
      none("rule 4: " + imports.group(1), !List.of("java.util.ArrayList", "java.util.List", "java.util.Arrays")
          .contains(imports.group(1)));
    }
    Matcher maths = Pattern.compile("\\b(Math|Integer|Long)\\.(\\w+)").matcher(source);
    while (maths.find()) {
      none("rule 4: " + maths.group(), !List.of("max", "min", "abs", "floorMod", "floorDiv", "bitCount", "compare")
          .contains(maths.group(2)));
    }
    for (char sign : source.toCharArray()) {
      none("rule 4: a sign", sign > 126);
    }
  }

  /** Rule 11: a method begins at four or eight blanks and ends at the same. */
  private static void methods(String source) {
    Matcher method = Pattern.compile("(?m)^( {4}| {8})(?! |if|for|while|switch)[\\w<>\\[\\] ]+\\([^)]*\\) \\{$").matcher(source);
    int found = 0;
    while (method.find()) {
      found++;
      int end = source.indexOf("\n" + method.group(1) + "}", method.start());
      long lines = source.substring(method.start(), end).lines().count();
      none("rule 11: " + lines + " lines of " + method.group().trim(), lines > 60);
    }
    none("methods are found: " + found, found < 90);
  }

  private static void none(String fault, boolean there) {
    Due.due(fault, there ? 1 : 0, 0);
  }
}
