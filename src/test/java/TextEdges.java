/** The texts of part III and promises 19 to 21: the tape, rules and what they are worth. */
final class TextEdges {
  private static final int MOST = Integer.MAX_VALUE;
  private static final int LEAST = Integer.MIN_VALUE;
  private static final String LETTERS = "hdpcntrbf";
  private static final String DIGITS = "0123456789";
  private static final String SIXTY = "1+1+1+1+1+1+1+1+1+1+1+1+1+1+1+1+1+1+1+1+1+1+1+1+1+1+1+1+1+11";
  private static final Calls NEW = new Calls(RockHeat::new);
  private static final Calls BUSY = new Calls(World::busy);
  private static final Calls FULL = new Calls(World::full);
  private static final Calls LAST = new Calls(World::last);

  private TextEdges() {
  }

  static void all() {
    sixtyBytes();
    sums();
    terms();
    units();
    comparisons();
    held();
    brackets();
    faults();
    everyByte();
    letters();
    rulesFromDays();
    purposes();
    inForce();
    worthIsHeld();
    feed();
    rule();
    may();
  }

  private static void letters() {
    lettersOfTheHour();
    lettersOfTheBore();
    degreesAreCut();
  }

  /** A TEXT that can stand, and GIVE's worth of it for a BORE of 7 degrees in HOUR 0. */
  private static void worth(String text, int want) {
    RockHeat x = new RockHeat();
    x.bore(0, 2, 100, 0, 7);
    Sentence.due(text + " stands", Due.tell(x, text, World.GIVE, 0), 1);
    Sentence.due(text, x.may(0, World.GIVE), want);
  }

  private static void fault(String text, int place) {
    RockHeat x = new RockHeat();
    Sentence.due(text + " has a FAULT", Due.tell(x, text, World.GIVE, 0), -20 - place);
    Sentence.due(text + " is no RULE", x.count(6), 0);
  }

  private static void sixtyBytes() {
    Sentence.of("III", "TEXTS (60 bytes at most):");
    worth(SIXTY, 40);
    fault(SIXTY.substring(0, 59) + "+", 60);
    fault(SIXTY.substring(0, 59) + ")", 59);
    RockHeat x = World.full();
    Sentence.due("60 bytes", x.count(7), 60);
    Sentence.due("no more", x.feed(1, '1'), -6);
    Sentence.due("60 bytes still", x.count(7), 60);
    RockHeat many = new RockHeat();
    many.bore(0, 1, 100, 0, 0);
    for (int i = 1; i <= 30; i++) {
      String text = SIXTY.substring(0, 58) + (10 + i);
      Sentence.due("60 bytes of RULE " + i, Due.tell(many, text, World.GIVE, 0), i);
      Sentence.due("its worth", many.may(0, World.GIVE), 29 + 10 + i);
    }
  }

  private static void sums() {
    Sentence.of("III", "SUM: TERM { \"+\" TERM, \"-\" TERM };");
    worth("7", 7);
    worth("7+2", 9);
    worth("7-2", 5);
    worth("9-4-3", 2);
    worth("9-4+3", 8);
    worth("9-(4+3)", 2);
    worth("9-2*3", 3);
    worth("2*3-1", 5);
    fault("", 0);
    fault("+7", 0);
    fault("-7", 0);
    fault("7++2", 2);
    fault("7+", 2);
    fault("7-", 2);
  }

  private static void terms() {
    Sentence.of("III", "TERM: UNIT { \"*\" UNIT, \"/\" UNIT } (by 0: 0; from the left on);");
    worth("8/0", 0);
    worth("0/0", 0);
    worth("8/0+5", 5);
    worth("9/(2-2)*7+1", 1);
    worth("8/1", 8);
    worth("8/9", 0);
    worth("20/3*3", 18);
    worth("2*3/4", 1);
    worth("3/4*2", 0);
    worth("100/10/5", 2);
    worth("100/(10/5)", 50);
    worth("(0-8)/3+9", 7);
    worth("(0-8)/(0-3)", 2);
    fault("*7", 0);
    fault("/7", 0);
    fault("7*", 2);
    fault("7/", 2);
    fault("7*/2", 2);
  }

  private static void units() {
    Sentence.of("III", "UNIT: a number of 1 to 5 digits, a letter, \"(\" SUM \")\"");
    worth("0", 0);
    worth("9", 9);
    worth("12345", 12345);
    worth("99999", 99999);
    worth("00000", 0);
    worth("00019", 19);
    fault("123456", 5);
    fault("000000", 5);
    fault("1+123456", 7);
    fault("12345h", 5);
    worth("(7)", 7);
    worth("f", 7);
    worth("(f)", 7);
    fault("()", 1);
    fault("ff", 1);
    fault("f7", 1);
    fault("7f", 1);
    fault("(7)7", 3);
    fault("7(7)", 1);
    fault("(7)(7)", 3);
  }

  private static void comparisons() {
    Sentence.of("III", "or \"(\" SUM, one of \"<\", \"=\", \">\", SUM \")\": 1 if so, else 0.");
    String[] signs = {"<", "=", ">"};
    for (int i = 0; i < 3; i++) {
      worth("(1" + signs[i] + "2)*5", i == 0 ? 5 : 0);
      worth("(2" + signs[i] + "2)*5", i == 1 ? 5 : 0);
      worth("(3" + signs[i] + "2)*5", i == 2 ? 5 : 0);
      worth("(0-1" + signs[i] + "0)*5", i == 0 ? 5 : 0);
      worth("(0" + signs[i] + "0-1)*5", i == 2 ? 5 : 0);
      worth("(1+2*2" + signs[i] + "2*2+1)", i == 1 ? 1 : 0);
      worth("5+(1" + signs[i] + "2)", i == 0 ? 6 : 5);
      worth("5-(3" + signs[i] + "2)", i == 2 ? 4 : 5);
      fault("1" + signs[i] + "2", 1);
      fault("(1" + signs[i] + "2", 4);
      fault("(1" + signs[i], 3);
      fault("(1" + signs[i] + ")", 3);
      fault("(" + signs[i] + "2)", 1);
      fault("(1" + signs[i] + signs[i] + "2)", 3);
      fault("(1" + signs[i] + "2<3)", 4);
      fault("(1" + signs[i] + "2=3)", 4);
      fault("(1" + signs[i] + "2>3)", 4);
    }
  }

  private static void held() {
    Sentence.of("III", "Held within -1000000000 .. 1000000000 after each step.");
    worth("(10000*10000*10=10000*10000*10-1)*7", 0);
    worth("(10000*10000*10=10000*10000*10+1)*7", 7);
    worth("(10000*10000*10=10000*10000*11)*7", 7);
    worth("(10000*10000*10/10000=99999+1)*7", 7);
    worth("((0-10000)*10000*10=(0-10000)*10000*10+1)*7", 0);
    worth("((0-10000)*10000*10=(0-10000)*10000*10-1)*7", 7);
    worth("((0-10000)*10000*10=(0-10000)*10000*11)*7", 7);
    worth("((0-10000)*10000*10/10000=0-99999-1)*7", 7);
    worth("99999*99999/99999", 10000);
    worth("99999*99999+99999*99999-99999*99999", 0);
    worth("0-99999*99999-99999*99999+99999*99999+5", 5);
    worth("99999*99999*99999*99999*99999*99999/99999/99999", 0);
  }

  private static void brackets() {
    Sentence.of("III", "Brackets are 5 deep at most.");
    worth("(((((8)))))", 8);
    worth("(((((8)))))+(((((1)))))", 9);
    worth("(((((8=8)=1)=1)=1)=1)", 1);
    worth("(1>(1>(1>(1>(1>0)))))", 1);
    fault("((((((8))))))", 5);
    fault("((((((", 5);
    fault("1+(((((8)))))*((((((8", 19);
    fault("(1>(1>(1>(1>(1>(1>0))))))", 15);
    fault("(((((1+(1)))))", 7);
  }

  private static void faults() {
    Sentence.of("III", "FAULT: the place of the first byte that can not stand (the end, if something lacks; of a sixth bracket its own).");
    fault("", 0);
    fault("(", 1);
    fault("(((((", 5);
    fault("(((((8", 6);
    fault("(((((8))))", 10);
    fault("8)", 1);
    fault("(8))", 3);
    fault(")", 0);
    fault("8+8)+x", 3);
    fault("x+(", 0);
    fault("8+x+(", 2);
    fault("8 ", 1);
    fault(" 8", 0);
    fault("8\n", 1);
    fault("8.", 1);
    fault("((((((x", 5);
    fault("(((((x", 5);
    fault("123456+x", 5);
    fault(SIXTY.substring(0, 59) + "x", 59);
    fault("(".repeat(60), 5);
  }

  /** Each byte ahead of any other, and behind all that another can stand behind. */
  private static void everyByte() {
    Sentence.of("III", "LETTERS (no others can stand):");
    for (int sign = 0; sign < 256; sign++) {
      boolean isUnit = (LETTERS + DIGITS).indexOf(sign) >= 0;
      boolean isDigit = DIGITS.indexOf(sign) >= 0;
      boolean goesOn = "+-*/".indexOf(sign) >= 0;
      boolean compares = "<=>".indexOf(sign) >= 0;
      boolean closes = sign == ')';
      byteBehind("", sign, isUnit, sign == '(');
      byteBehind("f", sign, false, goesOn);
      byteBehind("1", sign, isDigit, goesOn);
      byteBehind("12345", sign, false, goesOn);
      byteBehind("f+", sign, isUnit, sign == '(');
      byteBehind("f/", sign, isUnit, sign == '(');
      byteBehind("(", sign, false, isUnit || sign == '(');
      byteBehind("(f", sign, closes, goesOn || compares);
      byteBehind("(f<", sign, false, isUnit || sign == '(');
      byteBehind("(f<f", sign, closes, goesOn);
      byteBehind("(f)", sign, false, goesOn);
    }
  }

  private static void byteBehind(String start, int sign, boolean isText, boolean isStart) {
    RockHeat x = new RockHeat();
    Due.type(x, start);
    x.feed(1, sign);
    int due = isText ? 1 : isStart ? -20 - start.length() - 1 : -20 - start.length();
    Sentence.due("byte " + sign + " behind \"" + start + "\"", x.rule(World.GIVE, 0), due);
  }

  private static void tellWorth(RockHeat x, String text, int... due) {
    Sentence.due(text + " stands", Due.tell(x, text, World.TAKE, x.count(0) / 24) > 0 ? 1 : 0, 1);
    for (int b = 0; b < due.length; b++) {
      Sentence.due(text + " of BORE " + b, x.may(b, World.TAKE), due[b]);
    }
  }

  private static void lettersOfTheHour() {
    Sentence.of("III", "h hour of the day, d DAY, p PRICE, c COLD, n NEED,");
    RockHeat x = new RockHeat();
    x.bore(0, 1, 100, 0, 0);
    tellWorth(x, "h", 0);
    tellWorth(x, "d", 0);
    tellWorth(x, "p", 10);
    tellWorth(x, "c", 0);
    tellWorth(x, "n", 0);
    x.price(23, 999);
    x.price(0, 0);
    x.cold(0, -40);
    x.cold(1, 40);
    for (int i = 0; i < 20; i++) {
      x.house(9999, 999, i == 0 ? 1 << 23 : World.ALWAYS);
      x.join(i, 0);
    }
    x.hours(22);
    tellWorth(x, "n/100", (19 * 64944 + 32472) / 100);
    x.hours(1);
    tellWorth(x, "h", 23);
    tellWorth(x, "d", 0);
    tellWorth(x, "p", 999);
    tellWorth(x, "c+50", 10);
    tellWorth(x, "n/100", 20 * 64944 / 100);
    x.hours(1);
    tellWorth(x, "h", 0);
    tellWorth(x, "d", 1);
    tellWorth(x, "p", 0);
    tellWorth(x, "c", 40);
    tellWorth(x, "n", 99999);
    x.hours(8000 - 24);
    tellWorth(x, "d*100+h", 33308);
  }

  private static void lettersOfTheBore() {
    Sentence.of("III", "b its number, f what it was told at first, in degrees.");
    RockHeat x = new RockHeat();
    for (int i = 0; i < 8; i++) {
      x.bore(0, 1, 100, 0, i == 7 ? 99 : i);
    }
    tellWorth(x, "b", 0, 1, 2, 3, 4, 5, 6, 7);
    tellWorth(x, "f", 0, 1, 2, 3, 4, 5, 6, 99);
    x.share(999);
    x.hours(20);
    tellWorth(x, "(t>1)*(t<99)*1000+b", 1000, 1001, 1002, 1003, 1004, 1005, 1006, 1007);
    tellWorth(x, "f", 0, 1, 2, 3, 4, 5, 6, 99);
  }

  private static void degreesAreCut() {
    Sentence.of("III", "t WARMTH of ring 0 of a BORE in degrees (thousandths by 1000), r WARMTH of its last ring likewise,");
    int[] suns = {0, 99, 99899, 99900, 99999};
    for (int sun : suns) {
      RockHeat x = World.warmed(2, 100, 9, sun);
      Sentence.due("WARMTH", x.warmth(0, 0), 9000 + sun / 100);
      tellWorth(x, "t*100+r", 909);
    }
    RockHeat x = World.warmed(2, 100, 9, 99999);
    x.sun(1, 1);
    x.hours(1);
    tellWorth(x, "t*100+r", 1009);
    x.soil(0, 999, 0);
    x.hours(1);
    // 9990 go on: 9900 thousandths of ring 0, 9099 of ring 1.
    tellWorth(x, "t*100+r", 909);
    RockHeat y = World.belowZero();
    Sentence.due("-49", y.warmth(0, 0), -49);
    tellWorth(y, "t+5", 5);
    tellWorth(y, "r+5", 5);
    RockHeat z = World.cooled(1, 100, 9, 1);
    tellWorth(z, "t", 8);
    tellWorth(z, "r", 8);
    RockHeat most = new RockHeat();
    most.bore(0, 3, 100, 0, 99);
    tellWorth(most, "t", 99);
    tellWorth(most, "r", 99);
  }

  private static void rulesFromDays() {
    Sentence.of("III", "RULES (30 at most): a TEXT for a PURPOSE from a DAY on (now or later):");
    RockHeat x = new RockHeat();
    x.bore(0, 1, 100, 0, 10);
    x.hours(24);
    Sentence.due("ahead of now", Due.tell(x, "1", World.GIVE, 0), -4);
    Sentence.due("now", x.rule(World.GIVE, 1), 1);
    Sentence.due("the last DAY", Due.tell(x, "2", World.GIVE, 333), 2);
    for (int i = 3; i <= 30; i++) {
      Sentence.due("later", Due.tell(x, "" + i, World.GIVE, i), i);
    }
    Sentence.due("a thirty-first", Due.tell(x, "31", World.GIVE, 2), -6);
    Sentence.due("thirty", x.count(6), 30);
    x.hours(24 * 333 - 25);
    Sentence.due("the thirtieth is in force", x.may(0, World.GIVE), 30);
    x.hours(1);
    Sentence.due("on the last DAY the second", x.may(0, World.GIVE), 2);
  }

  private static void purposes() {
    Sentence.of("III", "0 GIVE: how much a BORE may give in an HOUR; 1 TAKE: how much it takes of sun.");
    RockHeat x = World.needing(1000);
    x.bore(0, 1, 100, 0, 10);
    Due.tell(x, "30", 0, 0);
    Due.tell(x, "700", 1, 0);
    x.sun(0, 1000);
    x.hours(1);
    Sentence.due("given", x.told(2), 30);
    Sentence.due("taken", x.told(0), 700);
    Sentence.due("GIVE", x.may(0, 0), 30);
    Sentence.due("TAKE", x.may(0, 1), 700);
  }

  private static void inForce() {
    Sentence.of("III", "In force on a DAY: the latest DAY not behind it, of several the one told last; without one 0.");
    RockHeat x = new RockHeat();
    x.bore(0, 1, 100, 0, 10);
    Sentence.due("without one", x.may(0, 0), 0);
    Due.tell(x, "11", 0, 1);
    Due.tell(x, "31", 0, 3);
    Due.tell(x, "21", 0, 2);
    Due.tell(x, "12", 0, 1);
    Due.tell(x, "9", 1, 0);
    int[] due = {0, 12, 21, 31, 31};
    for (int day = 0; day < 5; day++) {
      Sentence.due("the first HOUR of DAY " + day, x.may(0, 0), due[day]);
      x.hours(23);
      Sentence.due("the last HOUR of DAY " + day, x.may(0, 0), due[day]);
      Sentence.due("the other PURPOSE", x.may(0, 1), 9);
      x.hours(1);
    }
    inForceAsHoursGoBy();
    Due.tell(x, "55", 0, 6);
    Due.tell(x, "51", 0, 5);
    Sentence.due("the later DAY is not yet", x.may(0, 0), 51);
    Due.tell(x, "0", 0, 5);
    Sentence.due("of several the one told last", x.may(0, 0), 0);
  }

  private static void inForceAsHoursGoBy() {
    RockHeat x = World.needing(1000);
    x.bore(0, 1, 100, 0, 10);
    x.sun(0, 1000);
    x.sun(23, 1000);
    Due.tell(x, "100", World.TAKE, 1);
    Due.tell(x, "3", World.GIVE, 1);
    Due.tell(x, "200", World.TAKE, 3);
    Due.tell(x, "5", World.GIVE, 3);
    int[] taken = {0, 200, 400, 800, 1200};
    int[] given = {0, 72, 144, 264, 384};
    for (int day = 0; day < taken.length; day++) {
      x.hours(24);
      Sentence.due("TAKEN by the end of DAY " + day, x.told(0), taken[day]);
      Sentence.due("GIVEN by the end of DAY " + day, x.told(2), given[day]);
    }
  }

  private static void worthIsHeld() {
    Sentence.of("III", "(0 at least, 99999 at most.)");
    worth("0-1", 0);
    worth("0", 0);
    worth("1", 1);
    worth("99999-1", 99998);
    worth("99999", 99999);
    worth("99999+1", 99999);
    worth("99999*99999", 99999);
    worth("0-99999*99999", 0);
    RockHeat x = World.needing(100);
    x.bore(0, 1, 100, 0, 10);
    x.sun(0, 100);
    Due.tell(x, "0-50", 0, 0);
    Due.tell(x, "0-50", 1, 0);
    x.hours(1);
    Sentence.due("nothing is given or taken below 0", x.heat(0, 0), 1000000);
    Sentence.due("all is wasted", x.told(1), 100);
    Sentence.due("all is bought", x.told(5), 100);
    for (int i = 1; i < 3; i++) {
      x.house(9999, 999, World.ALWAYS);
      x.join(i, 0);
    }
    x.cold(0, -40);
    Due.tell(x, "99999*2", 0, 0);
    x.hours(1);
    Sentence.due("99999 is given of " + x.need(1), x.told(2), 99999);
  }

  private static void feed() {
    Sentence.of("Promise 19", "n (1 .. 8) bytes come, the lowest first: how many THE TAPE has.");
    NEW.taken(1, "feed", 1, '1');
    NEW.taken(8, "feed", 8, -1);
    BUSY.taken(4, "feed", 1, 0);
    BUSY.taken(11, "feed", 8, 0);
    bytes();
    Sentence.of("Promise 19", "-4;");
    BUSY.refused(-4, "feed", 0, '1');
    BUSY.refused(-4, "feed", -1, '1');
    BUSY.refused(-4, "feed", LEAST, -1);
    FULL.refused(-4, "feed", 0, '1');
    Sentence.of("Promise 19", "-6 (n; above 60).");
    NEW.refused(-6, "feed", 9, '1');
    BUSY.refused(-6, "feed", 9, '1');
    BUSY.refused(-6, "feed", MOST, '1');
    FULL.refused(-6, "feed", 1, '1');
    FULL.refused(-6, "feed", 8, '1');
    RockHeat x = new RockHeat();
    Due.type(x, SIXTY.substring(0, 53));
    Sentence.due("53 and 8", x.feed(8, 0), -6);
    Sentence.due("none of them came", x.count(7), 53);
    Sentence.due("53 and 7", x.feed(7, 0x2B312B312B312BL), 60);
    Sentence.due("60 and 1", x.feed(1, 0), -6);
    Sentence.due("what came is what was fed", x.rule(0, 0), -20 - 60);
  }

  private static void bytes() {
    for (int n = 1; n <= 8; n++) {
      RockHeat x = new RockHeat();
      x.bore(0, 1, 100, 0, 0);
      // Behind n bytes stand others that do not come: 8+7+6+5, the lowest first, and x.
      long bytes = 0x352B362B372B38L | (long) 'x' << 56;
      Sentence.due("n " + n, x.feed(n, bytes), n);
      int due = n == 8 ? -27 : n % 2 == 0 ? -20 - n : 1;
      Sentence.due("as a RULE, n " + n, x.rule(0, 0), due);
      Sentence.due("its worth, n " + n, x.may(0, 0), due < 0 ? 0 : new int[] {8, 15, 21, 26}[n / 2]);
    }
    for (int place = 0; place < 8; place++) {
      RockHeat x = new RockHeat();
      long others = 0x2B312B312B312B31L & ~(255L << 8 * place);
      x.feed(8, others | 177L << 8 * place);
      Sentence.due("byte 177 at " + place, x.rule(0, 0), -20 - place);
    }
  }

  private static void rule() {
    Sentence.of("Promise 20", "THE TAPE becomes a RULE, and has none: how many were told;");
    BUSY.taken(3, "rule", 0, 1);
    BUSY.taken(3, "rule", 1, 333);
    LAST.taken(-20, "rule", 0, 333);
    RockHeat x = World.busy();
    x.rule(0, 1);
    Sentence.due("the tape has none", x.count(7), 0);
    Sentence.due("three RULES", x.count(6), 3);
    Sentence.due("h*9 in hour 6", x.may(0, 0), 54);
    Sentence.due("it was used up", x.rule(0, 1), -20);
    Sentence.of("Promise 20", "or, if it has a FAULT, -20 less its place (nothing is counted; THE TAPE has none, too).");
    faultsAsRules();
    ruleRefusals();
  }

  private static void faultsAsRules() {
    NEW.taken(-20, "rule", 0, 0);
    NEW.taken(-20, "rule", 1, 333);
    RockHeat x = World.busy();
    x.feed(1, '*');
    long[] before = World.counts(x);
    Sentence.due("the place is the end, 4", x.rule(0, 1), -24);
    long[] after = World.counts(x);
    for (int what = 0; what < before.length; what++) {
      Sentence.due("count " + what, after[what], what == 7 ? 0 : before[what]);
    }
    Sentence.due("none is told", Due.tell(x, "5", 0, 1), 3);
    fault("x", 0);
    fault(SIXTY.substring(0, 59) + "+", 60);
  }

  private static void ruleRefusals() {
    Sentence.of("Promise 20", "-2;");
    BUSY.refused(-2, "rule", 2, 1);
    BUSY.refused(-2, "rule", -1, 1);
    BUSY.refused(-2, "rule", 2, 0);
    BUSY.refused(-2, "rule", LEAST, LEAST);
    BUSY.refused(-2, "rule", MOST, MOST);
    FULL.refused(-2, "rule", 2, 0);
    Sentence.of("Promise 20", "-4 a DAY ahead of now;");
    BUSY.refused(-4, "rule", 0, 0);
    BUSY.refused(-4, "rule", 1, -1);
    BUSY.refused(-4, "rule", 1, LEAST);
    FULL.refused(-4, "rule", 0, -1);
    LAST.refused(-4, "rule", 0, 332);
    Sentence.of("Promise 20", "-6 (above 333, 30, too).");
    BUSY.refused(-6, "rule", 0, 334);
    BUSY.refused(-6, "rule", 1, MOST);
    LAST.refused(-6, "rule", 0, 334);
    FULL.refused(-6, "rule", 0, 0);
    FULL.refused(-6, "rule", 1, 333);
    FULL.refused(-6, "rule", 1, 334);
    tapeStays();
  }

  private static void tapeStays() {
    Sentence.of("Promise 20", "(Refused: THE TAPE stays.)");
    RockHeat x = World.full();
    Sentence.due("no room", x.rule(0, 0), -6);
    Sentence.due("the tape stays", x.count(7), 60);
    RockHeat y = new RockHeat();
    Due.type(y, "7*");
    Sentence.due("refused ahead of its FAULT", y.rule(0, 334), -6);
    Sentence.due("goes on where it was", y.feed(1, '6'), 3);
    y.bore(0, 1, 100, 0, 0);
    Sentence.due("is a RULE now", y.rule(0, 0), 1);
    Sentence.due("7*6", y.may(0, 0), 42);
  }

  private static void may() {
    Sentence.of("Promise 21", "GIVE's, TAKE's worth of a BORE in the HOUR that goes by next.");
    BUSY.asked(World.busy().may(0, 0), "may", 0, 0);
    BUSY.asked(World.busy().may(2, 1), "may", 2, 1);
    FULL.asked(100, "may", 7, 0);
    FULL.asked(101, "may", 7, 1);
    LAST.asked(30, "may", 0, 0);
    LAST.asked(0, "may", 0, 1);
    RockHeat x = new RockHeat();
    x.bore(0, 1, 100, 0, 0);
    Due.tell(x, "h+1", 0, 0);
    for (int hour = 0; hour < 25; hour++) {
      Sentence.due("HOUR " + hour, x.may(0, 0), hour % 24 + 1);
      x.hours(1);
    }
    x.open(0, false);
    Sentence.due("of a shut and frozen one, too", x.may(0, 0) * x.frozen(0), 2);
    Sentence.of("Promise 21", "-1;");
    NEW.refused(-1, "may", 0, 0);
    BUSY.refused(-1, "may", 3, 0);
    BUSY.refused(-1, "may", -1, 0);
    BUSY.refused(-1, "may", 3, 2);
    BUSY.refused(-1, "may", MOST, MOST);
    BUSY.refused(-1, "may", LEAST, LEAST);
    FULL.refused(-1, "may", 8, 1);
    Sentence.of("Promise 21", "-2.");
    BUSY.refused(-2, "may", 0, 2);
    BUSY.refused(-2, "may", 2, -1);
    BUSY.refused(-2, "may", 0, LEAST);
    BUSY.refused(-2, "may", 0, MOST);
  }
}
