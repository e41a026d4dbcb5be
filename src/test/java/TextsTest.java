/** Promises 19 to 21: the tape, rules and what they are worth. */
public final class TextsTest {
  public static void main(String[] args) {
    feed();
    faults();
    worths();
    letters();
    byWarmth();
    inForce();
    refusals();
    mayRefusals();
    thirtyRules();
    Due.end("TextsTest");
  }

  private static void feed() {
    RockHeat x = new RockHeat();
    Due.due("19: n 0", x.feed(0, 49), -4);
    Due.due("19: n -1", x.feed(-1, 49), -4);
    Due.due("19: n 9", x.feed(9, 49), -6);
    Due.due("19: only n bytes come", x.feed(1, 0x7878787831L), 1);
    Due.due("20: 1", x.rule(0, 0), 1);
    x.bore(0, 1, 100, 0, 1);
    Due.due("21: 1", x.may(0, 0), 1);
    for (int i = 1; i <= 7; i++) {
      Due.due("19: bytes", x.feed(8, 0x2B312B312B312B31L), 8 * i);
    }
    Due.due("19: 56 and 5", x.feed(5, 0), -6);
    Due.due("32: bytes", x.count(7), 56);
    Due.due("19: 56 and 4", x.feed(4, 0x312B312BL << 8 | 0x31L), 60);
    Due.due("19: 61", x.feed(1, 49), -6);
    Due.due("19: below ahead of room", x.feed(0, 49), -4);
    Due.due("20: ends with a sign", x.rule(0, 0), -20 - 60);
    Due.due("32: none", x.count(7), 0);
    Due.due("20: nothing counted", x.count(6), 1);
    Due.due("20: all 60 bytes", Due.tell(x, "1+1+1+1+1+1+1+1+1+1+1+1+1+1+1+1+1+1+1+1+1+1+1+1+1+1+1+1+1+11", 0, 0), 2);
    Due.due("21: the sum", x.may(0, 0), 40);
    Due.due("32: count(16)", x.count(16), 3);
    Due.due("32: count(14)", x.count(14), 3);
  }

  private static void faults() {
    fault("", 0);
    fault("x", 0);
    fault("H", 0);
    fault(" 1", 0);
    fault("1 ", 1);
    fault("+1", 0);
    fault("-1", 0);
    fault("1+", 2);
    fault("1+*2", 2);
    fault("1-", 2);
    fault("n*", 2);
    fault("n/", 2);
    fault("nn", 1);
    fault("n1", 1);
    fault("1n", 1);
    fault("123456", 5);
    fault("12345h", 5);
    fault("000001", 5);
    fault("n>2", 1);
    fault("n)", 1);
    fault("()", 1);
    fault("(", 1);
    fault("(n", 2);
    fault("(n<", 3);
    fault("(n<2", 4);
    fault("(n<2<3)", 4);
    fault("(n<2=3)", 4);
    fault("(<2)", 1);
    fault("(1<=2)", 3);
    fault("(1)(2)", 3);
    fault("(1)2", 3);
    fault("((((((1))))))", 5);
    fault("((((((", 5);
    fault("(((((", 5);
    fault("1+(((((h)))))*((((((h))))))", 19);
    fault("(1<(1<(1<(1<(1<(1<1))))))", 15);
    fault("a", 0);
    fault("1.5", 1);
    fault("1" + (char) 0, 1);
    fault("" + (char) 233, 0);
    fault("1+" + (char) 255, 2);
    fault("1+" + (char) 0xB1, 2);
    noFault("00001");
    noFault("(((((h)))))+(((((d)))))");
    noFault("(1+2*3-4/5<h*2)");
    noFault("(((((1<2)>3)=4)<5)>6)");
    noFault("h+d+p+c+n+t+r+b+f");
  }

  private static void fault(String text, int place) {
    RockHeat x = new RockHeat();
    Due.due("20: " + text, Due.tell(x, text, 0, 0), -20 - place);
    Due.due("20: counted " + text, x.count(6), 0);
    Due.due("20: the tape has none " + text, x.count(7), 0);
    Due.due("20: no refusal " + text, x.count(12) + x.count(14) + x.count(16), 0);
  }

  private static void noFault(String text) {
    RockHeat x = new RockHeat();
    Due.due("20: " + text, Due.tell(x, text, 1, 333), 1);
    Due.due("20: counted " + text, x.count(6), 1);
    Due.due("20: the tape has none " + text, x.count(7), 0);
  }

  private static void worths() {
    worth("7", 7);
    worth("99999", 99999);
    worth("99999+1", 99999);
    worth("0-1", 0);
    worth("1+2*3", 7);
    worth("(1+2)*3", 9);
    worth("20-3-2", 15);
    worth("20-(3-2)", 19);
    worth("100/3/3", 11);
    worth("100/(3/3)", 100);
    worth("7/2*2", 6);
    worth("7*2/2", 7);
    worth("(0-7)/2+100", 97);
    worth("5/0+9", 9);
    worth("5/(1-1)*7", 0);
    worth("10+(1<2)", 11);
    worth("10+(2<1)", 10);
    worth("10+(2<2)", 10);
    worth("10+(2=2)", 11);
    worth("10+(2=1)", 10);
    worth("10+(2>1)", 11);
    worth("10+(1>2)", 10);
    worth("10+(2>2)", 10);
    worth("(1+1=2*1)*50", 50);
    worth("99999*99999/99999", 10000);
    worth("99999*99999-99999*99999+5", 5);
    worth("99999*99999+99999-99999*99999/1000/2*0-99999*10000+10000", 20000);
    worth("((0-99999)*99999=(0-99999)*10001)*3", 3);
    worth("(99999*99999+1=99999*99999)*4", 4);
    worth("((0-99999)*99999-1=(0-99999)*99999)*4", 4);
    worth("(99999*10000<99999*10001)*6", 6);
  }

  private static void worth(String text, int want) {
    RockHeat x = new RockHeat();
    x.bore(0, 1, 100, 0, 0);
    Due.due("20: " + text, Due.tell(x, text, 0, 0), 1);
    Due.due("21: " + text, x.may(0, 0), want);
    Due.due("21: no other purpose " + text, x.may(0, 1), 0);
  }

  private static void letters() {
    RockHeat x = new RockHeat();
    x.bore(0, 1, 100, 0, 31);
    x.bore(50, 1, 100, 0, 42);
    x.house(1234, 0, 16777215);
    x.join(0, 1);
    x.house(100, 0, 0);
    x.join(1, 0);
    x.cold(1, 15);
    x.cold(2, -7);
    x.price(5, 77);
    x.price(6, 88);
    x.hours(29);
    letter(x, "h", 5, 5);
    letter(x, "d", 1, 1);
    letter(x, "p", 77, 77);
    letter(x, "c", 15, 15);
    letter(x, "n", 1234 + 50, 1234 + 50);
    letter(x, "t", 31, 42);
    letter(x, "r", 31, 42);
    letter(x, "b", 0, 1);
    letter(x, "f", 31, 42);
    x.hours(1);
    letter(x, "h", 6, 6);
    letter(x, "p", 88, 88);
    x.hours(18);
    letter(x, "h", 0, 0);
    letter(x, "d", 2, 2);
    letter(x, "c+50", 43, 43);
    Due.due("20: rules", x.count(6), 14);
  }

  private static void letter(RockHeat x, String text, int first, int second) {
    Due.tell(x, text, 1, x.count(0) / 24);
    Due.due("21: of bore 0 " + text, x.may(0, 1), first);
    Due.due("21: of bore 1 " + text, x.may(1, 1), second);
  }

  private static void byWarmth() {
    RockHeat x = new RockHeat();
    x.bore(0, 2, 100, 0, 20);
    Due.tell(x, "99999", 1, 0);
    x.sun(0, 99999);
    x.hours(1);
    // 20999 thousandths and 20000; LEAD 999 moves 9.99 of 999.99 on.
    Due.tell(x, "t*1000+r", 0, 0);
    Due.due("21: degrees are cut", x.may(0, 0), 20020);
    Due.tell(x, "f", 0, 0);
    Due.due("21: told at first", x.may(0, 0), 20);
    x.sun(0, 0);
    x.sun(1, 1);
    x.hours(1);
    Due.tell(x, "t*1000+r", 0, 0);
    Due.due("21: a heat more", x.may(0, 0), 21020);
    x.soil(0, 999, 0);
    x.hours(200);
    Due.due("8: both rings near the rim", x.warmth(0, 0) / 1000, 20);
    RockHeat y = new RockHeat();
    y.bore(0, 1, 100, 0, 1);
    y.bore(0, 1, 100, 0, 99);
    y.bore(0, 3, 100, 0, 60);
    y.soil(2, 100, 0);
    y.share(500);
    y.hours(1);
    Due.tell(y, "r+t*1000", 0, 0);
    // Of its last ring 500 * 59000 / 100 go to bore 0, 500 * 39000 / 100 come from bore 1.
    Due.due("21: the last ring is another", y.may(2, 0), 60059);
    RockHeat z = new RockHeat();
    z.bore(0, 1, 100, 0, 0);
    z.bore(0, 1, 100, 0, 2);
    Due.tell(z, "100+t", 0, 0);
    Due.due("21: at 0", z.may(0, 0), 100);
    Due.due("21: frozen or shut, the same", z.open(1, false) + z.may(1, 0), 103);
  }

  private static void inForce() {
    RockHeat x = new RockHeat();
    x.bore(0, 1, 100, 0, 10);
    Due.due("21: none told", x.may(0, 0), 0);
    Due.tell(x, "1", 0, 2);
    Due.due("21: not yet", x.may(0, 0), 0);
    Due.tell(x, "2", 0, 1);
    Due.tell(x, "3", 0, 1);
    Due.tell(x, "4", 1, 0);
    Due.due("21: another purpose's", x.may(0, 0), 0);
    Due.due("21: its own", x.may(0, 1), 4);
    x.hours(23);
    Due.due("21: not yet", x.may(0, 0), 0);
    x.hours(1);
    Due.due("21: told last", x.may(0, 0), 3);
    x.hours(24);
    Due.due("21: the latest day", x.may(0, 0), 1);
    x.hours(240);
    Due.due("21: on", x.may(0, 0), 1);
    Due.tell(x, "5", 0, 12);
    Due.due("21: a later day", x.may(0, 0), 5);
    Due.due("21: on", x.may(0, 1), 4);
    Due.tell(x, "0", 0, 12);
    Due.due("21: told last", x.may(0, 0), 0);
  }

  private static void refusals() {
    RockHeat x = new RockHeat();
    x.hours(24);
    Due.type(x, "x");
    Due.due("20: purpose", x.rule(2, 0), -2);
    Due.due("20: purpose", x.rule(-1, 334), -2);
    Due.due("20: ahead of now", x.rule(0, 0), -4);
    Due.due("20: room", x.rule(0, 334), -6);
    Due.due("20: the tape stays", x.count(7), 1);
    Due.due("20: a fault", x.rule(0, 1), -20);
    Due.due("20: the tape has none", x.count(7), 0);
    Due.due("20: the last day", Due.tell(x, "1", 1, 333), 1);
    Due.due("32: count(12)", x.count(12), 2);
    Due.due("32: count(14)", x.count(14), 1);
    Due.due("32: count(16)", x.count(16), 1);
  }

  private static void mayRefusals() {
    RockHeat x = new RockHeat();
    x.bore(0, 1, 100, 0, 10);
    Due.due("21: nobody", x.may(1, 2), -1);
    Due.due("21: nobody", x.may(-1, 0), -1);
    Due.due("21: purpose", x.may(0, 2), -2);
    Due.due("21: purpose", x.may(0, -1), -2);
    x.hours(8000);
    Due.due("21: ahead of now", Due.tell(x, "9", 0, 332), -4);
    Due.due("21: the last day", x.rule(0, 333), 1);
    Due.due("21: at the end", x.may(0, 0), 9);
  }

  private static void thirtyRules() {
    RockHeat x = new RockHeat();
    x.bore(0, 1, 100, 0, 10);
    for (int i = 1; i <= 30; i++) {
      Due.due("20: rules", Due.tell(x, "(" + i + ")", i % 2, 0), i);
    }
    Due.due("20: a thirty-first", Due.tell(x, "1", 0, 0), -6);
    Due.due("20: the tape stays", x.count(7), 1);
    Due.due("20: purpose first", x.rule(2, 0), -2);
    Due.due("20: below first", x.rule(0, -1), -4);
    Due.due("32: rules", x.count(6), 30);
    Due.due("21: each its own text", x.may(0, 0), 30);
    Due.due("21: each its own text", x.may(0, 1), 29);
  }
}
