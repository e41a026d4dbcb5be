/** Part I and promises 1 to 9: hours, bores and the ground around them. */
final class GroundEdges {
  private static final int MOST = Integer.MAX_VALUE;
  private static final int LEAST = Integer.MIN_VALUE;
  private static final Calls NEW = new Calls(RockHeat::new);
  private static final Calls BUSY = new Calls(World::busy);
  private static final Calls FULL = new Calls(World::full);
  private static final Calls LAST = new Calls(World::last);

  private GroundEdges() {
  }

  static void all() {
    terms();
    rings();
    toTheRim();
    fromRingToRing();
    eightRings();
    far();
    share();
    shareOfLastRings();
    shareOfAll();
    water();
    asTheHourBegan();
    newObject();
    hours();
    bore();
    soil();
    shareTold();
    open();
    heat();
    warmth();
    frozen();
  }

  private static void terms() {
    hoursGoOn();
    daysGoRound();
    quotients();
    boresHaveNumbers();
    places();
  }

  private static void rings() {
    ringsAround();
    holds();
    leadAtFirst();
    theRim();
    heatOfARing();
    waterAtFirst();
    openOrShut();
    frozenAsLong();
  }

  private static void hoursGoOn() {
    Sentence.of("I", "HOURS go on from 0 (8000 at most);");
    RockHeat x = new RockHeat();
    Sentence.due("HOUR at first", x.count(0), 0);
    Sentence.due("the last but one", x.hours(7999), 7999);
    Sentence.due("the last", x.hours(1), 8000);
    Sentence.due("none beyond", x.hours(1), -6);
    Sentence.due("HOUR stays", x.count(0), 8000);
    Sentence.due("all at once", new RockHeat().hours(8000), 8000);
  }

  private static void daysGoRound() {
    Sentence.of("I", "DAY: HOUR by 24; hour of the day: HOUR modulo 24.");
    RockHeat x = new RockHeat();
    x.bore(0, 1, 100, 0, 0);
    Due.tell(x, "d*100+h", World.GIVE, 0);
    int[] hours = {0, 1, 23, 24, 47, 48, 7991, 7992, 7999, 8000};
    int[] due = {0, 1, 23, 100, 123, 200, 33223, 33300, 33307, 33308};
    for (int i = 0; i < hours.length; i++) {
      if (hours[i] > 0) {
        x.hours(hours[i] - x.count(0));
      }
      Sentence.due("HOUR " + hours[i], x.may(0, World.GIVE), due[i]);
    }
  }

  private static void quotients() {
    Sentence.of("I", "All numbers are whole; quotients are cut toward 0.");
    RockHeat x = World.belowZero();
    Sentence.due("-4995 by 100", x.warmth(0, 0), -49);
    Sentence.due("999 times 500 by 100", x.told(7), 4995);
    x.hours(1);
    Sentence.due("999 times -49 by 100", x.told(7), 4995 - 489);
    Due.tell(x, "(0-7)/2+9", World.TAKE, 0);
    Sentence.due("-7 by 2", x.may(0, World.TAKE), 6);
    RockHeat y = World.belowZero();
    y.soil(0, 0, 1);
    y.hours(1);
    Sentence.due("a thousandth of -4995", y.told(8), -4);
    x.point(0, 300);
    x.point(3, 200);
    Sentence.due("-100 times 29 by 3000", x.lift(29), 300);
    Sentence.due("-100 times 31 by 3000", x.lift(31), 299);
  }

  private static void boresHaveNumbers() {
    Sentence.of("I", "BORES have numbers from 0 on (8 at most):");
    RockHeat x = new RockHeat();
    for (int i = 0; i < 8; i++) {
      Sentence.due("none yet of number " + i, x.frozen(i), -1);
      Sentence.due("number " + i, x.bore(0, 1, 100, 0, 1), i);
      Sentence.due("one of number " + i, x.frozen(i), 0);
    }
    Sentence.due("a ninth", x.bore(0, 1, 100, 0, 1), -6);
    Sentence.due("none of number 8", x.frozen(8), -1);
    Sentence.due("eight", x.count(1), 8);
  }

  private static void places() {
    Sentence.of("I", "a PLACE x, y (0 .. 99 each),");
    NEW.taken(0, "bore", 0, 1, 100, 0, 0);
    NEW.taken(0, "bore", 99, 1, 100, 0, 0);
    NEW.taken(0, "bore", 9900, 1, 100, 0, 0);
    NEW.taken(0, "bore", 9999, 1, 100, 0, 0);
    NEW.refused(-6, "bore", 10000, 1, 100, 0, 0);
    NEW.refused(-4, "bore", -1, 1, 100, 0, 0);
    Sentence.due("0, 99 and 1, 0 are not near", shared(99, 100), 0);
    Sentence.due("99, 99 and 99, 90 are", shared(9999, 9990), 6000);
  }

  private static void ringsAround() {
    Sentence.of("I", "RINGS of ground around it (1 .. 8):");
    for (int rings = 1; rings <= 8; rings++) {
      RockHeat x = new RockHeat();
      Sentence.due("rings " + rings, x.bore(0, rings, 100, 0, 1), 0);
      Sentence.due("the last of " + rings, x.heat(0, rings - 1), 100000);
      Sentence.due("none behind the last of " + rings, x.heat(0, rings), Due.LONG + 1);
      Sentence.due("together " + rings, x.told(10), 100000L * rings);
    }
    NEW.refused(-4, "bore", 0, 0, 100, 0, 0);
    NEW.refused(-6, "bore", 0, 9, 100, 0, 0);
  }

  private static void holds() {
    Sentence.of("I", "each holds HOLD (100 .. 9999) for a degree; the k-th (k from 0) HOLD and k times STEP (0 .. 999);");
    int[] holds = {100, 9999, 100, 9999};
    int[] steps = {0, 999, 999, 0};
    RockHeat x = new RockHeat();
    for (int i = 0; i < holds.length; i++) {
      x.bore(0, 8, holds[i], steps[i], 1);
      for (int k = 0; k < 8; k++) {
        Sentence.due("HOLD " + holds[i] + ", STEP " + steps[i] + ", ring " + k, x.heat(i, k),
            1000L * (holds[i] + k * steps[i]));
      }
    }
  }

  private static void leadAtFirst() {
    Sentence.of("I", "LEAD (0 .. 999; 0 at first) between two rings;");
    RockHeat x = World.warmed(2, 100, 10, 50000);
    x.hours(1);
    Sentence.due("nothing at first", x.heat(0, 1), 1000000);
    Sentence.due("0 at first", x.soil(0, 999, 0), 0);
    x.hours(1);
    Sentence.due("999 times 500 by 100", x.heat(0, 1), 1004995);
    Sentence.due("was", x.soil(0, 0, 0), 999);
    x.hours(1);
    Sentence.due("nothing any more", x.heat(0, 1), 1004995);
    Sentence.due("nor to the RIM", x.told(7), 0);
  }

  private static void theRim() {
    Sentence.of("I", "a WARMTH of all as they are told (0 .. 99 degrees), that is also the RIM's beyond the last ring, for ever.");
    RockHeat x = new RockHeat();
    x.bore(0, 8, 100, 10, 0);
    x.bore(0, 8, 100, 10, 99);
    for (int k = 0; k < 8; k++) {
      Sentence.due("0 degrees, ring " + k, x.warmth(0, k), 0);
      Sentence.due("99 degrees, ring " + k, x.warmth(1, k), 99000);
    }
    RockHeat cold = World.warmed(1, 100, 0, 99999);
    cold.sun(0, 0);
    cold.soil(0, 999, 0);
    cold.hours(7999);
    Sentence.due("back to 0", cold.warmth(0, 0), 0);
    RockHeat warm = World.cooled(2, 100, 99, 9999);
    warm.soil(0, 999, 0);
    warm.hours(7999);
    Sentence.due("back to 99000", warm.warmth(0, 1), 99000);
  }

  private static void heatOfARing() {
    Sentence.of("I", "HEAT of a ring: what it holds; at first 1000 times WARMTH by HOLD of it; its WARMTH in thousandths: HEAT by its HOLD.");
    RockHeat x = new RockHeat();
    x.bore(0, 2, 9999, 999, 99);
    Sentence.due("at first", x.heat(0, 0), 1000L * 99 * 9999);
    Sentence.due("ring 1", x.heat(0, 1), 1000L * 99 * 10998);
    Sentence.due("99 degrees", x.warmth(0, 1), 99000);
    int[] held = {0, 1, 9998, 9999, 10000, 19997, 19998, 99999};
    int[] due = {0, 0, 0, 1, 1, 1, 2, 10};
    for (int i = 0; i < held.length; i++) {
      RockHeat y = World.warmed(1, 9999, 0, held[i]);
      Sentence.due("HEAT", y.heat(0, 0), held[i]);
      Sentence.due(held[i] + " by 9999", y.warmth(0, 0), due[i]);
    }
  }

  private static void waterAtFirst() {
    Sentence.of("I", "WATER (0 .. 100 thousandths an HOUR; 0 at first).");
    RockHeat x = World.warmed(1, 100, 10, 5000);
    x.hours(1);
    Sentence.due("none at first", x.told(8), 0);
    x.soil(0, 0, 100);
    x.hours(1);
    Sentence.due("100 thousandths", x.told(8), 500);
    x.soil(0, 0, 0);
    x.hours(1);
    Sentence.due("none any more", x.told(8), 500);
    BUSY.refused(-6, "soil", 0, 0, 101);
    BUSY.refused(-4, "soil", 0, 0, -1);
  }

  private static void openOrShut() {
    Sentence.of("I", "A BORE is OPEN or SHUT (told; open at first);");
    RockHeat x = World.needing(100);
    x.bore(0, 1, 100, 0, 10);
    Due.tell(x, "70", World.TAKE, 0);
    Due.tell(x, "30", World.GIVE, 0);
    x.sun(0, 100);
    x.sun(1, 100);
    Sentence.due("open at first", x.count(2), 1);
    x.hours(1);
    Sentence.due("takes and gives", x.heat(0, 0), 1000040);
    Sentence.due("told", x.open(0, false), 1);
    x.hours(1);
    Sentence.due("neither takes nor gives", x.heat(0, 0), 1000040);
    Sentence.due("told", x.open(0, true), 1);
    x.hours(1);
    Sentence.due("gives again", x.heat(0, 0), 1000010);
  }

  private static void frozenAsLong() {
    Sentence.of("I", "FROZEN, as long as ring 0 is not above 0 thousandths.");
    Sentence.due("HEAT 0", World.warmed(2, 100, 0, 0).frozen(0), 1);
    Sentence.due("HEAT 99 by 100", World.warmed(2, 100, 0, 99).frozen(0), 1);
    Sentence.due("HEAT 100 by 100", World.warmed(2, 100, 0, 100).frozen(0), 0);
    Sentence.due("below 0", World.belowZero().frozen(0), 1);
    RockHeat x = World.needing(9999);
    x.bore(0, 2, 100, 0, 1);
    Due.tell(x, "(d*24+h<11)*10000", World.GIVE, 0);
    Due.tell(x, "99999", World.TAKE, 0);
    x.sun(11, 89);
    x.sun(12, 1);
    x.hours(11);
    Sentence.due("HEAT 10 of 100 by 100", x.heat(0, 0), 10);
    Sentence.due("though ring 1 is warm", x.frozen(0) * x.warmth(0, 1), 1000);
    x.hours(1);
    Sentence.due("HEAT 99 again", x.frozen(0), 1);
    x.hours(1);
    Sentence.due("HEAT 100 again", x.frozen(0), 0);
  }

  /** What is LOST of one ring of HOLD 100 that has got so much. */
  private static long lost(int lead, int sun) {
    RockHeat x = World.warmed(1, 100, 10, sun);
    x.soil(0, lead, 0);
    x.hours(1);
    Sentence.due("the ring has the less", x.heat(0, 0), 1000000 + sun - x.told(7));
    return x.told(7);
  }

  /** What is LOST of one ring of HOLD 100 that has given so much. */
  private static long lostBelow(int lead, int given) {
    RockHeat x = World.cooled(1, 100, 10, given);
    x.soil(0, lead, 0);
    x.hours(1);
    Sentence.due("the ring has the more", x.heat(0, 0), 1000000 - given - x.told(7));
    return x.told(7);
  }

  private static void toTheRim() {
    Sentence.of("I", "of the last ring likewise to the RIM (LOST).");
    Sentence.due("1 times 99 by 100", lost(1, 9900), 0);
    Sentence.due("1 times 100 by 100", lost(1, 10000), 1);
    Sentence.due("1 times 199 by 100", lost(1, 19999), 1);
    Sentence.due("1 times 200 by 100", lost(1, 20000), 2);
    Sentence.due("99 times 1 by 100", lost(99, 100), 0);
    Sentence.due("100 times 1 by 100", lost(100, 100), 1);
    Sentence.due("100 times 0", lost(100, 99), 0);
    Sentence.due("999 times 1 by 100", lost(999, 199), 9);
    Sentence.due("999 times 999 by 100", lost(999, 99999), 9980);
    Sentence.due("0 times 999", lost(0, 99999), 0);
    Sentence.due("1 times -99 by 100", lostBelow(1, 9900), 0);
    Sentence.due("1 times -100 by 100", lostBelow(1, 9901), -1);
    Sentence.due("99 times -1 by 100", lostBelow(99, 100), 0);
    Sentence.due("100 times -1 by 100", lostBelow(100, 1), -1);
    Sentence.due("999 times -1 by 100", lostBelow(999, 100), -9);
  }

  /** What ring 1 gets of a ring 0 of HOLD 100 that has got so much. */
  private static long wentOn(RockHeat x, int lead) {
    long ring0 = x.heat(0, 0);
    long ring1 = x.heat(0, 1);
    x.soil(0, lead, 0);
    x.hours(1);
    Sentence.due("none to the RIM yet", x.told(7), 0);
    Sentence.due("ring 2 has what it had", x.heat(0, 2), 1000000);
    Sentence.due("from the one to the other", x.heat(0, 0) + x.heat(0, 1), ring0 + ring1);
    return x.heat(0, 1) - ring1;
  }

  private static void fromRingToRing() {
    Sentence.of("I", "LEAD times the difference (of k less k + 1) by 100 goes from k to k + 1;");
    Sentence.due("1 times 99 by 100", wentOn(World.warmed(3, 100, 10, 9999), 1), 0);
    Sentence.due("1 times 100 by 100", wentOn(World.warmed(3, 100, 10, 10000), 1), 1);
    Sentence.due("99 times 1 by 100", wentOn(World.warmed(3, 100, 10, 100), 99), 0);
    Sentence.due("100 times 1 by 100", wentOn(World.warmed(3, 100, 10, 100), 100), 1);
    Sentence.due("999 times 999 by 100", wentOn(World.warmed(3, 100, 10, 99999), 999), 9980);
    Sentence.due("0 times 999", wentOn(World.warmed(3, 100, 10, 99999), 0), 0);
    Sentence.due("1 times -99 by 100", wentOn(World.cooled(3, 100, 10, 9900), 1), 0);
    Sentence.due("1 times -100 by 100", wentOn(World.cooled(3, 100, 10, 9901), 1), -1);
    Sentence.due("999 times -1 by 100", wentOn(World.cooled(3, 100, 10, 1), 999), -9);
    Sentence.due("none of one WARMTH", wentOn(World.warmed(3, 100, 10, 99), 999), 0);
  }

  private static void eightRings() {
    Sentence.of("I", "AN HOUR of ground: (1) between rings k and k + 1 of a BORE, k from 0 on, by WARMTH as it was as the HOUR began:");
    RockHeat x = World.warmed(8, 100, 10, 99999);
    x.sun(0, 0);
    x.soil(0, 999, 0);
    long[] heat = {1099999, 1000000, 1000000, 1000000, 1000000, 1000000, 1000000, 1000000};
    long lost = 0;
    for (int hour = 0; hour < 50; hour++) {
      long[] warm = new long[9];
      warm[8] = 10000;
      for (int k = 0; k < 8; k++) {
        warm[k] = heat[k] / 100;
      }
      for (int k = 0; k < 8; k++) {
        long goes = 999 * (warm[k] - warm[k + 1]) / 100;
        heat[k] -= goes;
        if (k < 7) {
          heat[k + 1] += goes;
        } else {
          lost += goes;
        }
      }
      x.hours(1);
      for (int k = 0; k < 8; k++) {
        Sentence.due("ring " + k + " as hour " + hour + " ends", x.heat(0, k), heat[k]);
      }
    }
    Sentence.due("LOST", x.told(7), lost);
    Sentence.due("some is LOST of the eighth", lost > 0 ? 1 : 0, 1);
  }

  /** What one BORE of 10 degrees gets of one of 20 by SHARE 600: 60000 by FAR and 1. */
  private static long shared(int place, int other) {
    RockHeat x = new RockHeat();
    x.bore(place, 1, 100, 0, 10);
    x.bore(other, 1, 100, 0, 20);
    x.share(600);
    x.hours(1);
    Sentence.due("what the one has the other has not", x.heat(0, 0) + x.heat(1, 0), 3000000);
    return x.heat(0, 0) - 1000000;
  }

  private static void far() {
    Sentence.of("I", "(2) NEIGHBOURS: of two BORES of FAR (the greater of the differences in x and y) 9 or less, the lesser number first:");
    Sentence.due("one place", shared(4444, 4444), 60000);
    Sentence.due("1 in y", shared(0, 1), 30000);
    Sentence.due("1 in x", shared(0, 100), 30000);
    Sentence.due("1 in both", shared(101, 0), 30000);
    Sentence.due("9 in y", shared(0, 9), 6000);
    Sentence.due("10 in y", shared(0, 10), 0);
    Sentence.due("9 in x", shared(900, 0), 6000);
    Sentence.due("10 in x", shared(1000, 0), 0);
    Sentence.due("9 in both", shared(9999, 9090), 6000);
    Sentence.due("9 in x, 8 in y", shared(9991, 9099), 6000);
    Sentence.due("8 in x, 9 in y", shared(9199, 9990), 6000);
    Sentence.due("9 in x, 10 in y", shared(910, 0), 0);
    Sentence.due("10 in x, 9 in y", shared(0, 1009), 0);
    Sentence.due("99 in both", shared(0, 9999), 0);
    RockHeat x = new RockHeat();
    x.bore(0, 1, 100, 0, 20);
    x.bore(0, 1, 100, 0, 10);
    x.share(600);
    x.hours(1);
    Sentence.due("from the lesser number", x.heat(0, 0), 2000000 - 60000);
    Sentence.due("to the greater", x.heat(1, 0), 1000000 + 60000);
  }

  /** What goes by SHARE from a BORE of HOLD 100 to one of the same WARMTH at first, as it has got so much. */
  private static long sharedOf(int share, int other, int sun) {
    RockHeat x = new RockHeat();
    x.bore(0, 1, 100, 0, 10);
    x.bore(other, 1, 100, 0, 10);
    Due.tell(x, "(b=0)*99999", World.TAKE, 0);
    x.sun(0, sun);
    x.hours(1);
    x.share(share);
    x.hours(1);
    return x.heat(1, 0) - 1000000;
  }

  private static void share() {
    Sentence.of("I", "SHARE (0 .. 999; told once for all, 0 at first)");
    RockHeat x = new RockHeat();
    x.bore(0, 1, 100, 0, 0);
    x.bore(0, 1, 100, 0, 99);
    x.bore(5000, 1, 100, 0, 0);
    x.bore(5000, 1, 100, 0, 99);
    x.hours(1);
    Sentence.due("none at first", x.heat(0, 0), 0);
    Sentence.due("0 at first", x.share(999), 0);
    x.hours(1);
    Sentence.due("999 times 99000 by 100", x.heat(0, 0), 989010);
    Sentence.due("for all", x.heat(2, 0), 989010);
    Sentence.due("was", x.share(0), 999);
    x.hours(1);
    Sentence.due("none any more", x.heat(0, 0), 989010);
  }

  private static void shareOfLastRings() {
    Sentence.of("I", "times the difference of WARMTH of their last rings (as it was as the HOUR began) by 100 times (FAR and 1), goes from the one to the other.");
    Sentence.due("1 times 99 by 100", sharedOf(1, 0, 9900), 0);
    Sentence.due("1 times 100 by 100", sharedOf(1, 0, 10000), 1);
    Sentence.due("1 times 999 by 1000", sharedOf(1, 9, 99900), 0);
    Sentence.due("2 times 999 by 1000", sharedOf(2, 9, 99900), 1);
    Sentence.due("999 times 1 by 100", sharedOf(999, 0, 100), 9);
    Sentence.due("999 times 0", sharedOf(999, 0, 99), 0);
    Sentence.due("199 times 1 by 200", sharedOf(199, 1, 100), 0);
    Sentence.due("200 times 1 by 200", sharedOf(200, 1, 100), 1);
    RockHeat x = new RockHeat();
    x.bore(0, 2, 100, 0, 10);
    x.bore(0, 1, 100, 0, 10);
    Due.tell(x, "(b=0)*99999", World.TAKE, 0);
    x.sun(0, 50000);
    x.share(999);
    x.hours(2);
    Sentence.due("not of ring 0 of two", x.heat(0, 0), 1050000);
    Sentence.due("ring 1 as the other", x.heat(1, 0), 1000000);
    x.soil(0, 100, 0);
    x.hours(1);
    Sentence.due("ring 1 got 500 in this HOUR", x.heat(0, 1), 1000500);
    Sentence.due("none of it yet", x.heat(1, 0), 1000000);
    x.hours(1);
    // 999 times 5 by 100.
    Sentence.due("as the next HOUR goes by", x.heat(1, 0), 1000049);
  }

  private static void shareOfAll() {
    Sentence.of("I", "(as it was as the HOUR began) by 100 times");
    RockHeat x = new RockHeat();
    for (int i = 0; i < 8; i++) {
      x.bore(100 * i, 1, 100, 0, 11 * i);
    }
    x.open(3, false);
    x.share(777);
    x.hours(1);
    for (int i = 0; i < 8; i++) {
      long due = 1100000L * i;
      for (int j = 0; j < 8; j++) {
        due += 777L * 11000 * (j - i) / (100 * (Math.abs(j - i) + 1));
      }
      Sentence.due("BORE " + i + " of eight, a shut and a frozen one too", x.heat(i, 0), due);
    }
  }

  private static long carried(RockHeat x, int water) {
    long before = x.told(9);
    x.soil(0, 0, water);
    x.hours(1);
    Sentence.due("it is gone", x.told(9), before - x.told(8));
    return x.told(8);
  }

  private static void water() {
    Sentence.of("I", "(3) WATER thousandths of what each ring holds above what it held at first (or below it) go: CARRIED OFF.");
    Sentence.due("1 of 999", carried(World.warmed(1, 100, 10, 999), 1), 0);
    Sentence.due("1 of 1000", carried(World.warmed(1, 100, 10, 1000), 1), 1);
    Sentence.due("1 of 1999", carried(World.warmed(1, 100, 10, 1999), 1), 1);
    Sentence.due("100 of 9", carried(World.warmed(1, 100, 10, 9), 100), 0);
    Sentence.due("100 of 10", carried(World.warmed(1, 100, 10, 10), 100), 1);
    Sentence.due("100 of 99999", carried(World.warmed(1, 100, 10, 99999), 100), 9999);
    Sentence.due("0 of 99999", carried(World.warmed(1, 100, 10, 99999), 0), 0);
    Sentence.due("1 of 999 below", carried(World.cooled(1, 100, 10, 999), 1), 0);
    Sentence.due("1 of 1000 below", carried(World.cooled(1, 100, 10, 1000), 1), -1);
    Sentence.due("100 of 9 below", carried(World.cooled(1, 100, 10, 9), 100), 0);
    Sentence.due("100 of 9999 below", carried(World.cooled(1, 100, 10, 9999), 100), -999);
    Sentence.due("none of what it held at first", carried(World.warmed(8, 9999, 99, 0), 100), 0);
    RockHeat x = World.warmed(2, 100, 10, 99900);
    x.soil(0, 100, 0);
    x.hours(1);
    // Ring 1 got 999, which is too little; ring 0 has 98901 more.
    Sentence.due("of each ring by itself", carried(x, 1), 98);
    Sentence.due("none of ring 1", x.heat(0, 1), 1000999);
    RockHeat y = World.warmed(2, 100, 10, 99900);
    y.soil(0, 101, 0);
    y.hours(1);
    Sentence.due("of both rings", carried(y, 1), 99);
    Sentence.due("1 of 1008", y.heat(0, 1), 1001007);
  }

  private static void asTheHourBegan() {
    Sentence.of("I", "(All these by WARMTH and HEAT as the HOUR began.)");
    RockHeat x = World.warmed(1, 100, 10, 10000);
    x.house(2000, 0, World.ALWAYS);
    x.join(0, 0);
    Due.tell(x, "2000", World.GIVE, 0);
    x.sun(1, 5000);
    x.soil(0, 100, 100);
    x.hours(1);
    Sentence.due("LOST by 100 thousandths", x.told(7), 100);
    Sentence.due("CARRIED OFF of 10000", x.told(8), 1000);
    Sentence.due("what ring 0 holds", x.heat(0, 0), 1010000 + 5000 - 2000 - 100 - 1000);
  }

  private static void newObject() {
    Sentence.of("Promise 1", "HOUR 0; nothing is told.");
    for (int what = 0; what <= 16; what++) {
      NEW.asked(what == 9 || what == 10 ? -9 : 0, "count", what);
    }
    for (int what = 0; what <= 10; what++) {
      NEW.asked(0, "told", what);
    }
    for (int hour = 0; hour < 24; hour++) {
      NEW.taken(0, "sun", hour, 1);
      NEW.taken(10, "price", hour, 1);
      NEW.asked(0, "best", hour);
    }
    for (int i = 0; i < 12; i++) {
      NEW.taken(0, "cold", i, 1);
    }
    NEW.taken(0, "share", 1);
    NEW.taken(0, "tank", 1, 1);
    NEW.taken(0, "untable");
    NEW.asked(0, "best", 24);
    NEW.asked(0, "need", 0);
    NEW.asked(0, "need", 9999);
    NEW.asked(100, "lift", 0);
    NEW.asked(0, "few", 100, 0);
    NEW.refused(-1, "heat", 0, 0);
    NEW.refused(-1, "join", 0, 0);
    NEW.refused(-1, "wrong", 0);
    // What is told to one object is not told to the next.
    World.busy();
    NEW.taken(0, "bore", 0, 1, 100, 0, 0);
    NEW.taken(0, "house", 0, 0, 0);
  }

  private static void hours() {
    Sentence.of("Promise 2", "n HOURS go by: HOUR.");
    NEW.taken(1, "hours", 1);
    NEW.taken(8000, "hours", 8000);
    BUSY.taken(31, "hours", 1);
    BUSY.taken(8000, "hours", 7970);
    Sentence.of("Promise 2", "-4 below 1;");
    BUSY.refused(-4, "hours", 0);
    BUSY.refused(-4, "hours", -1);
    BUSY.refused(-4, "hours", LEAST);
    LAST.refused(-4, "hours", 0);
    Sentence.of("Promise 2", "-6 above 8000.");
    NEW.refused(-6, "hours", 8001);
    NEW.refused(-6, "hours", MOST);
    BUSY.refused(-6, "hours", 7971);
    BUSY.refused(-6, "hours", MOST);
    LAST.refused(-6, "hours", 1);
  }

  private static void bore() {
    Sentence.of("Promise 3", "A BORE at a PLACE (100 x and y): its number.");
    NEW.taken(0, "bore", 0, 1, 100, 0, 0);
    BUSY.taken(3, "bore", 0, 1, 100, 0, 0);
    BUSY.taken(3, "bore", 9999, 8, 9999, 999, 99);
    Sentence.due("x is the place by 100", shared(1000, 1900), 6000);
    Sentence.due("y is the rest", shared(1009, 1000), 6000);
    Sentence.of("Promise 3", "-4;");
    BUSY.refused(-4, "bore", -1, 1, 100, 0, 0);
    BUSY.refused(-4, "bore", 0, 0, 100, 0, 0);
    BUSY.refused(-4, "bore", 0, 1, 99, 0, 0);
    BUSY.refused(-4, "bore", 0, 1, 100, -1, 0);
    BUSY.refused(-4, "bore", 0, 1, 100, 0, -1);
    BUSY.refused(-4, "bore", LEAST, LEAST, LEAST, LEAST, LEAST);
    BUSY.refused(-4, "bore", -1, 9, 10000, 1000, 100);
    BUSY.refused(-4, "bore", 10000, 0, 10000, 1000, 100);
    BUSY.refused(-4, "bore", 10000, 9, 99, 1000, 100);
    BUSY.refused(-4, "bore", 10000, 9, 10000, -1, 100);
    BUSY.refused(-4, "bore", 10000, 9, 10000, 1000, -1);
    FULL.refused(-4, "bore", 0, 1, 100, 0, -1);
    Sentence.of("Promise 3", "-6 (PLACE above 9999, 8 BORES, too).");
    BUSY.refused(-6, "bore", 10000, 1, 100, 0, 0);
    BUSY.refused(-6, "bore", 0, 9, 100, 0, 0);
    BUSY.refused(-6, "bore", 0, 1, 10000, 0, 0);
    BUSY.refused(-6, "bore", 0, 1, 100, 1000, 0);
    BUSY.refused(-6, "bore", 0, 1, 100, 0, 100);
    BUSY.refused(-6, "bore", MOST, MOST, MOST, MOST, MOST);
    FULL.refused(-6, "bore", 0, 1, 100, 0, 0);
    FULL.refused(-6, "bore", MOST, MOST, MOST, MOST, MOST);
  }

  private static void soil() {
    Sentence.of("Promise 4", "LEAD and WATER of it: LEAD was.");
    BUSY.taken(300, "soil", 0, 0, 0);
    BUSY.taken(90, "soil", 1, 999, 100);
    FULL.taken(0, "soil", 7, 999, 100);
    RockHeat x = World.warmed(1, 100, 10, 10000);
    Sentence.due("at first", x.soil(0, 999, 0), 0);
    Sentence.due("was", x.soil(0, 0, 100), 999);
    Sentence.due("was", x.soil(0, 100, 100), 0);
    x.hours(1);
    Sentence.due("LEAD told last", x.told(7), 100);
    Sentence.due("WATER told last", x.told(8), 1000);
    Sentence.of("Promise 4", "-1;");
    NEW.refused(-1, "soil", 0, 0, 0);
    BUSY.refused(-1, "soil", 3, 0, 0);
    BUSY.refused(-1, "soil", -1, 0, 0);
    BUSY.refused(-1, "soil", LEAST, -1, 101);
    BUSY.refused(-1, "soil", MOST, 1000, -1);
    FULL.refused(-1, "soil", 8, 0, 0);
    Sentence.of("Promise 4", "-4;");
    BUSY.refused(-4, "soil", 0, -1, 0);
    BUSY.refused(-4, "soil", 0, 0, -1);
    BUSY.refused(-4, "soil", 0, 1000, -1);
    BUSY.refused(-4, "soil", 0, -1, 101);
    BUSY.refused(-4, "soil", 0, LEAST, LEAST);
    Sentence.of("Promise 4", "-6.");
    BUSY.refused(-6, "soil", 0, 1000, 0);
    BUSY.refused(-6, "soil", 0, 0, 101);
    BUSY.refused(-6, "soil", 2, MOST, MOST);
  }

  private static void shareTold() {
    Sentence.of("Promise 5", "SHARE: what it was.");
    NEW.taken(0, "share", 0);
    NEW.taken(0, "share", 999);
    BUSY.taken(200, "share", 0);
    Sentence.of("Promise 5", "-4;");
    BUSY.refused(-4, "share", -1);
    BUSY.refused(-4, "share", LEAST);
    Sentence.of("Promise 5", "-6.");
    BUSY.refused(-6, "share", 1000);
    BUSY.refused(-6, "share", MOST);
  }

  private static void open() {
    Sentence.of("Promise 6", "It is OPEN, or SHUT: 1; 0 if it was so.");
    BUSY.taken(1, "open", 0, 0);
    BUSY.asked(0, "open", 0, 1);
    BUSY.taken(1, "open", 2, 1);
    BUSY.asked(0, "open", 2, 0);
    FULL.taken(1, "open", 7, 0);
    Sentence.of("Promise 6", "-1.");
    NEW.refused(-1, "open", 0, 1);
    BUSY.refused(-1, "open", 3, 0);
    BUSY.refused(-1, "open", -1, 0);
    BUSY.refused(-1, "open", MOST, 1);
    BUSY.refused(-1, "open", LEAST, 1);
    FULL.refused(-1, "open", 8, 0);
  }

  private static void heat() {
    Sentence.of("Promise 7", "HEAT of a ring.");
    FULL.asked(20000 * 100, "heat", 0, 0);
    FULL.asked(27000 * 117, "heat", 7, 1);
    Sentence.due("below 0 too", World.belowZero().heat(0, 0), -4995);
    Sentence.of("Promise 7", "-1 either.");
    noSuchRing("heat");
  }

  private static void warmth() {
    Sentence.of("Promise 8", "WARMTH of a ring in thousandths.");
    FULL.asked(20000, "warmth", 0, 0);
    FULL.asked(27000, "warmth", 7, 1);
    Sentence.due("below 0 too", World.belowZero().warmth(0, 0), -49);
    Sentence.of("Promise 8", "-1 either.");
    noSuchRing("warmth");
  }

  private static void noSuchRing(String name) {
    NEW.refused(-1, name, 0, 0);
    BUSY.refused(-1, name, 3, 0);
    BUSY.refused(-1, name, -1, 0);
    BUSY.refused(-1, name, 0, 2);
    BUSY.refused(-1, name, 1, 1);
    BUSY.refused(-1, name, 2, 3);
    BUSY.refused(-1, name, 0, -1);
    BUSY.refused(-1, name, -1, -1);
    BUSY.refused(-1, name, LEAST, LEAST);
    BUSY.refused(-1, name, MOST, MOST);
    FULL.refused(-1, name, 8, 0);
  }

  private static void frozen() {
    Sentence.of("Promise 9", "Whether it is FROZEN: 1, 0.");
    FULL.asked(0, "frozen", 7);
    Sentence.due("HEAT 99 by 100", World.warmed(1, 100, 0, 99).frozen(0), 1);
    Sentence.due("HEAT 100 by 100", World.warmed(1, 100, 0, 100).frozen(0), 0);
    Sentence.due("HEAT 99 of HOLD 9999", World.warmed(1, 9999, 0, 9998).frozen(0), 1);
    Sentence.due("1 thousandth", World.warmed(1, 9999, 0, 9999).frozen(0), 0);
    Sentence.of("Promise 9", "-1.");
    NEW.refused(-1, "frozen", 0);
    BUSY.refused(-1, "frozen", 3);
    BUSY.refused(-1, "frozen", -1);
    BUSY.refused(-1, "frozen", MOST);
    BUSY.refused(-1, "frozen", LEAST);
    FULL.refused(-1, "frozen", 8);
  }
}
