/** A test for each sentence of the document, at the edges that it names. */
public final class EdgesTest {
  private EdgesTest() {
  }

  public static void main(String[] args) throws Exception {
    Sentence.readDocument();
    GroundEdges.all();
    TownEdges.all();
    TextEdges.all();
    HourEdges.all();
    MindEdges.all();
    TankEdges.all();
    GaugeEdges.all();
    refusals();
    lastCall();
    Sentence.allTested();
    Due.end("EdgesTest");
  }

  private static void refusals() {
    inOrder();
    numbers();
    longsAndCold();
  }

  private static void inOrder() {
    Sentence.of("REFUSALS", "REFUSALS (the call answers the number, the first that fits in the order in which it tells them; nothing changes but how many there were):");
    Calls full = new Calls(World::full);
    Calls fresh = new Calls(RockHeat::new);
    fresh.refused(-1, "soil", 0, -1, 101);
    full.refused(-4, "soil", 0, -1, 101);
    fresh.refused(-1, "join", 0, -1);
    full.refused(-3, "join", 0, -1);
    fresh.refused(-1, "may", 0, 2);
    fresh.refused(-1, "ahead", 0, 1, 3);
    fresh.refused(-2, "ahead", 0, 0, 3);
    fresh.refused(-4, "ahead", 0, 0, 0);
    fresh.refused(-6, "ahead", 501, 0, 0);
    fresh.refused(-3, "ahead", 500, 0, 0);
    full.refused(-2, "rule", 2, -1);
    full.refused(-4, "rule", 0, -1);
    full.refused(-6, "rule", 0, 0);
    full.refused(-4, "bore", 10000, 0, 100, 0, 0);
    full.refused(-4, "house", 10000, -1, 0);
    full.refused(-4, "point", 7, 1000);
    full.refused(-4, "tank", 10, 0);
    full.refused(-4, "few", 101, -1);
    full.refused(-1, "takenFrom", 0, 0, 0);
    full.refused(-1, "reading", 8, -100001);
    full.refused(-4, "reading", 0, -100001);
    RockHeat x = World.busy();
    long[] before = World.counts(x);
    x.soil(3, -1, 101);
    x.soil(0, -1, 101);
    x.soil(0, 0, 101);
    x.told(11);
    x.join(0, 0);
    x.told(-1);
    long[] after = World.counts(x);
    long[] more = {1, 2, 1, 1, 0, 1};
    for (int i = 0; i < more.length; i++) {
      Sentence.due("how many there were, count(" + (11 + i) + ")", after[11 + i] - before[11 + i], more[i]);
    }
  }

  private static void numbers() {
    Calls busy = new Calls(World::busy);
    Calls full = new Calls(World::full);
    Sentence.of("REFUSALS", "-1 NOBODY: no such BORE, ring, HOUSE.");
    busy.refused(-1, "frozen", 3);
    busy.refused(-1, "heat", 0, 2);
    busy.refused(-1, "join", 3, 1);
    Sentence.of("REFUSALS", "-2 OTHER: what, PURPOSE.");
    busy.refused(-2, "told", 11);
    busy.refused(-2, "may", 0, 2);
    busy.refused(-2, "rule", 2, 1);
    Sentence.of("REFUSALS", "-3 STATE: it is not as it must be.");
    busy.refused(-3, "join", 0, 1);
    busy.refused(-3, "leak", 2);
    Sentence.of("REFUSALS", "-4 BELOW: a number below the least.");
    busy.refused(-4, "hours", 0);
    busy.refused(-4, "share", -1);
    Sentence.of("REFUSALS", "-6 ROOM: a number above the greatest, no room.");
    busy.refused(-6, "share", 1000);
    full.refused(-6, "bore", 0, 1, 100, 0, 0);
    full.refused(-6, "feed", 1, '1');
  }

  private static void longsAndCold() {
    Sentence.of("REFUSALS", "Longs that are REFUSALS are 4000000000000000000 less them; of cold() 1000000000 less them.");
    RockHeat x = new RockHeat();
    Sentence.due("heat", x.heat(0, 0), 4000000000000000001L);
    Sentence.due("warmth", x.warmth(0, 0), 4000000000000000001L);
    Sentence.due("given", x.given(0), 4000000000000000001L);
    Sentence.due("wrong", x.wrong(0), 4000000000000000001L);
    Sentence.due("leak", x.leak(0), 4000000000000000001L);
    Sentence.due("takenFrom", x.takenFrom(0, 1, 1), 4000000000000000001L);
    Sentence.due("told", x.told(11), 4000000000000000002L);
    Sentence.due("best", x.best(25), 4000000000000000002L);
    Sentence.due("ahead", x.ahead(1, 0, 0), 4000000000000000003L);
    Sentence.due("need", x.need(-1), 4000000000000000004L);
    Sentence.due("need", x.need(10000), 4000000000000000006L);
    Sentence.due("cold", x.cold(-1, 0), 1000000004);
    Sentence.due("cold", x.cold(12, 0), 1000000006);
    Sentence.due("an int", x.hours(0), -4);
  }

  private static void lastCall() {
    RockHeat x = World.needing(3);
    for (int call = 3; call < 512; call++) {
      x.hours(1);
    }
    Due.due("What it is: the 512th call", x.told(5), 3 * 509);
    RockHeat y = new RockHeat();
    for (int call = 1; call < 512; call++) {
      y.hours(0);
    }
    Due.due("What it is: the 512th call", y.count(14), 511);
  }
}
