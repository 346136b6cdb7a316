/** "A minute goes like this", sentence by sentence, each at its edges. */
public final class MinuteSentencesTest {
  public static void main(String[] args) {
    ordersInTurn();
    testAsItComesToItsTurn();
    raiseHeld();
    capHeld();
    raiseStays();
    whatChangesNothing();
    shutOnce();
    ordersAheadOfFolk();
    folkFirstMinute();
    folkEvery();
    folkInLaterLists();
    folkOneByOne();
    tokensByRate();
    shutGetsTokens();
    folkAndTokensAheadOfSending();
    wellHasPailsLeft();
    ownAheadOfBorrowers();
    smallerRank();
    fewerSent();
    smallerNumber();
    spareIsLeft();
    waited();
    noLaneIsShutBehind();
    minuteInSums();
    spareInSums();
    factsOfLanesInSums();
    fullHolds();
    dryHolds();
    andBindsMore();
    Bench.end();
  }

  private static String lane(String name, int rate, int most, int burst, int rank, int holds) {
    return LanesSentencesTest.lane(name, rate, most, burst, rank, holds);
  }

  private static String under(String over, String lane) {
    return LanesSentencesTest.under(over, lane);
  }

  private static void facts(String when, BucketBrigade x, int what, int... want) {
    LanesSentencesTest.facts(when, x, what, want);
  }

  /** The sum as the most that q may send, which is told when it is 0 to 30. */
  private static final String Q = lane("q", 0, 17, 0, 0, 1);

  private static void ordersInTurn() {
    Bench.sentence("1. Orders, in the order in which they are told");
    BucketBrigade x = Bench.taught(lane("a", 5, 9, 9, 0, 60) + "cap a to 1;cap a to 2;cap a to 3;raise a to 8 when 1=1;raise a to 7 when 1=1;");
    x.pass(1);
    facts("the latest cap", x, 2, 3);
    facts("the latest raise", x, 1, 7);
    Bench.due("each one changed something", x.count(10), 5);
    x.pass(1);
    Bench.due("and again", x.count(10), 10);
    Bench.due("orders", x.count(4), 5);
  }

  private static void testAsItComesToItsTurn() {
    Bench.sentence("if the test holds as it comes to its turn (or there is none)");
    BucketBrigade x = Bench.taught(lane("a", 0, 9, 9, 0, 60) + Q + "cap a to 4 when 1=2;raise a to 4 when 1=2;shut a when 1=2;cap q to 3;cap q to 5 when 1=1;");
    x.bring(0, 1);
    Bench.due("a is not shut", x.pass(1), 1);
    facts("what holds", x, 2, 9, 5);
    facts("what does not", x, 1, 0, 0);
    Bench.due("two orders", x.count(10), 2);
    // A test that holds from the minute 2 to the minute 3.
    BucketBrigade y = Bench.taught(lane("a", 0, 9, 9, 0, 60) + "cap a to minute+20 when minute>=2 and minute<=3;");
    int[] want = {9, 9, 22, 23, 23};
    for (int m = 0; m < 5; m++) {
      y.pass(1);
      facts("behind minute " + m, y, 2, want[m]);
    }
  }

  private static final int[] SUMS = {0, 1, 29, 30, 31, 999999};

  private static void raiseHeld() {
    Bench.sentence("raise: the rate of the lane becomes the sum, held at 0 and 30");
    for (int sum : SUMS) {
      for (String sign : new String[] {"", "-"}) {
        BucketBrigade x = Bench.taught(lane("a", 7, 9, 9, 0, 60) + "raise a to " + sign + sum + " when 1=1;");
        x.pass(1);
        facts("raised to " + sign + sum, x, 1, sign.isEmpty() ? Math.min(30, sum) : 0);
        facts("not the most", x, 2, 9);
        Bench.due("carried out", x.count(10), 1);
      }
    }
    for (String wrapped : new String[] {"65536*32767+65535+1", "-65536*32768", "65536*65535"}) {
      BucketBrigade x = Bench.taught(lane("a", 7, 9, 9, 0, 60) + "raise a to " + wrapped + " when 1=1;");
      x.pass(1);
      facts("raised to " + wrapped, x, 1, 0);
    }
  }

  private static void capHeld() {
    Bench.sentence("cap: the most that it may send becomes the sum, likewise");
    for (int sum : SUMS) {
      for (String sign : new String[] {"", "-"}) {
        for (String test : new String[] {"", " when 1=1"}) {
          BucketBrigade x = Bench.taught("well 30;" + lane("a", 7, 9, 99, 0, 60) + "cap a to " + sign + sum + test + ";");
          x.bring(0, 30);
          x.bring(0, 30);
          int most = sign.isEmpty() ? Math.min(30, sum) : 0;
          Bench.due("sent in the same minute", x.pass(1), most);
          facts("capped to " + sign + sum, x, 2, most);
          facts("not the rate", x, 1, 7);
          Bench.due("carried out", x.count(10), 1);
        }
      }
    }
  }

  private static void raiseStays() {
    Bench.sentence("if that is another one than it is (it stays so)");
    BucketBrigade x = Bench.taught(lane("a", 7, 9, 9, 0, 60) + "raise a to 3 when minute=1;cap a to 4 when minute=1;");
    for (int m = 0; m < 4; m++) {
      x.pass(1);
      facts("rate behind minute " + m, x, 1, m == 0 ? 7 : 3);
      facts("most behind minute " + m, x, 2, m == 0 ? 9 : 4);
    }
    Bench.due("only once", x.count(10), 2);
  }

  private static void whatChangesNothing() {
    Bench.sentence("Each one that changes something so is carried out");
    int[] is = {0, 0, 0, 30, 30, 30, 7};
    String[] sum = {"0", "-1", "-999999", "30", "31", "999999", "7"};
    String[] other = {"1", "31", "1", "29", "-1", "29", "8"};
    for (int i = 0; i < is.length; i++) {
      BucketBrigade x = Bench.taught(lane("a", is[i], is[i], 9, 0, 60) + "raise a to " + sum[i] + " when 1=1;cap a to " + sum[i] + ";");
      x.pass(3);
      facts("rate", x, 1, is[i]);
      Bench.due("<" + sum[i] + "> changes nothing of " + is[i], x.count(10), 0);
      BucketBrigade y = Bench.taught(lane("a", is[i], is[i], 9, 0, 60) + "raise a to " + other[i] + " when 1=1;cap a to " + other[i] + ";");
      y.pass(3);
      Bench.due("<" + other[i] + "> changes " + is[i] + " once", y.count(10), 2);
    }
    BucketBrigade x = Bench.taught(lane("a", 7, 9, 9, 0, 60) + "raise a to 9 when 1=1;raise a to 7 when 1=1;");
    x.pass(5);
    Bench.due("there and back in each minute", x.count(10), 10);
  }

  private static void shutOnce() {
    Bench.sentence("shut: the lane is shut in this minute, if it is not already");
    BucketBrigade x = Bench.taught(lane("a", 7, 9, 9, 0, 60) + lane("b", 7, 9, 9, 0, 60) + "shut a when minute<2;shut a when 1=1;shut b when minute=1;");
    int[] carriedOut = {1, 3, 4, 5};
    int[] sent = {1, 0, 1, 1};
    x.bring(1, 9);
    x.bring(0, 9);
    x.setMost(1, 1);
    for (int m = 0; m < 4; m++) {
      Bench.due("sent in minute " + m, x.pass(1), sent[m]);
      Bench.due("carried out behind minute " + m, x.count(10), carriedOut[m]);
    }
    facts("a was shut always", x, 8, 0, 3);
  }

  private static void ordersAheadOfFolk() {
    Bench.sentence("1. Orders ... 2. Folk ... 3. Each lane ... gets ... tokens");
    String tests = "cap q to 1 when waits a=0;cap q to 2 when waits a>0;";
    BucketBrigade x = Bench.taught(lane("a", 9, 0, 9, 0, 60) + Q + "folk f to a brings 5 every 9 from 0;" + tests);
    x.pass(1);
    Bench.due("folk come behind the orders", x.lane(1, 2), 1);
    x.pass(1);
    Bench.due("and have come in the next minute", x.lane(1, 2), 2);
    // a has sent its token, and gets one in step 3: its orders find it dry in minute 1 all the same.
    BucketBrigade y = Bench.taught(lane("a", 1, 30, 1, 0, 60) + Q + "cap q to 1 when dry a;cap q to 2 when not dry a;");
    y.bring(0, 1);
    y.pass(1);
    Bench.due("not dry at first", y.lane(1, 2), 2);
    y.pass(1);
    Bench.due("dry ahead of step 3", y.lane(1, 2), 1);
    y.pass(1);
    Bench.due("not dry again", y.lane(1, 2), 2);
    BucketBrigade z = Bench.taught(lane("a", 0, 30, 9, 0, 60) + "raise a to 4 when minute=1;");
    z.bring(0, 9);
    z.pass(1);
    z.bring(0, 9);
    Bench.due("a raised rate counts in the same minute", z.pass(1), 4);
  }

  private static String folk(String lane, int brings, int every, int from) {
    return "folk " + lane + from + " to " + lane + " brings " + brings + " every " + every + " from " + from + ";";
  }

  private static void folkFirstMinute() {
    Bench.sentence("2. Folk ... if the minute is their first one (from)");
    for (int from : new int[] {0, 1, 2, 98, 99}) {
      BucketBrigade x = Bench.taught(lane("a", 0, 0, 0, 0, 60) + folk("a", 1, 30, from));
      if (from > 0) x.pass(from);
      Bench.due("none ahead of minute " + from, x.folk(0, 4), 0);
      Bench.due("none waits", x.lane(0, 6), 0);
      x.pass(1);
      Bench.due("in minute " + from, x.folk(0, 4), 1);
      LanesSentencesTest.pails("in minute " + from, x, 0, from);
    }
  }

  private static void folkEvery() {
    Bench.sentence("or so many times every minutes behind it");
    for (int every = 1; every <= 30; every++) {
      for (int from : new int[] {0, 3}) {
        BucketBrigade x = Bench.taught(lane("a", 0, 0, 0, 0, 60) + folk("a", 2, every, from));
        for (int m = 0; m < 65; m++) {
          x.pass(1);
          Bench.due("every " + every + " from " + from + ", behind minute " + m, x.folk(0, 4), m < from ? 0 : 2 * ((m - from) / every + 1));
        }
      }
    }
  }

  private static void folkInLaterLists() {
    Bench.sentence("if the minute is their first one (from) or so many times every minutes behind it: of lists that are read later");
    int[] from = {0, 2, 4, 5, 6, 9};
    for (int f : from) {
      BucketBrigade x = new BucketBrigade();
      x.pass(5);
      Bench.teach(x, lane("a", 0, 0, 0, 0, 60) + folk("a", 1, 3, f));
      int brought = 0;
      for (int m = 5; m < 20; m++) {
        x.pass(1);
        if (m == f || m == f + 3 || m == f + 6 || m == f + 9 || m == f + 12 || m == f + 15 || m == f + 18) brought++;
        Bench.due("from " + f + ", behind minute " + m, x.folk(0, 4), brought);
      }
    }
  }

  private static void folkOneByOne() {
    Bench.sentence("they bring their pails to their lane, one by one");
    for (int brings : new int[] {1, 2, 3, 29, 30}) {
      BucketBrigade x = Bench.taught(lane("a", 0, 0, 0, 0, 2) + LanesSentencesTest.dropsNew(lane("b", 0, 0, 0, 0, 2)) + lane("c", 0, 0, 0, 0, 60)
          + folk("a", brings, 30, 1) + folk("b", brings, 30, 1) + folk("c", brings, 30, 1));
      for (int lane = 0; lane < 3; lane++) x.bring(lane, 1);
      x.pass(2);
      int lost = Math.max(0, brings - 1);
      facts("lost of " + brings, x, 9, lost, lost, 0);
      LanesSentencesTest.pails("old ones are dropped", x, 0, brings > 1 ? new int[] {1, 1} : new int[] {0, 1});
      LanesSentencesTest.pails("new ones are dropped", x, 1, 0, 1);
      facts("waits", x, 6, 2, 2, brings + 1);
      Bench.due("came in all", x.count(6), 3 * brings + 3);
      for (int f = 0; f < 3; f++) Bench.due("brought by " + f, x.folk(f, 4), brings);
    }
    // Two folk to one lane: all of both.
    BucketBrigade x = Bench.taught(lane("a", 0, 0, 0, 0, 60) + "folk f to a brings 2 every 1 from 0;folk g to a brings 3 every 1 from 0;");
    x.pass(1);
    facts("of both", x, 6, 5);
  }

  private static void tokensByRate() {
    Bench.sentence("3. Each lane ... gets as many tokens as its rate, at most its burst");
    for (int rate : new int[] {0, 1, 2, 29, 30}) {
      for (int burst : new int[] {0, 1, 29, 30, 31, 99}) {
        BucketBrigade x = Bench.taught("well 30;" + lane("a", 0, 30, burst, 0, 60));
        for (int i = 0; i < 4; i++) {
          x.bring(0, 30);
          x.pass(1);
        }
        Bench.due("no tokens left", x.lane(0, 5), 0);
        x.setMost(0, 0);
        x.setRate(0, rate);
        for (int m = 1; m <= 5; m++) {
          x.pass(1);
          Bench.due("rate " + rate + ", burst " + burst + ", behind " + m, x.lane(0, 5), Math.min(burst, m * rate));
        }
      }
    }
  }

  private static void shutGetsTokens() {
    Bench.sentence("3. Each lane, a shut one too, gets as many tokens as its rate");
    BucketBrigade x = Bench.taught(lane("a", 0, 30, 5, 0, 60) + "shut a when minute>0;raise a to 2 when minute>0;");
    x.bring(0, 5);
    x.pass(1);
    int[] want = {2, 4, 5, 5};
    for (int i = 0; i < 4; i++) {
      x.pass(1);
      facts("shut", x, 5, want[i]);
    }
  }

  private static void folkAndTokensAheadOfSending() {
    Bench.sentence("3. ... gets as many tokens ... 4. As long as the well has pails left");
    BucketBrigade x = Bench.taught("well 30;" + lane("a", 3, 30, 4, 0, 60) + folk("a", 6, 1, 0));
    Bench.due("four at first, and none more than the burst", x.pass(1), 4);
    Bench.due("three more", x.pass(1), 3);
    facts("tokens are used in the minute in which they come", x, 5, 0);
    BucketBrigade y = Bench.taught("well 30;" + lane("a", 1, 30, 1, 0, 60) + folk("a", 1, 1, 0));
    for (int m = 0; m < 5; m++) Bench.due("one comes and goes in minute " + m, y.pass(1), 1);
    facts("it waited no minute", y, 12, 0);
  }

  private static void wellHasPailsLeft() {
    Bench.sentence("4. As long as the well has pails left for this minute, and some lane can send");
    for (int well : new int[] {0, 1, 4, 5, 6, 30}) {
      BucketBrigade x = Bench.taught("well " + well + ";" + lane("a", 0, 30, 9, 0, 60) + lane("b", 0, 30, 2, 0, 60));
      x.bring(0, 3);
      x.bring(1, 9);
      Bench.due("five can be sent by a well of " + well, x.pass(1), Math.min(5, well));
      Bench.due("spare", x.count(11), Math.max(0, well - 5));
    }
  }

  private static void ownAheadOfBorrowers() {
    Bench.sentence("those that are their own lenders go ahead of those who borrow");
    // b borrows, and has the smaller rank, the fewer sent, and the smaller number.
    BucketBrigade x = Bench.taught("well 1;" + lane("a", 0, 30, 9, 5, 60) + under("a", lane("b", 0, 30, 0, 0, 60)) + lane("c", 0, 30, 3, 9, 60));
    x.bring(1, 9);
    x.bring(2, 9);
    for (int m = 1; m <= 3; m++) {
      x.pass(1);
      facts("c has tokens", x, 8, 0, 0, m);
    }
    x.pass(1);
    facts("c has none any more", x, 8, 0, 1, 3);
    // In one minute: b has one token of its own, then it borrows.
    BucketBrigade y = Bench.taught("well 3;" + lane("a", 0, 30, 9, 0, 60) + under("a", lane("b", 0, 30, 1, 1, 60)) + lane("c", 0, 30, 1, 9, 60));
    y.bring(1, 9);
    y.bring(2, 9);
    y.pass(1);
    facts("b, c, and b by a token of a", y, 8, 0, 2, 1);
    facts("b borrowed once", y, 11, 0, 1, 0);
    BucketBrigade z = Bench.taught("well 2;" + lane("a", 0, 30, 9, 0, 60) + under("a", lane("b", 0, 30, 1, 1, 60)) + lane("c", 0, 30, 1, 9, 60));
    z.bring(1, 9);
    z.bring(2, 9);
    z.pass(1);
    facts("b and c, both by their own", z, 8, 0, 1, 1);
    // One token is as good as many: then it goes by the rank, and by the number.
    for (int rank = 4; rank <= 6; rank++) {
      for (int tokens = 1; tokens <= 3; tokens++) {
        BucketBrigade w = Bench.taught("well 1;" + lane("a", 0, 30, tokens, 5, 60) + lane("b", 0, 30, 4 - tokens, rank, 60));
        w.bring(0, 9);
        w.bring(1, 9);
        w.pass(1);
        facts(tokens + " and " + (4 - tokens) + " tokens, rank 5 and " + rank, w, 8, rank < 5 ? 0 : 1, rank < 5 ? 1 : 0);
      }
    }
  }

  private static void smallerRank() {
    Bench.sentence("of them the smaller rank goes ahead");
    for (int rank = 0; rank <= 9; rank++) {
      BucketBrigade x = Bench.taught("well 4;" + lane("a", 0, 30, 9, 5, 60) + lane("b", 0, 30, 9, rank, 60));
      x.bring(0, 9);
      x.bring(1, 9);
      x.pass(1);
      facts("rank 5 and rank " + rank, x, 8, rank < 5 ? 0 : rank == 5 ? 2 : 4, rank < 5 ? 4 : rank == 5 ? 2 : 0);
      BucketBrigade y = Bench.taught("well 4;" + lane("t", 0, 30, 9, 0, 60) + under("t", lane("a", 0, 30, 0, 5, 60)) + under("t", lane("b", 0, 30, 0, rank, 60)));
      y.bring(1, 9);
      y.bring(2, 9);
      y.pass(1);
      facts("borrowers of rank 5 and rank " + rank, y, 8, 0, rank < 5 ? 0 : rank == 5 ? 2 : 4, rank < 5 ? 4 : rank == 5 ? 2 : 0);
    }
  }

  private static void fewerSent() {
    Bench.sentence("of as small ones who has sent fewer pails of the own queue (not of those under it) in this minute");
    for (int well = 1; well <= 9; well++) {
      BucketBrigade x = Bench.taught("well " + well + ";" + lane("a", 0, 30, 99, 4, 60) + lane("b", 0, 30, 99, 4, 60) + lane("c", 0, 30, 99, 4, 60));
      for (int i = 0; i < 3; i++) x.bring(i, 30);
      for (int m = 1; m <= 3; m++) {
        x.pass(1);
        facts("a well of " + well + ", minute " + m, x, 8, m * ((well + 2) / 3), m * ((well + 1) / 3), m * (well / 3));
      }
    }
    // c sends two for a by its rank; a is not behind b for that.
    BucketBrigade y = Bench.taught("well 3;" + lane("a", 0, 30, 99, 4, 60) + lane("b", 0, 30, 99, 4, 60) + under("a", lane("c", 0, 30, 99, 0, 60)));
    y.bring(0, 9);
    y.bring(1, 9);
    y.bring(2, 2);
    y.pass(1);
    facts("of the own queue", y, 8, 1, 0, 2);
    // What was sent in the minutes ahead does not count.
    BucketBrigade z = Bench.taught("well 1;" + lane("a", 0, 30, 99, 4, 60) + lane("b", 0, 30, 99, 4, 60));
    z.bring(0, 9);
    z.bring(1, 9);
    z.pass(4);
    facts("in this minute", z, 8, 4, 0);
  }

  private static void smallerNumber() {
    Bench.sentence("of as few the smaller number");
    StringBuilder text = new StringBuilder();
    for (int i = 0; i < 6; i++) text.append(lane("" + (char) ('z' - i), 0, 30, 99, 9, 60));
    for (int well = 1; well <= 12; well++) {
      BucketBrigade x = Bench.taught("well " + well + ";" + text);
      for (int i = 0; i < 6; i++) x.bring(5 - i, 9);
      x.pass(1);
      for (int i = 0; i < 6; i++) Bench.due("a well of " + well + ", sent by " + i, x.lane(i, 8), (well + 5 - i) / 6);
    }
  }

  private static void spareIsLeft() {
    Bench.sentence("What the well has left then is spare");
    BucketBrigade x = Bench.taught("well 9;" + lane("a", 0, 30, 99, 0, 60));
    Bench.due("ahead of the first minute", x.count(11), 0);
    for (int pails : new int[] {0, 1, 8, 9, 10}) {
      if (pails > 0) x.bring(0, pails);
      x.pass(1);
      Bench.due("of 9 behind " + pails, x.count(11), Math.max(0, 9 - pails));
    }
    x.setWell(0);
    x.pass(1);
    Bench.due("of none", x.count(11), 0);
    x.setWell(30);
    Bench.due("not yet", x.count(11), 0);
    x.pass(1);
    Bench.due("of 30, the one that was left is sent", x.count(11), 29);
  }

  private static void waited() {
    Bench.sentence("5. A pail that is sent has waited as many minutes as have begun since the one in which it came (0 in the same one)");
    for (int minutes : new int[] {0, 1, 2, 50, 300}) {
      BucketBrigade x = Bench.taught("well 0;" + lane("a", 0, 30, 99, 0, 60));
      x.bring(0, 2);
      for (int m = 0; m < minutes; m += 50) x.pass(Math.min(50, minutes - m));
      x.setWell(1);
      Bench.due("one is sent", x.pass(1), 1);
      facts("behind " + minutes, x, 12, minutes);
      x.pass(1);
      facts("and the other one", x, 12, 2 * minutes + 1);
    }
    BucketBrigade x = Bench.taught("well 0;" + lane("a", 0, 30, 99, 0, 2));
    x.bring(0, 2);
    x.pass(7);
    x.bring(0, 1);
    x.setWell(9);
    x.pass(1);
    facts("the one that was lost does not count", x, 12, 7);
  }

  private static void noLaneIsShutBehind() {
    Bench.sentence("The minute is 1 greater, and no lane is shut");
    BucketBrigade x = Bench.taught(lane("a", 0, 30, 9, 0, 60) + under("a", lane("b", 0, 30, 0, 0, 60)) + "shut a when minute<3;");
    for (int m = 1; m <= 3; m++) {
      x.pass(1);
      Bench.due("the minute", x.count(0), m);
      Bench.due("a lends again", x.lender(1), 0);
      Bench.due("a lends to itself", x.lender(0), 0);
    }
    x.bring(0, 2);
    Bench.due("a is not shut in minute 3", x.pass(1), 2);
  }

  /** What the sum is in each of these minutes, each told by the most that q may send. */
  private static void sumIs(String sum, BucketBrigade x, int q, int... want) {
    for (int m = 0; m < want.length; m++) {
      x.pass(1);
      Bench.due(sum + " in minute " + m, x.lane(q, 2), want[m]);
    }
  }

  private static void minuteInSums() {
    Bench.sentence("In tests and sums minute is the minute");
    sumIs("minute", Bench.taught(Q + "cap q to minute;"), 0, 0, 1, 2, 3);
    sumIs("minute in a test", Bench.taught(Q + "cap q to 4 when minute=0;cap q to 5 when minute=1;cap q to 6 when minute>1;"), 0, 4, 5, 6, 6);
    BucketBrigade x = new BucketBrigade();
    x.pass(9);
    Bench.teach(x, Q + "cap q to minute;");
    sumIs("minute behind a list", x, 0, 9, 10, 11);
  }

  private static void spareInSums() {
    Bench.sentence("spare what the well had left in the minute ahead (0 in the first one behind a list that was read)");
    String text = "well 8;" + lane("a", 0, 30, 99, 0, 60) + Q + "cap q to spare;";
    BucketBrigade x = Bench.taught(text);
    x.bring(0, 3);
    sumIs("spare", x, 1, 0, 5, 8, 8);
    Bench.due("spare now", x.count(11), 8);
    Bench.due("a list with an error", Bench.teach(x, "well 31;"), 5);
    Bench.due("spare is as it was", x.count(11), 8);
    sumIs("spare behind a list with an error", x, 1, 8);
    Bench.teach(x, text);
    Bench.due("spare behind a list", x.count(11), 0);
    sumIs("spare behind a list", x, 1, 0, 8);
    BucketBrigade y = new BucketBrigade();
    y.pass(2);
    Bench.due("without lanes", y.count(11), 20);
    Bench.teach(y, Q + "cap q to spare;");
    sumIs("spare behind the first list", y, 0, 0, 20);
  }

  private static void factsOfLanesInSums() {
    Bench.sentence("tokens those of a lane, waits the pails that wait in it, sent, lost and lent what it sent of its own queue, lost, and lent, in all");
    // In minute 0 b sends 2 by its own tokens and 3 by those of a, and a sends 1; 4 pails of b are lost, and 1 waits.
    String lanes = "well 6;" + lane("a", 0, 30, 9, 5, 60) + under("a", lane("b", 0, 30, 2, 0, 6)) + Q + "folk f to b brings 10 every 30 from 0;";
    String[] sums = {"tokens a", "tokens b", "waits a", "waits b", "sent a", "sent b", "lost a", "lost b", "lent a", "lent b"};
    int[][] want = {{9, 5, 4}, {2, 0, 0}, {1, 0, 0}, {0, 1, 0}, {0, 1, 1}, {0, 5, 6}, {0, 0, 0}, {0, 4, 4}, {0, 3, 4}, {0, 0, 0}};
    for (int i = 0; i < sums.length; i++) {
      for (String order : new String[] {"cap q to " + sums[i] + ";", "cap q to 29;cap q to 0-(-" + sums[i] + ") when " + sums[i] + ">=0;"}) {
        BucketBrigade x = Bench.taught(lanes + order);
        x.bring(0, 1);
        sumIs(sums[i], x, 2, want[i]);
      }
    }
  }

  private static void fullHolds() {
    Bench.sentence("full holds, if the queue of the lane is full");
    for (int holds : new int[] {1, 2, 30, 60}) {
      for (int pails = 0; pails <= holds + 1; pails++) {
        BucketBrigade x = Bench.taught(lane("a", 0, 0, 0, 0, holds) + Q + "cap q to 0 when full a;");
        for (int left = pails; left > 0; left -= 30) x.bring(0, Math.min(30, left));
        x.pass(1);
        Bench.due(pails + " of " + holds, x.lane(1, 2), pails >= holds ? 0 : 17);
      }
    }
    everywhere("full a", lane("a", 0, 0, 0, 0, 1) + "folk f to a brings 1 every 1 from 0;", true);
    everywhere("full a", lane("a", 0, 0, 0, 0, 2) + "folk f to a brings 1 every 30 from 0;", false);
  }

  /** What holds in minute 1 alone, within not, and, or and [ ]. */
  private static void everywhere(String test, String lanes, boolean holds) {
    String[] tests = {test, "not " + test, "not not " + test, "[" + test + "]", test + " and 1=1", "1=1 and " + test, test + " and not " + test,
      test + " or 1=2", "1=2 or " + test, test + " or not " + test, "not [" + test + " and " + test + "]", "not [" + test + " or " + test + "]"};
    boolean[] same = {true, false, true, true, true, true, false, true, true, true, false, false};
    for (int i = 0; i < tests.length; i++) {
      BucketBrigade x = Bench.taught(lanes + Q + "cap q to 0 when minute=1 and [" + tests[i] + "];");
      x.pass(2);
      boolean want = tests[i].equals(test + " or not " + test) || (!tests[i].equals(test + " and not " + test) && same[i] == holds);
      Bench.due("<" + tests[i] + "> with <" + lanes + ">", x.lane(1, 2), want ? 0 : 17);
    }
  }

  private static void dryHolds() {
    Bench.sentence("dry, if the lane has no token");
    for (int tokens : new int[] {0, 1, 2, 99}) {
      BucketBrigade x = Bench.taught(lane("a", 0, 0, tokens, 0, 9) + Q + "cap q to 0 when dry a;");
      x.pass(1);
      Bench.due(tokens + " tokens", x.lane(1, 2), tokens == 0 ? 0 : 17);
    }
    everywhere("dry a", lane("a", 0, 0, 0, 0, 1), true);
    everywhere("dry a", lane("a", 1, 0, 1, 0, 1), false);
    for (String yes : YES) everywhere(yes, lane("a", 0, 0, 0, 0, 1), true);
    for (String no : NO) everywhere(no, lane("a", 0, 0, 0, 0, 1), false);
    // The tokens of the lane itself, not those of its lender.
    BucketBrigade y = Bench.taught(lane("t", 0, 0, 9, 0, 9) + under("t", lane("a", 0, 0, 0, 0, 9)) + Q + "cap q to 0 when dry a;");
    y.pass(1);
    Bench.due("a lender with tokens", y.lane(2, 2), 0);
  }

  private static final String[] YES = {"1=1", "1<2", "2>1", "1<=2", "2<=2", "2>=1", "2>=2"};
  private static final String[] NO = {"1=2", "2<2", "2<1", "2>2", "1>2", "2<=1", "1>=2"};

  private static void andBindsMore() {
    Bench.sentence("and binds more than or, not more than and");
    boolean[] truth = {false, true};
    String[] text = {"1=2", "1=1"};
    for (int a = 0; a < 2; a++) {
      for (int b = 0; b < 2; b++) {
        for (int c = 0; c < 2; c++) {
          boolean x = truth[a];
          boolean y = truth[b];
          boolean z = truth[c];
          testIs(text[a] + " or " + text[b] + " and " + text[c], x || (y && z));
          testIs(text[a] + " and " + text[b] + " or " + text[c], (x && y) || z);
          testIs("not " + text[a] + " and " + text[b] + " or " + text[c], (!x && y) || z);
          testIs("not " + text[a] + " or " + text[b] + " and not " + text[c], !x || (y && !z));
          testIs("[" + text[a] + " or " + text[b] + "] and " + text[c], (x || y) && z);
          testIs("not [" + text[a] + " and " + text[b] + "] or " + text[c], !(x && y) || z);
          testIs("not [" + text[a] + " or " + text[b] + "] and " + text[c], !(x || y) && z);
          testIs(text[a] + " and " + text[b] + " and " + text[c], x && y && z);
          testIs(text[a] + " or " + text[b] + " or " + text[c], x || y || z);
          testIs("not not " + text[a] + " and not not not " + text[b], x && !y);
        }
      }
    }
  }

  private static void testIs(String test, boolean want) {
    BucketBrigade x = Bench.taught(Q + "cap q to 0 when " + test + ";");
    x.pass(1);
    Bench.due(test, x.lane(0, 2), want ? 0 : 17);
  }
}
