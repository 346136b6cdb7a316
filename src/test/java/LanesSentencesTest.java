/** "2. The lanes", sentence by sentence, each at its edges. */
public final class LanesSentencesTest {
  public static void main(String[] args) {
    wellGives();
    lanesOver();
    tokensAtFirst();
    tokensNeverBelow();
    roomOfQueues();
    fullQueueDropsOld();
    fullQueueDropsNew();
    queueOfOne();
    lenders();
    noPailNoSending();
    shutNoSending();
    noLenderNoSending();
    mostOfItself();
    mostOfThoseOver();
    sentForThoseOver();
    shutOnesOver();
    frontIsGone();
    borrowedAndLent();
    Bench.end();
  }

  static String lane(String name, int rate, int most, int burst, int rank, int holds) {
    return "lane " + name + " rate " + rate + " most " + most + " burst " + burst + " rank " + rank + " holds " + holds + " drops old;";
  }

  static String under(String over, String lane) {
    return lane.replaceFirst(" rate", " under " + over + " rate");
  }

  static String dropsNew(String lane) {
    return lane.replace("drops old", "drops new");
  }

  /** Row by row: what lane() tells of this, for the lanes from 0 on. */
  static void facts(String when, BucketBrigade x, int what, int... want) {
    for (int i = 0; i < want.length; i++) Bench.due(when + ": lane(" + i + ", " + what + ")", x.lane(i, what), want[i]);
  }

  static void pails(String when, BucketBrigade x, int lane, int... want) {
    Bench.due(when + ": pails that wait in " + lane, x.lane(lane, 6), want.length);
    for (int i = 0; i < want.length && i < x.lane(lane, 6); i++) Bench.due(when + ": pail(" + lane + ", " + i + ")", x.pail(lane, i), want[i]);
  }

  private static void wellGives() {
    Bench.sentence("The well gives so many pails in a minute");
    for (int well = 0; well <= 30; well++) {
      BucketBrigade x = Bench.taught("well " + well + ";" + lane("a", 0, 30, 99, 0, 60) + lane("b", 0, 30, 99, 0, 60));
      for (int i = 0; i < 4; i++) x.bring(i % 2, 30);
      Bench.due("sent with a well of " + well, x.pass(1), well);
      Bench.due("spare", x.count(11), 0);
      Bench.due("sent in the next minute", x.pass(1), well);
    }
    BucketBrigade x = Bench.taught(lane("a", 0, 30, 99, 0, 60));
    x.bring(0, 30);
    Bench.due("sent without a line of well", x.pass(1), 20);
    Bench.due("the other ones", x.pass(1), 10);
    Bench.due("spare", x.count(11), 10);
  }

  private static void lanesOver() {
    Bench.sentence("the lanes over it are that one, the one over that, and so on");
    StringBuilder text = new StringBuilder(lane("a", 0, 30, 9, 0, 60));
    for (char c = 'b'; c <= 'f'; c++) text.append(under("" + (char) (c - 1), lane("" + c, 0, 30, 0, 0, 60)));
    BucketBrigade x = Bench.taught(text.toString());
    facts("a row of six", x, 0, -1, 0, 1, 2, 3, 4);
    for (int i = 0; i < 6; i++) Bench.due("lender of " + i, x.lender(i), 0);
    x.bring(5, 9);
    x.setMost(0, 4);
    Bench.due("f sends as the topmost may", x.pass(1), 4);
    facts("a row of six", x, 10, 4, 0, 0, 0, 0, 0);
    facts("a row of six", x, 11, 0, 0, 0, 0, 0, 4);
    // Under none: no one's tokens are borrowed.
    BucketBrigade y = Bench.taught(lane("a", 0, 30, 9, 0, 60) + lane("b", 0, 30, 0, 0, 60));
    facts("under none", y, 0, -1, -1);
    y.bring(1, 3);
    Bench.due("b has no lender", y.pass(1), 0);
  }

  private static void tokensAtFirst() {
    Bench.sentence("A lane has tokens, 0 to its burst (as many as its burst, at first)");
    for (int burst = 0; burst <= 99; burst++) {
      BucketBrigade x = Bench.taught(lane("a", 3, 30, burst, 0, 60));
      Bench.due("tokens at first", x.lane(0, 5), burst);
      x.pass(1);
      Bench.due("tokens behind a minute", x.lane(0, 5), burst);
      Bench.due("all that can be given", x.give(0, 99), burst);
    }
  }

  private static void tokensNeverBelow() {
    Bench.sentence("A lane has tokens, 0 to its burst");
    for (int burst = 0; burst <= 3; burst++) {
      BucketBrigade x = Bench.taught(lane("a", 0, 30, burst, 0, 60));
      x.bring(0, 9);
      Bench.due("sent by " + burst + " tokens", x.pass(1), burst);
      Bench.due("tokens", x.lane(0, 5), 0);
      Bench.due("sent by none", x.pass(5), 0);
      Bench.due("tokens", x.lane(0, 5), 0);
    }
  }

  private static void roomOfQueues() {
    Bench.sentence("a queue of pails, the one that came first at the front, which has room for so many as it holds");
    for (int holds : new int[] {1, 2, 29, 30, 31, 59, 60}) {
      for (String text : new String[] {lane("a", 0, 30, 0, 0, holds), dropsNew(lane("a", 0, 30, 0, 0, holds))}) {
        BucketBrigade x = Bench.taught(text);
        for (int i = 1; i <= holds; i++) {
          Bench.due("lost with room", x.bring(0, 1), 0);
          Bench.due("pails", x.lane(0, 6), i);
        }
        for (int i = 1; i <= 3; i++) {
          Bench.due("lost without room", x.bring(0, 1), 1);
          Bench.due("pails", x.lane(0, 6), holds);
          Bench.due("lost in all", x.lane(0, 9), i);
        }
      }
    }
    BucketBrigade x = Bench.taught(lane("a", 0, 30, 0, 0, 4));
    for (int i = 0; i < 4; i++) {
      x.bring(0, 1);
      x.pass(1);
    }
    pails("the first at the front", x, 0, 0, 1, 2, 3);
  }

  private static BucketBrigade filled(String text) {
    BucketBrigade x = Bench.taught(text);
    for (int i = 0; i < 3; i++) {
      Bench.due("none is lost in " + i, x.bring(0, 1), 0);
      x.pass(1);
    }
    return x;
  }

  private static void fullQueueDropsOld() {
    Bench.sentence("A pail that comes into a full queue: if the lane drops old ones, the pail at the front is lost, and the new one comes to the end");
    BucketBrigade x = filled(lane("a", 0, 30, 0, 0, 3) + "folk f to a brings 2 every 30 from 5;");
    pails("full", x, 0, 0, 1, 2);
    Bench.due("one is lost", x.bring(0, 1), 1);
    pails("one more", x, 0, 1, 2, 3);
    x.pass(1);
    Bench.due("two are lost", x.bring(0, 2), 2);
    pails("two more", x, 0, 3, 4, 4);
    x.pass(2);
    pails("folk brought two", x, 0, 4, 5, 5);
    Bench.due("lost in all", x.lane(0, 9), 5);
    Bench.due("came in all", x.count(6), 8);
    Bench.due("more than it holds", x.bring(0, 30), 30);
    pails("thirty more", x, 0, 6, 6, 6);
  }

  private static void fullQueueDropsNew() {
    Bench.sentence("A pail that comes into a full queue: ... otherwise the new one is lost");
    BucketBrigade x = filled(dropsNew(lane("a", 0, 30, 0, 0, 3)) + "folk f to a brings 2 every 30 from 5;");
    Bench.due("one is lost", x.bring(0, 1), 1);
    pails("one more", x, 0, 0, 1, 2);
    x.pass(1);
    Bench.due("two are lost", x.bring(0, 2), 2);
    x.pass(2);
    pails("folk brought two", x, 0, 0, 1, 2);
    Bench.due("lost in all", x.lane(0, 9), 5);
    Bench.due("came in all", x.count(6), 8);
    Bench.due("brought in all", x.folk(0, 4), 2);
    x.setWell(1);
    x.give(0, 1);
    x.setRate(0, 0);
    Bench.due("no burst, no token", x.pass(1), 0);
    BucketBrigade y = Bench.taught(dropsNew(lane("a", 0, 30, 9, 0, 3)));
    y.setWell(0);
    y.bring(0, 2);
    y.pass(1);
    Bench.due("one has room, two have not", y.bring(0, 3), 2);
    pails("one of three", y, 0, 0, 0, 1);
  }

  private static void queueOfOne() {
    Bench.sentence("A pail that comes into a full queue: the queue that holds one");
    BucketBrigade x = Bench.taught(lane("a", 0, 30, 0, 0, 1) + dropsNew(lane("b", 0, 30, 0, 0, 1)));
    for (int lane = 0; lane < 2; lane++) Bench.due("the first one has room", x.bring(lane, 1), 0);
    x.pass(1);
    for (int lane = 0; lane < 2; lane++) Bench.due("all others but one are lost", x.bring(lane, 30), 30);
    pails("the new one", x, 0, 1);
    pails("the old one", x, 1, 0);
    BucketBrigade y = Bench.taught(lane("a", 0, 30, 0, 0, 1) + dropsNew(lane("b", 0, 30, 0, 0, 1)));
    for (int lane = 0; lane < 2; lane++) Bench.due("thirty into an empty one", y.bring(lane, 30), 29);
  }

  // a over b over c; each has just one token.
  private static BucketBrigade row() {
    BucketBrigade x = Bench.taught("well 1;" + lane("a", 0, 30, 1, 0, 60) + under("a", lane("b", 0, 30, 1, 0, 60)) + under("b", lane("c", 0, 30, 1, 0, 60)));
    x.bring(2, 4);
    return x;
  }

  private static void lenders() {
    Bench.sentence("The lender of a lane: the first one with a token that is not shut, of itself, the lane over it, the one over that, and so on; none, if there is no such one");
    BucketBrigade x = row();
    int[][] lender = {{0, 1, 2}, {0, 1, 1}, {0, 0, 0}, {-1, -1, -1}, {-1, -1, -1}};
    int[] sent = {1, 1, 1, 0, 0};
    for (int m = 0; m < 5; m++) {
      for (int i = 0; i < 3; i++) Bench.due("lender of " + i + " in minute " + m, x.lender(i), lender[m][i]);
      Bench.due("sent in minute " + m, x.pass(1), sent[m]);
    }
    facts("lent", x, 10, 1, 1, 0);
    x.give(1, 1);
    for (int i = 0; i < 3; i++) Bench.due("lender of " + i + " with a token of b", x.lender(i), i == 0 ? -1 : 1);
    // Those that are shut lend nothing: not the one over, and not the one between.
    String[] shut = {"shut b when minute=0;", "shut a when minute=0;", "shut a when minute=0;shut b when minute=0;"};
    int[][] tokens = {{0, 1, 0}, {1, 0, 0}, {1, 1, 0}};
    int[] sentByC = {2, 2, 1};
    for (int i = 0; i < shut.length; i++) {
      BucketBrigade y = Bench.taught(lane("a", 0, 30, 1, 0, 60) + under("a", lane("b", 0, 30, 1, 0, 60)) + under("b", lane("c", 0, 30, 1, 0, 60)) + shut[i]);
      y.bring(2, 4);
      Bench.due("sent by c with <" + shut[i] + ">", y.pass(1), sentByC[i]);
      facts("<" + shut[i] + ">", y, 5, tokens[i]);
      for (int k = 0; k < 3; k++) Bench.due("lender of " + k + " when none is shut any more", y.lender(k), tokens[i][k] > 0 ? k : k > 0 && tokens[i][1] > 0 ? 1 : tokens[i][0] > 0 ? 0 : -1);
    }
  }

  private static void noPailNoSending() {
    Bench.sentence("A lane can send a pail, if one waits in it");
    BucketBrigade x = Bench.taught(lane("a", 0, 30, 9, 0, 60));
    Bench.due("none waits", x.pass(1), 0);
    Bench.due("spare", x.count(11), 20);
    x.bring(0, 1);
    Bench.due("one waits", x.pass(1), 1);
    Bench.due("spare", x.count(11), 19);
    Bench.due("tokens", x.lane(0, 5), 8);
    Bench.due("none waits any more", x.pass(1), 0);
  }

  private static void shutNoSending() {
    Bench.sentence("A lane can send a pail, if ... it is not shut");
    BucketBrigade x = Bench.taught(lane("a", 0, 30, 9, 0, 60) + "shut a when minute=1;");
    x.bring(0, 2);
    x.setMost(0, 1);
    Bench.due("not shut", x.pass(1), 1);
    Bench.due("shut", x.pass(1), 0);
    Bench.due("not shut any more", x.pass(1), 1);
  }

  private static void noLenderNoSending() {
    Bench.sentence("A lane can send a pail, if ... it has a lender");
    BucketBrigade x = Bench.taught(lane("a", 0, 30, 1, 0, 60) + under("a", lane("b", 0, 30, 0, 0, 60)) + lane("c", 0, 30, 0, 0, 60));
    for (int lane = 1; lane < 3; lane++) x.bring(lane, 2);
    Bench.due("one token for b, and none for c", x.pass(1), 1);
    facts("sent", x, 8, 0, 1, 0);
    Bench.due("no token", x.pass(1), 0);
    x.give(0, 1);
    Bench.due("one more token", x.pass(1), 1);
    facts("sent", x, 8, 0, 2, 0);
  }

  private static void mostOfItself() {
    Bench.sentence("neither it ... has sent as many in this minute as it may at the most");
    for (int most = 0; most <= 30; most++) {
      BucketBrigade x = Bench.taught("well 30;" + lane("a", 0, most, 99, 0, 60));
      x.bring(0, 30);
      x.bring(0, 30);
      Bench.due("the most of " + most, x.pass(1), most);
      Bench.due("anew in the next minute", x.pass(1), Math.min(most, 60 - most));
    }
  }

  private static void mostOfThoseOver() {
    Bench.sentence("neither ... nor any lane over it has sent as many in this minute as it may at the most");
    for (int at = 0; at < 3; at++) {
      for (int most = 0; most <= 30; most += 3) {
        BucketBrigade x = Bench.taught("well 30;" + lane("a", 0, 30, 99, 0, 60) + under("a", lane("b", 0, 30, 99, 0, 60)) + under("b", lane("c", 0, 30, 99, 0, 60))
            + lane("d", 0, 30, 99, 0, 60));
        x.bring(2, 30);
        x.bring(2, 30);
        x.setMost(at, most);
        Bench.due("c with the most of " + most + " at " + at, x.pass(1), most);
        x.setMost(at, 30);
        x.bring(3, 30);
        x.setMost(2, 0);
        Bench.due("d is under none of them", x.pass(1), 30);
      }
    }
  }

  private static void sentForThoseOver() {
    Bench.sentence("what a lane sends, all lanes over it have sent, too");
    // c sends first by its rank; then b and a may send what is left to them.
    BucketBrigade x = Bench.taught("well 30;" + lane("a", 0, 7, 99, 9, 60) + under("a", lane("b", 0, 5, 99, 5, 60)) + under("b", lane("c", 0, 3, 99, 0, 60))
        + under("a", lane("d", 0, 1, 99, 6, 60)));
    for (int i = 0; i < 4; i++) x.bring(i, 30);
    Bench.due("seven in all", x.pass(1), 7);
    facts("own queues alone", x, 8, 1, 2, 3, 1);
    x.setMost(3, 9);
    x.pass(1);
    facts("d has no bound of its own", x, 8, 1, 4, 6, 3);
    x.setMost(1, 0);
    x.pass(1);
    facts("b may send none", x, 8, 1, 4, 6, 10);
  }

  private static void shutOnesOver() {
    Bench.sentence("lanes over it that are shut as well: these lend nothing, but those under them can send");
    for (int most = 0; most <= 4; most++) {
      BucketBrigade x = Bench.taught("well 30;" + lane("a", 0, 30, 99, 0, 60) + under("a", lane("b", 0, most, 99, 0, 60)) + under("b", lane("c", 0, 30, 2, 0, 60)) + "shut b when 1=1;");
      x.bring(1, 9);
      x.bring(2, 9);
      Bench.due("c sends as many as b may", x.pass(1), most);
      facts("b lends none", x, 5, 99 - Math.max(0, most - 2), 99, 2 - Math.min(2, most));
      facts("b sends none", x, 8, 0, 0, most);
      facts("a lends for it", x, 10, Math.max(0, most - 2), 0, 0);
    }
    BucketBrigade y = Bench.taught("well 30;" + lane("a", 0, 2, 99, 0, 60) + under("a", lane("b", 0, 30, 99, 0, 60)) + under("a", lane("c", 0, 30, 9, 0, 60)) + "shut a when 1=1;");
    y.bring(1, 9);
    y.bring(2, 9);
    Bench.due("both under a shut one", y.pass(1), 2);
    facts("one of each", y, 8, 0, 1, 1);
  }

  private static void frontIsGone() {
    Bench.sentence("As it sends one, the pail at the front is gone, and the lender has a token less");
    BucketBrigade x = Bench.taught("well 1;" + lane("a", 0, 30, 5, 0, 4));
    x.setWell(0);
    for (int i = 0; i < 3; i++) {
      x.bring(0, 1);
      x.pass(1);
    }
    x.setWell(1);
    for (int gone = 1; gone <= 3; gone++) {
      Bench.due("one is sent", x.pass(1), 1);
      pails("behind " + gone, x, 0, gone == 1 ? new int[] {1, 2} : gone == 2 ? new int[] {2} : new int[0]);
      Bench.due("tokens", x.lane(0, 5), 5 - gone);
      Bench.due("sent", x.lane(0, 8), gone);
    }
    // The places of a queue are used again and again.
    for (int i = 0; i < 30; i++) {
      x.bring(0, 2);
      x.give(0, 5);
      x.pass(1);
      x.pass(1);
      Bench.due("none is lost", x.lane(0, 9), 0);
      Bench.due("none waits", x.lane(0, 6), 0);
    }
  }

  private static void borrowedAndLent() {
    Bench.sentence("if the lender is another lane (and only then), this one has borrowed one more, and that one has lent one more");
    BucketBrigade x = Bench.taught(lane("a", 0, 30, 3, 0, 60) + under("a", lane("b", 0, 30, 2, 0, 60)) + under("b", lane("c", 0, 30, 1, 0, 60)));
    x.bring(0, 1);
    Bench.due("a by its own token", x.pass(1), 1);
    facts("own", x, 10, 0, 0, 0);
    facts("own", x, 11, 0, 0, 0);
    Bench.due("borrowed in all", x.count(9), 0);
    x.bring(2, 9);
    Bench.due("c by one of its own, two of b and two of a", x.pass(1), 5);
    facts("lent", x, 10, 2, 2, 0);
    facts("borrowed", x, 11, 0, 0, 4);
    facts("tokens", x, 5, 0, 0, 0);
    Bench.due("borrowed in all", x.count(9), 4);
    Bench.due("sent in all", x.count(7), 6);
  }
}
