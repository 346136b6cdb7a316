/** Promises 18 to 23: how minutes go, and what would be. */
public final class MinutesTest {
  private static final Class<?> INDEX = IndexOutOfBoundsException.class;
  private static final Class<?> ARGUMENT = IllegalArgumentException.class;

  public static void main(String[] args) {
    pass();
    whoGoesAhead();
    bounds();
    shutLanes();
    orders();
    whatSumsKnow();
    until();
    foresee();
    foreseeBehindAll();
    advise();
    mean();
    digest();
    Bench.end();
  }

  private static String lane(String name, int rate, int most, int burst, int rank, int holds) {
    return "lane " + name + " rate " + rate + " most " + most + " burst " + burst + " rank " + rank + " holds " + holds + " drops old;";
  }

  private static void pass() {
    BucketBrigade x = Bench.taught("well 3;" + lane("a", 2, 30, 4, 0, 60) + "folk f to a brings 2 every 1 from 0;");
    Bench.due("two in the first minute", x.pass(1), 2);
    // Tokens come ahead of sending, at most up to the burst: 4 - 2, + 2 - 2.
    Bench.due("tokens", x.lane(0, 5), 2);
    Bench.due("spare", x.count(11), 1);
    Bench.due("a hundred minutes", x.pass(100), 200);
    Bench.due("the minute", x.count(0), 101);
    for (int minutes : new int[] {0, -1, 101, Integer.MAX_VALUE, Integer.MIN_VALUE}) {
      Bench.refused("pass(" + minutes + ")", x, ARGUMENT, () -> x.pass(minutes));
    }
  }

  private static void sentAre(String what, BucketBrigade x, int... want) {
    for (int i = 0; i < want.length; i++) Bench.due(what + ", sent by " + i, x.lane(i, 8), want[i]);
  }

  private static void whoGoesAhead() {
    // The lane with an own token goes ahead of a borrower of a smaller rank.
    BucketBrigade x = Bench.taught("well 3;" + lane("a", 0, 30, 5, 9, 60) + "lane b under a rate 0 most 30 burst 1 rank 0 holds 60 drops old;");
    x.bring(0, 9);
    x.bring(1, 9);
    x.pass(1);
    sentAre("own tokens", x, 2, 1);
    // One token is enough to go ahead by its rank or its number.
    x = Bench.taught("well 1;" + lane("a", 0, 30, 1, 0, 60) + lane("b", 0, 30, 9, 1, 60));
    x.bring(0, 2);
    x.bring(1, 2);
    x.pass(1);
    sentAre("one token, and the smaller rank", x, 1, 0);
    x.pass(1);
    sentAre("no token", x, 1, 1);
    x = Bench.taught("well 1;" + lane("a", 0, 30, 1, 5, 60) + lane("b", 0, 30, 9, 5, 60));
    x.bring(0, 2);
    x.bring(1, 2);
    x.pass(1);
    sentAre("one token, and the smaller number", x, 1, 0);
    // The smaller rank goes ahead as long as it has tokens.
    x = Bench.taught("well 5;" + lane("a", 0, 30, 9, 1, 60) + lane("b", 0, 30, 3, 0, 60));
    x.bring(0, 9);
    x.bring(1, 9);
    x.pass(1);
    sentAre("ranks", x, 2, 3);
    // As small ones take turns, the smaller number first.
    x = Bench.taught("well 5;" + lane("a", 0, 30, 9, 1, 60) + lane("b", 0, 30, 9, 1, 60) + lane("c", 0, 30, 9, 1, 60));
    for (int i = 0; i < 3; i++) x.bring(i, 9);
    x.pass(1);
    sentAre("turns", x, 2, 2, 1);
    x.pass(1);
    sentAre("turns begin anew each minute", x, 4, 4, 2);
    // What those under a lane send is not of its own queue.
    x = Bench.taught("well 4;" + lane("a", 0, 30, 9, 1, 60) + "lane b under a rate 0 most 30 burst 9 rank 0 holds 60 drops old;" + lane("c", 0, 30, 9, 1, 60));
    x.bring(0, 9);
    x.bring(1, 2);
    x.bring(2, 9);
    x.pass(1);
    sentAre("own queues", x, 1, 2, 1);
    // A borrower that has no lender waits; two borrowers go by rank.
    x = Bench.taught("well 9;" + lane("a", 0, 30, 3, 5, 60) + "lane b under a rate 0 most 30 burst 0 rank 2 holds 60 drops old;"
        + "lane c under b rate 0 most 30 burst 0 rank 1 holds 60 drops old;");
    x.bring(1, 9);
    x.bring(2, 2);
    x.pass(1);
    sentAre("borrowers", x, 0, 1, 2);
    Bench.due("c borrowed", x.lane(2, 11), 2);
    Bench.due("a lent", x.lane(0, 10), 3);
    Bench.due("b lent none", x.lane(1, 10), 0);
    Bench.due("borrowed in all", x.count(9), 3);
    Bench.due("spare", x.count(11), 6);
  }

  private static void bounds() {
    BucketBrigade x = Bench.taught("well 30;" + lane("a", 30, 5, 99, 1, 60) + "lane b under a rate 30 most 3 burst 99 rank 0 holds 60 drops old;"
        + "lane c under b rate 30 most 30 burst 99 rank 0 holds 60 drops old;");
    x.bring(0, 30);
    x.bring(1, 30);
    x.bring(2, 30);
    Bench.due("a may send five, those under it counted", x.pass(1), 5);
    sentAre("bounds", x, 2, 2, 1);
    x.setMost(0, 2);
    Bench.due("a may send two", x.pass(1), 2);
    sentAre("bounds", x, 2, 3, 2);
    x.setMost(1, 0);
    Bench.due("b may send none, so c can't", x.pass(1), 2);
    sentAre("bounds", x, 4, 3, 2);
  }

  private static void shutLanes() {
    // b is shut: it sends none and lends none; c under it sends by a token of a.
    BucketBrigade x = Bench.taught("well 30;" + lane("a", 1, 30, 2, 1, 60) + "lane b under a rate 2 most 1 burst 9 rank 0 holds 60 drops old;"
        + "lane c under b rate 0 most 30 burst 0 rank 0 holds 60 drops old;shut b when minute=0;shut b when minute=0;");
    x.bring(1, 9);
    x.bring(2, 9);
    Bench.due("c sends one, since b may send no more", x.pass(1), 1);
    sentAre("shut", x, 0, 0, 1);
    Bench.due("a lent it", x.lane(0, 10), 1);
    Bench.due("to shut again is not carried out", x.count(10), 1);
    Bench.due("a shut lane gets tokens", x.lane(1, 5), 9);
    x.pass(1);
    sentAre("not shut any more", x, 0, 1, 1);
    x = Bench.taught(lane("a", 0, 30, 0, 1, 60) + "lane b under a rate 2 most 9 burst 9 rank 0 holds 60 drops old;shut b when 1=1;");
    x.bring(1, 9);
    x.pass(3);
    Bench.due("it is carried out in each minute", x.count(10), 3);
    Bench.due("nothing is sent", x.count(7), 0);
    Bench.due("b lends again between the minutes", x.lender(1), 1);
  }

  private static void orders() {
    BucketBrigade x = Bench.taught(lane("a", 3, 9, 9, 0, 60) + "raise a to minute*20-10 when minute<3;cap a to 5-minute;");
    x.pass(1);
    Bench.due("held at 0", x.lane(0, 1), 0);
    Bench.due("a cap", x.lane(0, 2), 5);
    Bench.due("both carried out", x.count(10), 2);
    x.pass(1);
    Bench.due("raised", x.lane(0, 1), 10);
    x.pass(1);
    Bench.due("30 at most", x.lane(0, 1), 30);
    x.pass(1);
    Bench.due("it stays so", x.lane(0, 1), 30);
    Bench.due("carried out", x.count(10), 7);
    x.pass(5);
    Bench.due("cap held at 0", x.lane(0, 2), 0);
    Bench.due("what changes nothing is not carried out", x.count(10), 9);
    // An order sees what those ahead of it did, and comes ahead of folk and tokens.
    x = Bench.taught(lane("a", 3, 9, 4, 0, 2) + "folk f to a brings 2 every 1 from 0;cap a to 1 when 1=1;raise a to 9 when full a;cap a to 7 when full a;");
    x.pass(1);
    Bench.due("a was not full ahead of the folk", x.lane(0, 1), 3);
    Bench.due("it sent one", x.count(7), 1);
    x.pass(1);
    Bench.due("one waits, that is not full", x.lane(0, 1), 3);
    x.setWell(0);
    x.pass(2);
    Bench.due("now it is full", x.lane(0, 1), 9);
    Bench.due("the later cap holds", x.lane(0, 2), 7);
    x = Bench.taught(lane("a", 3, 9, 4, 0, 2) + lane("b", 3, 9, 4, 0, 2) + "raise a to 8 when 1=1;cap b to 6 when dry a;cap a to 2 when not dry b;");
    x.pass(1);
    Bench.due("a is not dry", x.lane(1, 2), 9);
    Bench.due("b is not dry", x.lane(0, 2), 2);
  }

  private static void whatSumsKnow() {
    BucketBrigade x = Bench.taught("well 4;" + lane("a", 0, 30, 9, 0, 20) + "lane b under a rate 0 most 30 burst 1 rank 1 holds 5 drops new;"
        + lane("m", 0, 0, 0, 0, 1) + lane("n", 0, 0, 0, 0, 1) + lane("o", 0, 0, 0, 0, 1) + lane("p", 0, 0, 0, 0, 1)
        + "folk f to b brings 8 every 9 from 0;cap m to tokens a;raise m to waits b when 1=1;cap n to sent b;raise n to lost b when 1=1;"
        + "cap o to lent a;raise o to spare when 1=1;cap p to minute;raise p to sent a when 1=1;");
    int[][] facts = {{2, 2}, {2, 1}, {3, 2}, {3, 1}, {4, 2}, {4, 1}, {5, 2}, {5, 1}};
    int[] first = {9, 0, 0, 0, 0, 0, 0, 0};
    int[] second = {6, 1, 4, 3, 3, 0, 1, 0};
    int[] third = {5, 0, 5, 3, 4, 3, 2, 0};
    int[][] want = {first, second, third};
    for (int m = 0; m < 3; m++) {
      x.pass(1);
      for (int i = 0; i < facts.length; i++) Bench.due("sum " + i + " in minute " + m, x.lane(facts[i][0], facts[i][1]), want[m][i]);
    }
    x.bring(0, 2);
    x.pass(2);
    Bench.due("sent a", x.lane(5, 1), 2);
    x.pass(1);
    Bench.due("spare is that of the minute ahead", x.lane(4, 1), 4);
    Bench.teach(x, lane("a", 0, 30, 9, 0, 20) + "raise a to spare+7 when 1=1;");
    x.pass(1);
    Bench.due("spare is 0 behind a list", x.lane(0, 1), 7);
    x.pass(1);
    Bench.due("spare is 20 then", x.lane(0, 1), 27);
  }

  private static void until() {
    BucketBrigade x = Bench.taught("well 1;" + lane("a", 1, 30, 1, 0, 60) + lane("b", 0, 30, 0, 0, 60) + lane("c", 0, 30, 0, 0, 1)
        + "folk f to b brings 1 every 30 from 2;");
    Bench.due("none waits now", x.until(0), 0);
    x.bring(0, 30);
    long before = x.digest();
    Bench.due("30 pails, one a minute", x.until(0), 30);
    Bench.due("none waits in b now", x.until(1), 0);
    Bench.due("nothing is changed", x.digest(), before);
    x.bring(0, 30);
    x.pass(1);
    Bench.due("59 more", x.until(0), 59);
    x.bring(2, 1);
    Bench.due("c never sends", x.until(2), -1);
    // In half of the minutes nothing can be sent: 40 pails take 79 or 80 minutes, and 41 too many.
    BucketBrigade y = Bench.taught("well 1;" + lane("a", 1, 30, 1, 0, 60) + "shut a when minute/2*2=minute;");
    y.bring(0, 30);
    y.bring(0, 10);
    Bench.due("80 minutes", y.until(0), 80);
    y.bring(0, 1);
    Bench.due("82 minutes", y.until(0), -1);
    y.pass(1);
    Bench.due("81 minutes", y.until(0), -1);
    y.pass(1);
    Bench.due("80 minutes again", y.until(0), 80);
    for (int lane : new int[] {-1, 3, Integer.MAX_VALUE}) Bench.refused("until(" + lane + ")", x, INDEX, () -> x.until(lane));
  }

  private static void foresee() {
    BucketBrigade x = Bench.taught("well 3;" + lane("a", 2, 30, 4, 0, 5) + "lane b under a rate 0 most 30 burst 0 rank 1 holds 5 drops new;"
        + "folk f to a brings 1 every 2 from 0;folk g to b brings 3 every 2 from 1;cap a to 20+minute;");
    x.pass(2);
    for (int minutes : new int[] {1, 7, 100}) {
      long before = x.digest();
      int[] foreseen = new int[12];
      for (int what = 5; what <= 11; what++) foreseen[what] = x.foresee(minutes, what);
      Bench.due("nothing is changed", x.digest(), before);
      x.pass(minutes);
      for (int what = 5; what <= 11; what++) Bench.due("foreseen " + what + " behind " + minutes, foreseen[what], x.count(what));
    }
    for (int minutes : new int[] {0, -1, 101, Integer.MAX_VALUE, Integer.MIN_VALUE}) {
      Bench.refused("foresee(" + minutes + ", 5)", x, ARGUMENT, () -> x.foresee(minutes, 5));
      Bench.refused("foresee(" + minutes + ", 4)", x, ARGUMENT, () -> x.foresee(minutes, 4));
    }
    for (int what : new int[] {-1, 4, 12, Integer.MAX_VALUE, Integer.MIN_VALUE}) {
      Bench.refused("foresee(1, " + what + ")", x, INDEX, () -> x.foresee(1, what));
    }
  }

  // What was lost, lent, left and so on ahead of now is known in what would be, too.
  private static void foreseeBehindAll() {
    String text = "well 6;" + lane("a", 3, 30, 4, 0, 4) + "lane b under a rate 0 most 30 burst 0 rank 1 holds 5 drops new;" + lane("c", 0, 0, 0, 0, 1)
        + "folk f to a brings 1 every 2 from 0;folk g to b brings 7 every 2 from 1;"
        + "cap c to spare;raise c to lent a when 1=1;cap c to 25-sent b when lost b>3;raise c to waits b+9 when sent a>2;raise b to lost b-2 when minute>6;";
    BucketBrigade x = Bench.taught(text);
    for (int m = 0; m < 12; m++) {
      for (int minutes = 1; minutes <= 4; minutes++) foreseenAsPassed(text, x, m, minutes);
      x.pass(1);
    }
    Bench.due("some were lost", x.count(8) > 0 ? 1 : 0, 1);
    Bench.due("some were borrowed", x.count(9) > 0 ? 1 : 0, 1);
  }

  private static void foreseenAsPassed(String text, BucketBrigade x, int gone, int minutes) {
    BucketBrigade other = Bench.taught(text);
    if (gone > 0) other.pass(gone);
    other.pass(minutes);
    for (int what = 5; what <= 11; what++) {
      Bench.due("foreseen " + what + " in minute " + gone + " behind " + minutes, x.foresee(minutes, what), other.count(what));
    }
  }

  private static void advise() {
    // Each minute 10 pails come into either lane; b loses as many as a, so that both are as good.
    String folk = "folk f to a brings 10 every 1 from 0;folk g to b brings 10 every 1 from 0;";
    BucketBrigade x = Bench.taught("well 30;" + lane("a", 3, 30, 30, 0, 10) + lane("b", 3, 30, 30, 0, 10) + folk);
    long before = x.digest();
    Bench.due("in the first minute none is lost", x.advise(1), -1);
    Bench.due("both are as good", x.advise(20), 0);
    Bench.due("nothing is changed", x.digest(), before);
    x.setRate(0, 29);
    Bench.due("a has enough", x.advise(20), 1);
    x.setRate(1, 30);
    Bench.due("both have enough", x.advise(20), -1);
    // From 27 up to 30 is less than from 2 up to 7, but from 30 on nothing is gained at all.
    String thirty = "folk f to a brings 30 every 1 from 0;folk g to b brings 30 every 1 from 0;";
    for (int rate = 24; rate <= 30; rate++) {
      BucketBrigade y = Bench.taught("well 30;" + lane("a", rate, 30, 30, 0, 30) + lane("b", 0, 0, 30, 0, 30) + thirty);
      Bench.due("advice at the rate " + rate, y.advise(20), rate == 30 ? -1 : 0);
      BucketBrigade z = Bench.taught("well 30;" + lane("a", rate, 14, 30, 0, 30) + lane("b", 10, 30, 30, 1, 30) + thirty);
      Bench.due("a may not send more", z.advise(20), 1);
    }
    // a loses pails from its second minute on, and none at a rate that is 5 more and no less.
    BucketBrigade late = Bench.taught("well 30;" + lane("a", 5, 30, 10, 0, 10) + "folk f to a brings 10 every 1 from 0;");
    Bench.due("three minutes ahead of the loss", late.advise(1), -1);
    Bench.due("two minutes", late.advise(2), -1);
    Bench.due("three minutes", late.advise(3), 0);
    late.pass(1);
    Bench.due("one minute less", late.advise(2), 0);
    Bench.due("and none is lost yet", late.advise(1), -1);
    Bench.due("from 0 to 5", adviceFor(0, 5), 0);
    Bench.due("not from 0 to 4", adviceFor(0, 4), -1);
    Bench.due("not from 0 to 6", adviceFor(0, 6), -1);
    Bench.due("from 25 to 30", adviceFor(25, 30), 0);
    Bench.due("from 27 to 30", adviceFor(27, 30), 0);
    Bench.due("not from 27 to 32", adviceFor(27, 32), -1);
    BucketBrigade none = Bench.taught("");
    Bench.due("without lanes", none.advise(20), -1);
    for (int minutes : new int[] {0, -1, 21, Integer.MAX_VALUE, Integer.MIN_VALUE}) {
      Bench.refused("advise(" + minutes + ")", x, ARGUMENT, () -> x.advise(minutes));
    }
  }

  // a has no tokens, and b sends only when a has just so many, as it has if its rate is this number.
  private static int adviceFor(int rate, int tokens) {
    BucketBrigade x = Bench.taught("well 30;" + lane("a", 0, 30, 99, 0, 30) + lane("b", 30, 30, 99, 0, 10)
        + "folk f to b brings 10 every 1 from 0;cap b to 0;cap b to 30 when tokens a=" + tokens + ";");
    for (int i = 0; i < 4; i++) {
      x.bring(0, i < 3 ? 30 : 9);
      x.pass(1);
    }
    Bench.due("no pail of a waits", x.lane(0, 6), 0);
    Bench.due("a has no tokens", x.lane(0, 5), 0);
    x.setRate(0, rate);
    return x.advise(3);
  }

  private static void mean() {
    BucketBrigade x = Bench.taught("well 1;" + lane("a", 1, 30, 1, 0, 60) + lane("b", 0, 30, 0, 0, 60));
    x.bring(1, 1);
    x.pass(1);
    Bench.dueMean("without any", x.mean(), 0.0);
    x.bring(0, 3);
    x.pass(1);
    Bench.dueMean("sent in the same minute", x.mean(), 0.0);
    x.pass(1);
    Bench.dueMean("one minute, and none", x.mean(), 0.5);
    x.pass(1);
    Bench.dueMean("two, one and none", x.mean(), 1.0);
    x.bring(0, 4);
    x.pass(4);
    Bench.dueMean("nine by seven", x.mean(), 9.0 / 7.0);
    BucketBrigade y = Bench.taught("well 3;" + lane("a", 1, 30, 1, 0, 60) + lane("b", 1, 30, 1, 0, 60) + lane("c", 1, 30, 1, 0, 60));
    y.bring(0, 1);
    y.bring(1, 2);
    y.bring(2, 4);
    y.pass(4);
    Bench.dueMean("seven by seven, of three lanes", y.mean(), 1.0);
    y.bring(2, 2);
    y.pass(2);
    Bench.dueMean("eight by nine", y.mean(), 8.0 / 9.0);
  }

  private static void digest() {
    BucketBrigade x = new BucketBrigade();
    Bench.due("a new object", x.digest(), digested(0, 20, 0, 0, 0, 0, 0, 0, 0, 0, 0, 0, 0));
    Bench.teach(x, "well 2;" + lane("a", 1, 5, 1, 4, 60) + "lane b under a rate 0 most 6 burst 0 rank 3 holds 7 drops new;folk f to b brings 2 every 1 from 0;cap b to 9;");
    x.pass(2);
    x.feed(1, 2, 3, 4, 5);
    Bench.due("lanes, pails and folk", x.digest(), digested(2, 2, 2, 1, 1, 2, 4, 2, 0, 2, 1, 1, 20,
        -1, 1, 5, 1, 4, 0, 0, 60, 0, 0, 2, 0, 0, -1,
        0, 0, 9, 0, 3, 0, 2, 7, 2, 0, 0, 2, 1, -1, 1, 1,
        1, 2, 1, 0, 4));
  }

  private static long digested(int... numbers) {
    long d = 1693;
    for (int x : numbers) d = d * 31 + x;
    return d;
  }
}
