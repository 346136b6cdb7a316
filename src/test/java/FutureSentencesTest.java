import java.util.function.Consumer;

/** Promises 18 to 23, sentence by sentence, each at its edges, and the calls that an object is used for. */
public final class FutureSentencesTest {
  private static final Class<?> INDEX = IndexOutOfBoundsException.class;
  private static final Class<?> ARGUMENT = IllegalArgumentException.class;
  private static final int LEAST = Integer.MIN_VALUE;
  private static final int GREATEST = Integer.MAX_VALUE;

  public static void main(String[] args) {
    passMinutes();
    passInParts();
    passRefused();
    untilNow();
    untilEighty();
    untilChangesNothing();
    untilRefused();
    foresee();
    foreseeKnowsAll();
    foreseeChangesNothing();
    foreseeRefused();
    adviseFiveMore();
    adviseThirtyAtMost();
    adviseSmallestNumber();
    adviseNone();
    adviseOfOrders();
    adviseChangesNothing();
    adviseRefused();
    mean();
    digest();
    digestWraps();
    calls512();
    Bench.end();
  }

  private static String lane(String name, int rate, int most, int burst, int rank, int holds) {
    return LanesSentencesTest.lane(name, rate, most, burst, rank, holds);
  }

  private static void refused(String what, Class<?> want, Class<?> wantOfNew, Consumer<BucketBrigade> call) {
    Bench.refusedAsIfNever(what, CallSentencesTest::rich, want, call);
    Bench.refusedAsIfNever(what + " of a new object", BucketBrigade::new, wantOfNew, call);
  }

  private static void passMinutes() {
    Bench.sentence("18: Lets minutes go by. Returns how many pails are sent in them");
    for (int minutes : new int[] {1, 2, 99, 100}) {
      BucketBrigade x = Bench.taught("well 3;" + lane("a", 2, 30, 2, 0, 60) + lane("b", 1, 30, 1, 0, 60) + "folk f to a brings 9 every 1 from 0;folk g to b brings 1 every 2 from 1;");
      Bench.due("sent in " + minutes, x.pass(minutes), 2 * minutes + minutes / 2);
      Bench.due("the minute", x.count(0), minutes);
      Bench.due("sent in all", x.count(7), 2 * minutes + minutes / 2);
      Bench.due("sent in one more", x.pass(1), minutes % 2 == 1 ? 3 : 2);
      BucketBrigade y = new BucketBrigade();
      Bench.due("without lanes", y.pass(minutes), 0);
      Bench.due("the minute", y.count(0), minutes);
    }
    BucketBrigade x = Bench.taught("well 30;" + lane("a", 30, 30, 99, 0, 60) + "folk f to a brings 30 every 1 from 0;");
    Bench.due("the most that can be", x.pass(100), 3000);
    Bench.due("and again", x.pass(100), 3000);
  }

  private static void passInParts() {
    Bench.sentence("18: minutes: how many");
    BucketBrigade x = CallSentencesTest.rich();
    BucketBrigade y = CallSentencesTest.rich();
    int sent = 0;
    for (int m = 0; m < 100; m++) sent += x.pass(1);
    Bench.due("a hundred at once", y.pass(100), sent);
    Bench.due("digest", y.digest(), x.digest());
  }

  private static void passRefused() {
    Bench.sentence("18: Throws IllegalArgumentException if minutes is not 1 to 100");
    for (int minutes : new int[] {0, -1, 101, 102, LEAST, GREATEST}) refused("pass(" + minutes + ")", ARGUMENT, ARGUMENT, x -> x.pass(minutes));
  }

  // One pail a minute is sent of this many.
  private static BucketBrigade waiting(int many) {
    BucketBrigade x = Bench.taught("well 1;" + lane("a", 1, 30, 1, 0, 60) + lane("b", 0, 30, 0, 0, 60));
    for (int left = many; left > 0; left -= 30) x.bring(0, Math.min(30, left));
    return x;
  }

  private static void untilNow() {
    Bench.sentence("19: Returns behind how many minutes no pail waits in it, if nothing is done by hand: 0 if it is so now");
    for (int many : new int[] {0, 1, 2, 30, 59, 60}) {
      BucketBrigade x = waiting(many);
      Bench.due("with " + many, x.until(0), many);
      Bench.due("the other lane", x.until(1), 0);
      x.bring(1, 1);
      Bench.due("a lane without tokens", x.until(1), -1);
      if (many > 0) x.pass(many);
      Bench.due("behind them", x.until(0), 0);
    }
    // Folk come each minute, but what comes goes in the same minute.
    BucketBrigade y = Bench.taught("well 3;" + lane("a", 2, 30, 2, 0, 60) + "folk f to a brings 1 every 1 from 0;");
    Bench.due("none waits now", y.until(0), 0);
    y.bring(0, 3);
    Bench.due("one more is sent than comes", y.until(0), 3);
    BucketBrigade z = Bench.taught("well 3;" + lane("a", 1, 30, 1, 0, 60) + "folk f to a brings 1 every 1 from 0;");
    z.bring(0, 1);
    Bench.due("as many come as are sent", z.until(0), -1);
  }

  private static BucketBrigade firstSentIn(int minute) {
    BucketBrigade x = Bench.taught(lane("a", 0, 0, 9, 0, 60) + "cap a to 30 when minute=" + minute + ";");
    x.bring(0, 9);
    return x;
  }

  private static void untilEighty() {
    Bench.sentence("19: at most 80; -1 if not by then");
    for (int minute : new int[] {0, 1, 77, 78, 79, 80, 81, 99, 100}) {
      BucketBrigade x = firstSentIn(minute);
      Bench.due("all are sent in minute " + minute, x.until(0), minute < 80 ? minute + 1 : -1);
      x.pass(1);
      Bench.due("one minute later", x.until(0), minute < 81 ? minute : -1);
    }
    for (int many : new int[] {58, 59, 60}) {
      BucketBrigade x = Bench.taught("well 1;" + lane("a", 1, 30, 1, 0, 60) + "shut a when minute<21;");
      x.bring(0, 30);
      x.bring(0, many - 30);
      Bench.due(many + " from minute 21 on", x.until(0), many + 21 > 80 ? -1 : many + 21);
    }
  }

  private static void untilChangesNothing() {
    Bench.sentence("19: (nothing is changed)");
    for (int lane = 0; lane < 6; lane++) {
      int of = lane;
      Bench.answeredAsIfNever("until(" + lane + ")", CallSentencesTest::rich, x -> x.until(of));
    }
    Bench.answeredAsIfNever("until with -1", () -> firstSentIn(99), x -> x.until(0));
  }

  private static void untilRefused() {
    Bench.sentence("19: Throws IndexOutOfBoundsException if there is no such lane");
    for (int lane : new int[] {-1, 6, 7, LEAST, GREATEST}) refused("until(" + lane + ")", INDEX, INDEX, x -> x.until(lane));
    Bench.refusedAsIfNever("until(2) of two", () -> waiting(3), INDEX, x -> x.until(2));
  }

  private static void foresee() {
    Bench.sentence("20: what: 5 to 11 as count() has it. Returns this, behind so many minutes, if nothing is done by hand");
    for (int minutes : new int[] {1, 2, 3, 50, 99, 100}) {
      BucketBrigade x = CallSentencesTest.rich();
      int[] foreseen = new int[12];
      for (int what = 5; what <= 11; what++) foreseen[what] = x.foresee(minutes, what);
      x.pass(minutes);
      for (int what = 5; what <= 11; what++) Bench.due("foresee(" + minutes + ", " + what + ")", foreseen[what], x.count(what));
      x.setWell(3);
      x.bring(0, 5);
      for (int what = 5; what <= 11; what++) foreseen[what] = x.foresee(minutes, what);
      x.pass(minutes);
      for (int what = 5; what <= 11; what++) Bench.due("foresee(" + minutes + ", " + what + ") behind what was done by hand", foreseen[what], x.count(what));
    }
    BucketBrigade y = Bench.taught("well 3;" + lane("a", 2, 30, 2, 0, 4) + "folk f to a brings 3 every 1 from 0;cap a to 9+minute;");
    // Each minute 3 come and 2 are sent; 4 have room, so from minute 2 on one is lost of each three.
    int[] behind = {2, 9, 6, 1, 0, 3, 1};
    for (int what = 5; what <= 11; what++) Bench.due("foresee(3, " + what + ")", y.foresee(3, what), behind[what - 5]);
    int[] behind100 = {2, 300, 200, 98, 0, 22, 1};
    for (int what = 5; what <= 11; what++) Bench.due("foresee(100, " + what + ")", y.foresee(100, what), behind100[what - 5]);
  }

  // In its fourth minute q sends as many as each of these numbers tells, and all of them are other ones by then.
  private static void foreseeKnowsAll() {
    Bench.sentence("20: Returns this, behind so many minutes: by all that orders look at");
    String[] sums = {"minute", "spare", "tokens a", "waits b", "sent b", "lost b", "lent a"};
    int[] want = {3, 12, 5, 2, 12, 7, 6};
    for (int i = 0; i < sums.length; i++) {
      BucketBrigade x = Bench.taught("well 16;" + lane("a", 1, 30, 9, 9, 60) + LanesSentencesTest.under("a", lane("b", 2, 4, 2, 8, 6)) + lane("q", 0, 0, 99, 0, 60)
          + "folk f to b brings 7 every 1 from 0;cap q to " + sums[i] + " when minute=3;cap b to 0 when minute=3;");
      x.pass(3);
      x.bring(2, 30);
      Bench.due("sent ahead of it", x.count(7), 12);
      Bench.due("foreseen by " + sums[i], x.foresee(1, 7), 12 + want[i]);
      Bench.due("sent by " + sums[i], x.pass(1), want[i]);
    }
  }

  private static void foreseeChangesNothing() {
    Bench.sentence("20: (nothing is changed)");
    for (int i = 5; i <= 11; i++) {
      int what = i;
      Bench.answeredAsIfNever("foresee(1, " + what + ")", CallSentencesTest::rich, x -> x.foresee(1, what));
      Bench.answeredAsIfNever("foresee(100, " + what + ")", CallSentencesTest::rich, x -> x.foresee(100, what));
    }
  }

  private static void foreseeRefused() {
    Bench.sentence("20: Throws IllegalArgumentException if minutes is not 1 to 100; IndexOutOfBoundsException if what is not 5 to 11");
    for (int minutes : new int[] {0, -1, 101, LEAST, GREATEST}) {
      for (int what : new int[] {5, 11, 4, 12, LEAST, GREATEST}) refused("foresee(" + minutes + ", " + what + ")", ARGUMENT, ARGUMENT, x -> x.foresee(minutes, what));
    }
    for (int minutes : new int[] {1, 100}) {
      for (int what : new int[] {0, 4, 12, 13, -1, LEAST, GREATEST}) refused("foresee(" + minutes + ", " + what + ")", INDEX, INDEX, x -> x.foresee(minutes, what));
    }
  }

  /** Lane by lane its rate and how many come in a minute; each one loses what it can't send, as it holds so many as come. */
  private static BucketBrigade losing(int... rateAndComing) {
    StringBuilder lanes = new StringBuilder("well 30;");
    StringBuilder folk = new StringBuilder();
    for (int i = 0; i < rateAndComing.length; i += 2) {
      char name = (char) ('a' + i / 2);
      lanes.append(lane("" + name, rateAndComing[i], 30, 30, 0, rateAndComing[i + 1]));
      folk.append("folk " + name + " to " + name + " brings " + rateAndComing[i + 1] + " every 1 from 0;");
    }
    return Bench.taught(lanes.toString() + folk);
  }

  private static void adviseFiveMore() {
    Bench.sentence("21: Looks for the lane whose rate had best be 5 more now, so that the fewest pails are lost in so many minutes");
    // b misses more than 5 of its tokens a minute, a fewer: the first minutes go by the burst of 30.
    Bench.due("a misses 4 and b 6", losing(6, 10, 4, 10).advise(20), 1);
    Bench.due("a misses 6 and b 4", losing(4, 10, 6, 10).advise(20), 0);
    Bench.due("c misses the most that 5 more can help", losing(9, 10, 6, 10, 5, 10).advise(20), 2);
    for (int missing = 1; missing <= 9; missing++) {
      // With 5 more they both get what they miss, up to 5: from there on the smaller number is told.
      Bench.due("a misses 3, b " + missing, losing(7, 10, 10 - missing, 10).advise(20), missing > 3 ? 1 : 0);
    }
    // a has no tokens left, and of its five pails a minute it loses none with five more tokens, but one with four.
    BucketBrigade x = losing(0, 5);
    x.pass(9);
    int lost = x.foresee(2, 8);
    Bench.due("without", lost - x.count(8), 10);
    Bench.due("a", x.advise(2), 0);
    for (int more : new int[] {4, 5, 6}) {
      Bench.due("b sends if a gets " + more, sendsBy(more, 0).advise(3), more == 5 ? 0 : -1);
    }
  }

  // a has no tokens; b, whose queue is full, sends only in a minute ahead of which a has so many tokens.
  private static BucketBrigade sendsBy(int tokens, int rate) {
    BucketBrigade x = Bench.taught("well 30;" + lane("a", 0, 30, 99, 0, 9) + lane("b", 0, 0, 99, 0, 5) + "folk f to b brings 5 every 1 from 1;"
        + "cap b to 0;cap b to 30 when tokens a=" + tokens + ";");
    for (int i = 0; i < 11; i++) {
      x.bring(0, 9);
      x.pass(1);
    }
    Bench.due("a has no tokens", x.lane(0, 5), 0);
    Bench.due("the queue of b is full", x.lane(1, 6), 5);
    x.setRate(0, rate);
    return x;
  }

  private static void adviseThirtyAtMost() {
    Bench.sentence("21: 5 more now (at most 30)");
    for (int rate = 20; rate <= 30; rate++) {
      for (int tokens = 25; tokens <= 35; tokens++) {
        boolean now = rate == tokens;
        boolean then = Math.min(30, rate + 5) == tokens;
        Bench.due("b sends if a gets " + tokens + ", its rate is " + rate, sendsBy(tokens, rate).advise(3), then && !now ? 0 : -1);
      }
    }
  }

  private static void adviseSmallestNumber() {
    Bench.sentence("21: Returns this, of several the smallest number");
    Bench.due("both as good", losing(5, 10, 5, 10).advise(20), 0);
    Bench.due("three as good", losing(10, 10, 5, 10, 5, 10).advise(20), 1);
    Bench.due("the last one", losing(5, 5, 5, 5, 5, 5, 5, 5, 5, 5, 0, 5).advise(20), 5);
    Bench.due("all six", losing(0, 5, 0, 5, 0, 5, 0, 5, 0, 5, 0, 5).advise(20), 0);
  }

  private static void adviseNone() {
    Bench.sentence("21: -1 if by none fewer are lost than without");
    Bench.due("without lanes", new BucketBrigade().advise(20), -1);
    Bench.due("none is lost", losing(10, 10, 10, 10).advise(20), -1);
    Bench.due("all is lost: the well is empty", lostByWell(0), -1);
    Bench.due("some are not lost: the well has one", lostByWell(1), 0);
    Bench.due("the burst lasts for 3 minutes", losing(0, 10).advise(3), -1);
    // Ten are lost in minute 4, as those of minute 3 are still there.
    Bench.due("and one more has room", losing(0, 10).advise(4), -1);
    Bench.due("then they are lost", losing(0, 10).advise(5), 0);
  }

  private static int lostByWell(int well) {
    BucketBrigade x = Bench.taught("well " + well + ";" + lane("a", 0, 30, 1, 0, 2) + "folk f to a brings 2 every 1 from 0;");
    return x.advise(20);
  }

  private static void adviseOfOrders() {
    Bench.sentence("21: 5 more now: what orders make of it later counts");
    String text = "well 30;" + lane("a", 1, 30, 10, 0, 10) + "folk f to a brings 10 every 1 from 0;";
    Bench.due("no order", Bench.taught(text).advise(20), 0);
    Bench.due("an order sets it back at once", Bench.taught(text + "raise a to 1 when 1=1;").advise(20), -1);
    Bench.due("an order sets it back later", Bench.taught(text + "raise a to 1 when minute>5;").advise(20), 0);
  }

  private static void adviseChangesNothing() {
    Bench.sentence("21: (nothing is changed)");
    for (int i : new int[] {1, 2, 19, 20}) {
      Bench.answeredAsIfNever("advise(" + i + ")", CallSentencesTest::rich, x -> x.advise(i));
      Bench.answeredAsIfNever("advise(" + i + ")", () -> losing(0, 5, 5, 5), x -> x.advise(i));
    }
  }

  private static void adviseRefused() {
    Bench.sentence("21: Throws IllegalArgumentException if minutes is not 1 to 20");
    for (int minutes : new int[] {0, -1, 21, 22, 100, LEAST, GREATEST}) refused("advise(" + minutes + ")", ARGUMENT, ARGUMENT, x -> x.advise(minutes));
    for (int minutes : new int[] {1, 20}) Bench.due("advise(" + minutes + ")", new BucketBrigade().advise(minutes), -1);
  }

  private static void mean() {
    Bench.sentence("22: Returns the mean of the minutes that all pails which were sent have waited; 0 without any");
    BucketBrigade x = Bench.taught("well 0;" + lane("a", 0, 30, 9, 1, 2) + lane("b", 0, 30, 9, 0, 60));
    Bench.dueMean("without any", x.mean(), 0.0);
    Bench.due("0, and not -0", Double.doubleToLongBits(x.mean()), 0L);
    x.bring(0, 1);
    x.bring(1, 2);
    x.pass(3);
    Bench.dueMean("those that wait do not count", x.mean(), 0.0);
    x.bring(0, 30);
    Bench.dueMean("those that are lost do not count", x.mean(), 0.0);
    x.setWell(1);
    double[] want = {3.0, 7.0 / 2.0, 9.0 / 3.0, 12.0 / 4.0};
    for (int m = 0; m < 4; m++) {
      x.pass(1);
      Bench.dueMean("behind " + (m + 1), x.mean(), want[m]);
    }
    x.setWell(9);
    x.bring(0, 1);
    x.pass(1);
    Bench.dueMean("one without waiting", x.mean(), 12.0 / 5.0);
    BucketBrigade y = Bench.taught(lane("a", 0, 30, 99, 1, 60));
    y.bring(0, 9);
    y.pass(1);
    Bench.dueMean("all without waiting", y.mean(), 0.0);
  }

  private static void digest() {
    Bench.sentence("23: A number d starts with 1693; for each of the following numbers x, d becomes d * 31 + x");
    for (BucketBrigade x : new BucketBrigade[] {new BucketBrigade(), CallSentencesTest.rich(), losing(5, 10, 5, 10), waiting(60), Bench.taught("")}) {
      for (int m = 0; m < 5; m++) {
        Bench.due("digest", x.digest(), digestOf(x));
        x.pass(1);
      }
    }
  }

  // As what count(), lane(), lender(), pail() and folk() tell.
  private static long digestOf(BucketBrigade x) {
    long d = 1693;
    for (int what = 0; what <= 12; what++) d = d * 31 + x.count(what);
    for (int lane = 0; lane < x.count(2); lane++) {
      for (int what = 0; what <= 12; what++) d = d * 31 + x.lane(lane, what);
      d = d * 31 + x.lender(lane);
      for (int place = 0; place < x.lane(lane, 6); place++) d = d * 31 + x.pail(lane, place);
    }
    for (int folk = 0; folk < x.count(3); folk++) {
      for (int what = 0; what <= 4; what++) d = d * 31 + x.folk(folk, what);
    }
    return d;
  }

  private static void digestWraps() {
    Bench.sentence("23: which wraps around as a 64-bit integer");
    java.math.BigInteger d = java.math.BigInteger.valueOf(1693);
    BucketBrigade x = new BucketBrigade();
    for (int what = 0; what <= 12; what++) d = d.multiply(java.math.BigInteger.valueOf(31)).add(java.math.BigInteger.valueOf(x.count(what)));
    Bench.due("it is longer than 64 bits", d.bitLength() > 64 ? 1 : 0, 1);
    Bench.due("digest of a new object", x.digest(), d.longValue());
    Bench.due("as a number", x.digest(), NEW_OBJECT);
  }

  /** 1693 * 31^13 + 20 * 31^11, without its multiples of 2^64. */
  private static final long NEW_OBJECT = 1693L * power(13) + 20L * power(11);

  private static long power(int times) {
    long p = 1;
    for (int i = 0; i < times; i++) p *= 31;
    return p;
  }

  private static void calls512() {
    Bench.sentence("An object is used for at most 512 calls after it has been made");
    BucketBrigade x = new BucketBrigade();
    String text = "well 30;" + lane("a", 30, 30, 99, 0, 60) + lane("b", 0, 30, 99, 1, 60) + "folk f to a brings 30 every 1 from 0;folk g to b brings 30 every 1 from 0;";
    int calls = Bench.feed(x, text) + 1;
    Bench.due("teach", x.teach(), 0);
    int minutes = 0;
    for (; calls < 511; calls++) {
      Bench.due("the most that can be sent", x.pass(100), 3000);
      minutes += 100;
    }
    // In each minute a sends its 30; all that comes into b is lost but for the first 60, and one more minute comes.
    Bench.due("lost behind 511 calls", x.foresee(100, 8), 30 * (minutes + 100 - 2));
    BucketBrigade y = Bench.taught("well 1;" + lane("a", 30, 30, 99, 0, 60));
    y.bring(0, 30);
    for (int i = 0; i < 400; i++) y.pass(1);
    Bench.due("the minute", y.count(0), 400);
    Bench.due("sent", y.lane(0, 8), 30);
    Bench.due("waited", y.lane(0, 12), 29 * 30 / 2);
  }
}
