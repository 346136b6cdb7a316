import java.util.List;
import java.util.function.Consumer;
import java.util.function.Supplier;

/** Promises 1 to 17, sentence by sentence, each at its edges. */
public final class CallSentencesTest {
  private static final Class<?> INDEX = IndexOutOfBoundsException.class;
  private static final Class<?> ARGUMENT = IllegalArgumentException.class;
  private static final int LEAST = Integer.MIN_VALUE;
  private static final int GREATEST = Integer.MAX_VALUE;
  private static final int BLANKS = 0x20202020;

  public static void main(String[] args) {
    newObject();
    objectsApart();
    feedAppends();
    feedAnswers();
    feedRefused();
    trimShortens();
    trimAnswers();
    trimRefused();
    teachInThePlace();
    teachKeepsTheMinute();
    teachWithAnError();
    teachAnswers();
    errorAtOfTheLatest();
    count();
    countRefused();
    lane();
    laneRefused();
    pail();
    pailRefused();
    folk();
    folkRefused();
    lender();
    lenderRefused();
    common();
    commonRefused();
    eldest();
    bring();
    bringRefused();
    give();
    giveRefused();
    setRate();
    setRateRefused();
    setMost();
    setMostRefused();
    setWell();
    setWellRefused();
    askingChangesNothing();
    Bench.end();
  }

  private static String lane(String name, int rate, int most, int burst, int rank, int holds) {
    return LanesSentencesTest.lane(name, rate, most, burst, rank, holds);
  }

  private static String under(String over, String lane) {
    return LanesSentencesTest.under(over, lane);
  }

  private static final String RICH = "well 9;" + lane("a", 2, 9, 8, 3, 9) + under("a", lane("b", 1, 7, 2, 1, 4)) + LanesSentencesTest.dropsNew(under("b", lane("c", 0, 5, 1, 0, 3)))
      + lane("d", 3, 4, 5, 2, 60) + under("d", lane("e", 0, 30, 0, 2, 2)) + under("a", lane("f", 1, 1, 1, 9, 1))
      + "folk f to a brings 3 every 2 from 1;folk g to b brings 2 every 1 from 3;folk h to c brings 1 every 1 from 0;folk i to d brings 9 every 3 from 0;"
      + "folk j to e brings 1 every 2 from 0;folk k to f brings 1 every 30 from 9;folk l to a brings 30 every 30 from 20;folk m to d brings 1 every 1 from 12;"
      + "raise a to 2+waits a/3 when waits a>3;cap b to 7-minute/2 when not full b;shut c when minute/3*3=minute;cap d to spare+2;raise e to lost e when dry e;cap f to 1+lent a/2 when sent b>lost b;"
      + "raise c to lent d*3-lent a when tokens d<5;";

  /** Six lanes and eight folk in minute 7, with errorAt 5, and with a list on the tape that lacks its end. */
  static BucketBrigade rich() {
    BucketBrigade x = Bench.taught(RICH);
    x.bring(0, 7);
    x.pass(7);
    x.bring(2, 3);
    x.setRate(3, 2);
    Bench.due("an error", Bench.teach(x, "well 31;"), 5);
    Bench.feed(x, "well 9;" + lane("q", 1, 9, 3, 0, 2) + "folk r to q brings 5 every 1 from 0;cap q to 3;");
    return x;
  }

  private static BucketBrigade plain() {
    return Bench.taught("well 9;" + lane("a", 2, 9, 8, 3, 9) + under("a", lane("b", 1, 7, 2, 1, 4)));
  }

  private static BucketBrigade filled(int bytes) {
    BucketBrigade x = Bench.taught(RICH);
    while (x.count(12) < bytes) x.feed(BLANKS, BLANKS, BLANKS, BLANKS, BLANKS);
    x.trim(bytes);
    return x;
  }

  private static void refused(String what, Class<?> want, Consumer<BucketBrigade> call) {
    Bench.refusedAsIfNever(what, CallSentencesTest::rich, want, call);
    Bench.refusedAsIfNever(what + " of a new object", BucketBrigade::new, what.startsWith("setWell") ? want : INDEX, call);
  }

  private static void newObject() {
    Bench.sentence("1: Creates a well without lanes and folk, in the minute 0");
    for (int what = 0; what <= 12; what++) Bench.due("count " + what, new BucketBrigade().count(what), what == 1 ? 20 : 0);
    BucketBrigade x = new BucketBrigade();
    Bench.due("errorAt", x.errorAt(), -1);
    Bench.due("eldest", x.eldest(), -1);
    Bench.dueMean("mean", x.mean(), 0.0);
    for (int minutes : new int[] {1, 20}) Bench.due("advise", x.advise(minutes), -1);
    for (int what = 5; what <= 11; what++) Bench.due("foresee " + what, x.foresee(100, what), what == 11 ? 20 : 0);
    Bench.due("setWell", x.setWell(3), 20);
    Bench.due("pass", x.pass(100), 0);
    Bench.due("the minute", x.count(0), 100);
    Bench.due("spare", x.count(11), 3);
    for (int lane : new int[] {-1, 0, 1, 5, 6}) {
      Bench.refusedAsIfNever("lane", BucketBrigade::new, INDEX, y -> y.lane(lane, 0));
      Bench.refusedAsIfNever("pail", BucketBrigade::new, INDEX, y -> y.pail(lane, 0));
      Bench.refusedAsIfNever("folk", BucketBrigade::new, INDEX, y -> y.folk(lane, 0));
      Bench.refusedAsIfNever("lender", BucketBrigade::new, INDEX, y -> y.lender(lane));
      Bench.refusedAsIfNever("common", BucketBrigade::new, INDEX, y -> y.common(lane, lane));
      Bench.refusedAsIfNever("until", BucketBrigade::new, INDEX, y -> y.until(lane));
    }
  }

  private static void objectsApart() {
    Bench.sentence("1: Creates a well: one of its own");
    BucketBrigade x = rich();
    long before = x.digest();
    BucketBrigade y = Bench.taught("well 2;" + lane("z", 0, 30, 99, 0, 60) + "cap z to 1;");
    y.bring(0, 30);
    y.pass(50);
    y.feed(1, 2, 3, 4, 5);
    y.teach();
    Bench.due("another object changes nothing", x.digest(), before);
    Bench.due("nor what errorAt tells", x.errorAt(), 5);
  }

  private static void feedAppends() {
    Bench.sentence("2: Appends twenty bytes to the tape: the four bytes of each number, the highest one first");
    for (int place = 0; place < 20; place++) {
      for (int sign : new int[] {0, 1, 0x41, 0x7F, 0x80, 0xFF}) {
        int[] row = {BLANKS, BLANKS, BLANKS, BLANKS, BLANKS};
        int shift = 24 - place % 4 * 8;
        row[place / 4] = row[place / 4] & ~(255 << shift) | sign << shift;
        BucketBrigade x = new BucketBrigade();
        x.feed(row[0], row[1], row[2], row[3], row[4]);
        x.feed(BLANKS, BLANKS, BLANKS, BLANKS, BLANKS);
        Bench.due("teach", x.teach(), 1);
        Bench.due("the place of the byte " + sign, x.errorAt(), place);
        x.feed(BLANKS, BLANKS, BLANKS, BLANKS, BLANKS);
        x.feed(row[0], row[1], row[2], row[3], row[4]);
        Bench.due("teach", x.teach(), 1);
        Bench.due("the place of the byte " + sign + " in the second row", x.errorAt(), 20 + place);
      }
    }
    BucketBrigade x = new BucketBrigade();
    x.feed(0x6C616E65, 0x20612072, 0x61746520, 0x31206D6F, 0x73742032);
    x.feed(0x20627572, 0x73742033, 0x2072616E, 0x6B203420, 0x686F6C64);
    x.feed(0x73203520, 0x64726F70, 0x73206F6C, 0x643B6C61, 0x6E652062);
    x.trim(54);
    Bench.due("lane a rate 1 most 2 burst 3 rank 4 holds 5 drops old;", x.teach(), 0);
    for (int i = 0; i < 5; i++) Bench.due("fact " + (i + 1), x.lane(0, new int[] {1, 2, 3, 4, 7}[i]), i + 1);
  }

  private static void feedAnswers() {
    Bench.sentence("2: Returns the number of bytes of the tape");
    BucketBrigade x = new BucketBrigade();
    for (int i = 1; i <= 100; i++) {
      Bench.due("feed", x.feed(LEAST, GREATEST, -1, 0, i), 20 * i);
      Bench.due("bytes", x.count(12), 20 * i);
    }
    x.trim(13);
    Bench.due("feed behind trim(13)", x.feed(0, 0, 0, 0, 0), 33);
    x.teach();
    Bench.due("feed behind teach", x.feed(0, 0, 0, 0, 0), 20);
  }

  private static void feedRefused() {
    Bench.sentence("2: Throws IllegalStateException if there would be more than 2000");
    for (int bytes : new int[] {1979, 1980}) Bench.due("feed of " + bytes, filled(bytes).feed(1, 2, 3, 4, 5), bytes + 20);
    for (int bytes : new int[] {1981, 1982, 1996, 1999, 2000}) {
      Bench.refusedAsIfNever("feed of " + bytes, () -> filled(bytes), IllegalStateException.class, x -> x.feed(0x3F3F3F3F, 1, 2, 3, 4));
      BucketBrigade x = filled(bytes);
      Bench.refused("feed of " + bytes, x, IllegalStateException.class, () -> x.feed(0x3F3F3F3F, 1, 2, 3, 4));
      Bench.due("no byte of it is there", x.count(12), bytes);
      x.trim(1980);
      Bench.due("feed when there is room", x.feed(0x3F202020, BLANKS, BLANKS, BLANKS, BLANKS), 2000);
      Bench.due("teach", x.teach(), 1);
      Bench.due("errorAt", x.errorAt(), 1980);
    }
  }

  private static void trimShortens() {
    Bench.sentence("3: Shortens the tape to its first bytes");
    for (int kept = 0; kept <= 20; kept++) {
      BucketBrigade x = new BucketBrigade();
      x.feed(BLANKS, BLANKS, BLANKS, BLANKS, BLANKS);
      x.trim(kept);
      x.feed(0x3F000000, 0, 0, 0, 0);
      Bench.due("bytes", x.count(12), kept + 20);
      Bench.due("teach", x.teach(), 1);
      Bench.due("what is fed comes behind them", x.errorAt(), kept);
      // What was cut off is gone, and the rest is as it was.
      x.feed(0x77656C6C, 0x20373B3F, 0x3F3F3F3F, 0x3F3F3F3F, 0x3F3F3F3F);
      x.trim(kept);
      Bench.due("teach of the first " + kept, x.teach(), kept == 0 || kept == 7 ? 0 : 1);
      Bench.due("errorAt", x.errorAt(), kept == 0 || kept == 7 ? -1 : kept < 4 ? 0 : Math.min(7, kept));
    }
  }

  private static void trimAnswers() {
    Bench.sentence("3: Returns n");
    BucketBrigade x = filled(2000);
    for (int n : new int[] {2000, 2000, 1999, 1000, 20, 19, 1, 1, 0, 0}) {
      Bench.due("trim", x.trim(n), n);
      Bench.due("bytes", x.count(12), n);
    }
    Bench.due("trim(0) of a new tape", new BucketBrigade().trim(0), 0);
  }

  private static void trimRefused() {
    Bench.sentence("3: Throws IllegalArgumentException if n is not 0 to the number of bytes of the tape");
    for (int bytes : new int[] {0, 1, 19, 20, 21, 1999, 2000}) {
      Bench.due("trim of all", filled(bytes).trim(bytes), bytes);
      Bench.due("trim(0)", filled(bytes).trim(0), 0);
      for (int n : new int[] {-1, -20, bytes + 1, bytes + 20, 2001, LEAST, GREATEST}) {
        Bench.refusedAsIfNever("trim(" + n + ") of " + bytes, () -> filled(bytes), ARGUMENT, x -> x.trim(n));
      }
    }
    BucketBrigade x = filled(20);
    x.trim(5);
    Bench.refused("trim(6) behind trim(5)", x, ARGUMENT, () -> x.trim(6));
    x.teach();
    Bench.refused("trim(1) behind teach", x, ARGUMENT, () -> x.trim(1));
  }

  private static long[] allFacts(BucketBrigade x) {
    long[] all = new long[13 + 6 * 14 + 40];
    int n = 0;
    for (int what = 0; what <= 12; what++) all[n++] = x.count(what);
    for (int lane = 0; lane < x.count(2); lane++) {
      for (int what = 0; what <= 12; what++) all[n++] = x.lane(lane, what);
      all[n++] = x.lender(lane);
    }
    for (int folk = 0; folk < x.count(3); folk++) for (int what = 0; what <= 4; what++) all[n++] = x.folk(folk, what);
    return all;
  }

  private static void teachInThePlace() {
    Bench.sentence("4: Reads the tape as a list, in the place of all that was told before; all begins anew");
    String[] lists = {"", "well 7;", lane("q", 1, 9, 3, 0, 2), RICH, RICH.replace("drops old", "drops new"),
      "well 3;" + lane("q", 1, 9, 3, 0, 2) + under("q", lane("r", 1, 9, 3, 0, 2)) + "folk f to q brings 1 every 1 from 0;cap r to 3;shut q when full r;"};
    for (String list : lists) {
      for (Supplier<BucketBrigade> before : List.<Supplier<BucketBrigade>>of(CallSentencesTest::rich, BucketBrigade::new)) {
        BucketBrigade x = before.get();
        x.trim(0);
        BucketBrigade y = new BucketBrigade();
        if (x.count(0) > 0) y.pass(x.count(0));
        x.setWell(29);
        Bench.due("teach", Bench.teach(x, list), 0);
        Bench.due("teach of a new object", Bench.teach(y, list), 0);
        for (int m = 0; m < 9; m++) {
          long[] got = allFacts(x);
          long[] want = allFacts(y);
          for (int i = 0; i < want.length; i++) Bench.due("fact " + i + ", " + m + " minutes behind <" + list + ">", got[i], want[i]);
          Bench.due("sent", x.pass(1), y.pass(1));
        }
      }
    }
    BucketBrigade x = rich();
    x.trim(0);
    x.teach();
    Bench.due("an empty tape is a list: no lanes", x.count(2), 0);
    int[] want = {7, 20, 0, 0, 0, 0, 0, 0, 0, 0, 0, 0, 0};
    for (int what = 0; what <= 12; what++) Bench.due("count " + what, x.count(what), want[what]);
    Bench.due("no pail is the eldest", x.eldest(), -1);
    Bench.dueMean("no pail was sent", x.mean(), 0.0);
  }

  private static void teachKeepsTheMinute() {
    Bench.sentence("4: but the minute, which stays");
    BucketBrigade x = new BucketBrigade();
    int minute = 0;
    for (int minutes : new int[] {1, 100, 3}) {
      x.pass(minutes);
      minute += minutes;
      Bench.due("teach", Bench.teach(x, lane("a", 0, 0, 0, 0, 9)), 0);
      Bench.due("the minute behind a list", x.count(0), minute);
      Bench.due("teach", Bench.teach(x, "?"), 1);
      Bench.due("the minute behind a list with an error", x.count(0), minute);
      x.bring(0, 1);
      Bench.due("the minute of a pail", x.pail(0, 0), minute);
    }
  }

  private static final String[] WRONG = {"?", "well", lane("z", 0, 0, 0, 0, 1) + lane("z", 0, 0, 0, 0, 1), "well 3;cap a to 3;", "well 3;shut z when 1=1;", "well 3;well 31;",
    lane("z", 1, 2, 3, 4, 5) + "cap z to 1;cap z to 1;cap z to 1;cap z to 1;cap z to 1;cap z to 1;cap z to 1;cap z to 1;cap z to 1;cap z to 1;cap z to 1;"
        + "cap z to 1;cap z to 1;cap z to 1;cap z to 1;cap z to 1;cap z to 1;cap z to 1;cap z to 1;cap z to 1;cap z to 1;"};
  private static final int[] ERRORS = {1, 1, 2, 3, 3, 5, 4};

  private static void teachWithAnError() {
    Bench.sentence("4: If it has an error, all stays (but the tape is empty)");
    for (int i = 0; i < WRONG.length; i++) {
      BucketBrigade x = rich();
      BucketBrigade y = rich();
      x.trim(0);
      y.trim(0);
      Bench.due("teach of <" + WRONG[i] + ">", Bench.teach(x, WRONG[i]), ERRORS[i]);
      Bench.due("the tape is empty", x.count(12), 0);
      for (int m = 0; m < 9; m++) {
        Bench.due("digest " + m + " minutes behind <" + WRONG[i] + ">", x.digest(), y.digest());
        Bench.due("foreseen", x.foresee(9, 8), y.foresee(9, 8));
        Bench.due("sent", x.pass(1), y.pass(1));
      }
    }
  }

  private static void teachAnswers() {
    Bench.sentence("4: Returns 0, or the error, 1 to 5");
    BucketBrigade x = new BucketBrigade();
    for (int i = 0; i < WRONG.length; i++) {
      Bench.due("teach of <" + WRONG[i] + ">", Bench.teach(x, WRONG[i]), ERRORS[i]);
      Bench.due("teach of nothing", x.teach(), 0);
    }
  }

  private static void errorAtOfTheLatest() {
    Bench.sentence("5: Returns the position of the error of the latest teach(); -1 if it had none, or there was none");
    BucketBrigade x = new BucketBrigade();
    Bench.due("there was none", x.errorAt(), -1);
    x.pass(1);
    x.feed(0x3F000000, 0, 0, 0, 0);
    Bench.due("not taught yet", x.errorAt(), -1);
    x.teach();
    Bench.due("at the first byte", x.errorAt(), 0);
    Bench.teach(x, "well 31;");
    Bench.due("a later one", x.errorAt(), 5);
    x.feed(0, 0, 0, 0, 0);
    x.trim(0);
    x.pass(1);
    x.setWell(3);
    Bench.due("other calls leave it", x.errorAt(), 5);
    Bench.refused("a refused call", x, ARGUMENT, () -> x.trim(1));
    Bench.due("a refused call leaves it", x.errorAt(), 5);
    x.teach();
    Bench.due("it had none", x.errorAt(), -1);
    Bench.teach(x, "well 7");
    Bench.due("at the length", x.errorAt(), 6);
    Bench.teach(x, "well 7;");
    Bench.due("it had none", x.errorAt(), -1);
  }

  // b has two of its own tokens and borrows three of a; of its seven pails one is lost, and one waits.
  private static BucketBrigade counted() {
    BucketBrigade x = Bench.taught("well 11;" + lane("a", 0, 5, 3, 4, 8) + under("a", lane("b", 1, 6, 2, 7, 6)) + lane("c", 0, 0, 0, 0, 1)
        + "folk f to b brings 7 every 29 from 0;folk g to c brings 1 every 30 from 99;cap b to 9;raise c to 5 when 1=1;raise c to 5 when 1=1;");
    Bench.due("sent", x.pass(1), 5);
    return x;
  }

  private static void count() {
    Bench.sentence("6: what: 0 the minute, 1 the well, 2 lanes, 3 folk, 4 orders, 5 pails that wait, ... 12 bytes of the tape");
    BucketBrigade x = counted();
    x.feed(1, 2, 3, 4, 5);
    int[] want = {1, 11, 3, 2, 3, 1, 7, 5, 1, 3, 2, 6, 20};
    for (int what = 0; what <= 12; what++) Bench.due("count " + what, x.count(what), want[what]);
    BucketBrigade y = rich();
    Bench.due("six lanes", y.count(2), 6);
    Bench.due("eight folk", y.count(3), 8);
    int[][] ofLanes = {{5, 6}, {7, 8}, {8, 9}, {9, 11}};
    for (int[] pair : ofLanes) {
      int all = 0;
      for (int lane = 0; lane < 6; lane++) all += y.lane(lane, pair[1]);
      Bench.due("count " + pair[0] + " of all lanes", y.count(pair[0]), all);
      Bench.due("there are some", all > 0 ? 1 : 0, 1);
    }
  }

  private static void countRefused() {
    Bench.sentence("6: Throws IndexOutOfBoundsException if what is not 0 to 12");
    for (int what : new int[] {-1, 13, LEAST, GREATEST}) refused("count(" + what + ")", INDEX, x -> x.count(what));
  }

  private static void lane() {
    Bench.sentence("7: what: 0 the lane over it, -1 for none, 1 its rate, ... 12 how many minutes its pails that were sent have waited, added");
    BucketBrigade x = counted();
    x.pass(1);
    x.give(0, 1);
    x.pass(1);
    // b got a token in minute 1, and sent the pail that came in minute 0.
    int[][] want = {{-1, 0, 5, 3, 4, 1, 0, 8, 0, 0, 3, 0, 0}, {0, 1, 9, 2, 7, 1, 0, 6, 6, 1, 0, 3, 1}, {-1, 5, 0, 0, 0, 0, 0, 1, 0, 0, 0, 0, 0}};
    for (int lane = 0; lane < 3; lane++) {
      for (int what = 0; what <= 12; what++) Bench.due("lane(" + lane + ", " + what + ")", x.lane(lane, what), want[lane][what]);
    }
    for (int least = 0; least <= 1; least++) {
      BucketBrigade y = Bench.taught(least == 1 ? lane("a", 0, 0, 0, 0, 1) : lane("a", 30, 30, 99, 9, 60));
      int[] edges = least == 1 ? new int[] {-1, 0, 0, 0, 0, 0, 0, 1, 0, 0, 0, 0, 0} : new int[] {-1, 30, 30, 99, 9, 99, 0, 60, 0, 0, 0, 0, 0};
      for (int what = 0; what <= 12; what++) Bench.due("lane(0, " + what + ")", y.lane(0, what), edges[what]);
    }
  }

  private static final int[] NO_LANE = {-1, 6, 7, 12, LEAST, GREATEST};

  private static void laneRefused() {
    Bench.sentence("7: Throws IndexOutOfBoundsException if there is no such lane, or what is not 0 to 12");
    for (int lane : NO_LANE) refused("lane(" + lane + ", 0)", INDEX, x -> x.lane(lane, 0));
    for (int what : new int[] {-1, 13, LEAST, GREATEST}) refused("lane(5, " + what + ")", INDEX, x -> x.lane(5, what));
    for (int lane : new int[] {2, 3, 5}) Bench.refusedAsIfNever("lane(" + lane + ", 0)", CallSentencesTest::plain, INDEX, x -> x.lane(lane, 0));
  }

  private static void pail() {
    Bench.sentence("8: Returns the minute in which the pail there came");
    BucketBrigade x = Bench.taught("well 0;" + lane("a", 0, 30, 1, 0, 60) + lane("b", 0, 30, 1, 0, 60) + "folk f to b brings 1 every 7 from 3;");
    for (int m = 0; m < 60; m++) {
      Bench.due("none is lost", x.bring(0, 1), 0);
      x.pass(1);
    }
    for (int place = 0; place < 60; place++) Bench.due("pail(0, " + place + ")", x.pail(0, place), place);
    for (int place = 0; place < 9; place++) Bench.due("pail(1, " + place + ")", x.pail(1, place), 3 + 7 * place);
    x.bring(0, 2);
    for (int place = 0; place < 60; place++) Bench.due("two later, pail(0, " + place + ")", x.pail(0, place), Math.min(60, place + 2));
  }

  private static BucketBrigade withPails(int many) {
    BucketBrigade x = Bench.taught("well 0;" + lane("a", 0, 30, 1, 0, 60) + lane("b", 0, 30, 1, 0, 60));
    for (int left = many; left > 0; left -= 30) x.bring(0, Math.min(30, left));
    return x;
  }

  private static void pailRefused() {
    Bench.sentence("8: Throws IndexOutOfBoundsException if there is no such lane or pail");
    for (int many : new int[] {0, 1, 2, 30, 59, 60}) {
      if (many > 0) Bench.due("the last one", withPails(many).pail(0, many - 1), 0);
      if (many > 0) Bench.due("the first one", withPails(many).pail(0, 0), 0);
      for (int place : new int[] {-1, many, many + 1, 60, 61, LEAST, GREATEST}) {
        Bench.refusedAsIfNever("pail(0, " + place + ") of " + many, () -> withPails(many), INDEX, x -> x.pail(0, place));
      }
      Bench.refusedAsIfNever("pail(1, 0)", () -> withPails(many), INDEX, x -> x.pail(1, 0));
      for (int lane : new int[] {-1, 2, 6, LEAST, GREATEST}) Bench.refusedAsIfNever("pail(" + lane + ", 0)", () -> withPails(many), INDEX, x -> x.pail(lane, 0));
    }
    BucketBrigade x = Bench.taught(lane("a", 0, 30, 2, 0, 60));
    x.bring(0, 3);
    x.pass(1);
    Bench.due("the one that is left", x.pail(0, 0), 0);
    Bench.refused("one that was sent", x, INDEX, () -> x.pail(0, 1));
    for (int lane : NO_LANE) refused("pail(" + lane + ", 0)", INDEX, y -> y.pail(lane, 0));
  }

  private static void folk() {
    Bench.sentence("9: what: 0 their lane, 1 how many pails they bring, 2 every how many minutes, 3 their first minute, 4 pails that they brought in all");
    int[][] want = {{0, 3, 2, 1, 9}, {1, 2, 1, 3, 8}, {2, 1, 1, 0, 7}, {3, 9, 3, 0, 27}, {4, 1, 2, 0, 4}, {5, 1, 30, 9, 0}, {0, 30, 30, 20, 0}, {3, 1, 1, 12, 0}};
    BucketBrigade x = rich();
    for (int folk = 0; folk < 8; folk++) {
      for (int what = 0; what <= 4; what++) Bench.due("folk(" + folk + ", " + what + ")", x.folk(folk, what), want[folk][what]);
    }
    for (int least = 0; least <= 1; least++) {
      BucketBrigade y = Bench.taught(lane("a", 0, 0, 0, 0, 1) + (least == 1 ? "folk f to a brings 1 every 1 from 0;" : "folk f to a brings 30 every 30 from 99;"));
      int[] edges = least == 1 ? new int[] {0, 1, 1, 0, 0} : new int[] {0, 30, 30, 99, 0};
      for (int what = 0; what <= 4; what++) Bench.due("folk(0, " + what + ")", y.folk(0, what), edges[what]);
      y.pass(100);
      Bench.due("brought, the lost ones too", y.folk(0, 4), least == 1 ? 100 : 30);
    }
  }

  private static void folkRefused() {
    Bench.sentence("9: Throws IndexOutOfBoundsException if there are no such folk, or what is not 0 to 4");
    for (int folk : new int[] {-1, 8, 9, LEAST, GREATEST}) refused("folk(" + folk + ", 0)", INDEX, x -> x.folk(folk, 0));
    for (int what : new int[] {-1, 5, 12, LEAST, GREATEST}) refused("folk(7, " + what + ")", INDEX, x -> x.folk(7, what));
    for (int folk : new int[] {0, 1, 7}) Bench.refusedAsIfNever("folk(" + folk + ", 0)", CallSentencesTest::plain, INDEX, x -> x.folk(folk, 0));
  }

  private static void lender() {
    Bench.sentence("10: Returns its lender by the tokens that there are now; -1 if it has none");
    BucketBrigade x = Bench.taught("well 1;" + lane("a", 0, 30, 1, 0, 60) + under("a", lane("b", 0, 30, 2, 0, 60)) + lane("c", 0, 30, 0, 0, 60));
    x.bring(1, 9);
    int[][] want = {{0, 1, -1}, {0, 1, -1}, {0, 0, -1}, {-1, -1, -1}};
    for (int m = 0; m < 4; m++) {
      for (int lane = 0; lane < 3; lane++) Bench.due("lender(" + lane + ") in minute " + m, x.lender(lane), want[m][lane]);
      x.pass(1);
    }
    x.give(0, 1);
    for (int lane = 0; lane < 3; lane++) Bench.due("lender(" + lane + ") of a token that is given", x.lender(lane), lane < 2 ? 0 : -1);
    x.setRate(2, 30);
    x.pass(1);
    Bench.due("no burst, no token", x.lender(2), -1);
  }

  private static void lenderRefused() {
    Bench.sentence("10: Throws IndexOutOfBoundsException if there is no such lane");
    for (int lane : NO_LANE) refused("lender(" + lane + ")", INDEX, x -> x.lender(lane));
    Bench.refusedAsIfNever("lender(2) of two", CallSentencesTest::plain, INDEX, x -> x.lender(2));
  }

  private static void common() {
    Bench.sentence("11: Returns the first one that is a, or over a, and is b, or over b; -1 if there is none");
    int[] over = {-1, 0, 1, -1, 3, 0};
    BucketBrigade x = rich();
    for (int a = 0; a < 6; a++) {
      Bench.due("over " + a, x.lane(a, 0), over[a]);
      for (int b = 0; b < 6; b++) {
        int want = -1;
        for (int i = a; i >= 0 && want < 0; i = over[i]) for (int k = b; k >= 0; k = over[k]) want = i == k ? i : want;
        Bench.due("common(" + a + ", " + b + ")", x.common(a, b), want);
      }
    }
    // In a row of six the one of the smaller number is over the other one.
    StringBuilder text = new StringBuilder(lane("a", 0, 30, 9, 0, 60));
    for (char c = 'b'; c <= 'f'; c++) text.append(under("" + (char) (c - 1), lane("" + c, 0, 30, 0, 0, 60)));
    BucketBrigade y = Bench.taught(text.toString());
    for (int a = 0; a < 6; a++) for (int b = 0; b < 6; b++) Bench.due("common(" + a + ", " + b + ") of a row", y.common(a, b), Math.min(a, b));
  }

  private static void commonRefused() {
    Bench.sentence("11: Throws IndexOutOfBoundsException if there is no such lane");
    for (int lane : NO_LANE) {
      refused("common(" + lane + ", 0)", INDEX, x -> x.common(lane, 0));
      refused("common(5, " + lane + ")", INDEX, x -> x.common(5, lane));
      refused("common(" + lane + ", " + lane + ")", INDEX, x -> x.common(lane, lane));
    }
    Bench.refusedAsIfNever("common(2, 0) of two", CallSentencesTest::plain, INDEX, x -> x.common(2, 0));
    Bench.refusedAsIfNever("common(0, 2) of two", CallSentencesTest::plain, INDEX, x -> x.common(0, 2));
  }

  private static void eldest() {
    Bench.sentence("12: Returns the lane with the pail that came the earliest of all that wait, of several the smallest number; -1 if none waits");
    String six = "";
    for (char c = 'a'; c <= 'f'; c++) six += lane("" + c, 0, 30, 9, 0, 2);
    for (int first = 0; first < 6; first++) {
      for (int second = 0; second < 6; second++) {
        BucketBrigade x = Bench.taught("well 0;" + six);
        Bench.due("none waits", x.eldest(), -1);
        x.bring(first, 1);
        Bench.due("one waits", x.eldest(), first);
        x.bring(second, 1);
        Bench.due("of two", x.eldest(), Math.min(first, second));
        BucketBrigade y = Bench.taught("well 0;" + six);
        y.bring(first, 1);
        y.pass(1);
        y.bring(second, 1);
        Bench.due("the earlier one", y.eldest(), first);
        // As two more come into a full queue, its old ones are lost.
        y.pass(1);
        y.bring(first, 2);
        Bench.due("the later one", y.eldest(), second);
        y.setWell(30);
        y.pass(1);
        Bench.due("none waits any more", y.eldest(), -1);
      }
    }
  }

  private static void bring() {
    Bench.sentence("13: how many pails come into it now, one by one, in the minute that comes; returns how many are lost by this");
    for (int many = 1; many <= 30; many++) {
      for (int holds : new int[] {1, 5, 29, 30, 60}) {
        BucketBrigade x = Bench.taught("well 30;" + lane("a", 0, 30, 99, 0, holds) + LanesSentencesTest.dropsNew(lane("b", 0, 0, 99, 0, holds)));
        x.pass(3);
        for (int lane = 0; lane < 2; lane++) {
          Bench.due("lost of " + many + " by " + holds, x.bring(lane, many), Math.max(0, many - holds));
          Bench.due("lost again", x.bring(lane, many), Math.min(many, Math.max(0, 2 * many - holds)));
          Bench.due("wait", x.lane(lane, 6), Math.min(holds, 2 * many));
          Bench.due("lost in all", x.lane(lane, 9), Math.max(0, 2 * many - holds));
          Bench.due("the minute", x.pail(lane, 0), 3);
        }
        Bench.due("came in all", x.count(6), 4 * many);
        x.pass(1);
        Bench.due("they have waited no minute", x.lane(0, 12), 0);
      }
    }
  }

  private static void bringRefused() {
    Bench.sentence("13: Throws IndexOutOfBoundsException if there is no such lane; IllegalArgumentException if many is not 1 to 30");
    for (int lane : NO_LANE) for (int many : new int[] {1, 30, 0, 31, LEAST}) refused("bring(" + lane + ", " + many + ")", INDEX, x -> x.bring(lane, many));
    for (int many : new int[] {0, -1, 31, 32, LEAST, GREATEST}) refused("bring(5, " + many + ")", ARGUMENT, x -> x.bring(5, many));
    Bench.refusedAsIfNever("bring(2, 31) of two", CallSentencesTest::plain, INDEX, x -> x.bring(2, 31));
    for (int many : new int[] {1, 30}) Bench.due("bring(3, " + many + ")", rich().bring(3, many), 0);
  }

  private static void give() {
    Bench.sentence("14: Gives a lane tokens; it has its burst at most. Returns its tokens then");
    for (int burst : new int[] {0, 1, 2, 50, 98, 99}) {
      for (int many : new int[] {1, 2, 49, 50, 98, 99}) {
        BucketBrigade x = Bench.taught("well 30;" + lane("a", 0, 30, burst, 0, 60));
        Bench.due("it has its burst already", x.give(0, many), burst);
        for (int i = 0; i < 4; i++) {
          x.bring(0, 30);
          x.pass(1);
        }
        Bench.due("it has none", x.lane(0, 5), 0);
        int want = Math.min(burst, many);
        Bench.due(many + " given to a burst of " + burst, x.give(0, many), want);
        Bench.due("its tokens", x.lane(0, 5), want);
        Bench.due("and as many again", x.give(0, many), Math.min(burst, 2 * many));
        Bench.due("its burst is as it was", x.lane(0, 3), burst);
      }
    }
  }

  private static void giveRefused() {
    Bench.sentence("14: Throws IndexOutOfBoundsException if there is no such lane; IllegalArgumentException if many is not 1 to 99");
    for (int lane : NO_LANE) for (int many : new int[] {1, 99, 0, 100, LEAST}) refused("give(" + lane + ", " + many + ")", INDEX, x -> x.give(lane, many));
    for (int many : new int[] {0, -1, 100, 101, LEAST, GREATEST}) refused("give(1, " + many + ")", ARGUMENT, x -> x.give(1, many));
    Bench.refusedAsIfNever("give(2, 100) of two", CallSentencesTest::plain, INDEX, x -> x.give(2, 100));
    for (int many : new int[] {1, 99}) Bench.due("give(4, " + many + ")", rich().give(4, many), 0);
  }

  private static void setRate() {
    Bench.sentence("15: rate: its rate from now on. Returns the one before");
    BucketBrigade x = Bench.taught(lane("a", 7, 30, 99, 0, 60) + lane("b", 8, 30, 99, 0, 60));
    int before = 7;
    for (int rate = 0; rate <= 30; rate++) {
      Bench.due("setRate(0, " + rate + ")", x.setRate(0, rate), before);
      x.pass(2);
      Bench.due("its rate", x.lane(0, 1), rate);
      before = rate;
    }
    Bench.due("the same", x.setRate(0, 30), 30);
    Bench.due("that of the other one", x.lane(1, 1), 8);
    Bench.due("no order was carried out", x.count(10), 0);
  }

  private static final int[] WRONG_MOST = {-1, 31, 32, LEAST, GREATEST};

  private static void setRateRefused() {
    Bench.sentence("15: Throws IndexOutOfBoundsException if there is no such lane; IllegalArgumentException if rate is not 0 to 30");
    for (int lane : NO_LANE) for (int rate : new int[] {0, 30, -1, 31}) refused("setRate(" + lane + ", " + rate + ")", INDEX, x -> x.setRate(lane, rate));
    for (int rate : WRONG_MOST) Bench.refusedAsIfNever("setRate(5, " + rate + ")", CallSentencesTest::rich, ARGUMENT, x -> x.setRate(5, rate));
    Bench.refusedAsIfNever("setRate(2, 31) of two", CallSentencesTest::plain, INDEX, x -> x.setRate(2, 31));
  }

  private static void setMost() {
    Bench.sentence("16: most: the most that it may send in a minute from now on. Returns that before");
    BucketBrigade x = Bench.taught("well 30;" + lane("a", 30, 7, 99, 0, 60) + lane("b", 0, 8, 99, 0, 60));
    int before = 7;
    for (int most = 0; most <= 30; most++) {
      Bench.due("setMost(0, " + most + ")", x.setMost(0, most), before);
      x.bring(0, 30);
      Bench.due("sent", x.pass(1), most);
      x.bring(0, 30);
      Bench.due("sent in the next minute", x.pass(1), most);
      Bench.due("its most", x.lane(0, 2), most);
      before = most;
    }
    Bench.due("the same", x.setMost(0, 30), 30);
    Bench.due("that of the other one", x.lane(1, 2), 8);
    Bench.due("no order was carried out", x.count(10), 0);
  }

  private static void setMostRefused() {
    Bench.sentence("16: Throws IndexOutOfBoundsException if there is no such lane; IllegalArgumentException if most is not 0 to 30");
    for (int lane : NO_LANE) for (int most : new int[] {0, 30, -1, 31}) refused("setMost(" + lane + ", " + most + ")", INDEX, x -> x.setMost(lane, most));
    for (int most : WRONG_MOST) Bench.refusedAsIfNever("setMost(5, " + most + ")", CallSentencesTest::rich, ARGUMENT, x -> x.setMost(5, most));
    Bench.refusedAsIfNever("setMost(2, 31) of two", CallSentencesTest::plain, INDEX, x -> x.setMost(2, 31));
  }

  private static void setWell() {
    Bench.sentence("17: pails: how many the well gives in a minute from now on. Returns how many before");
    BucketBrigade x = Bench.taught(lane("a", 30, 30, 99, 0, 60));
    int before = 20;
    for (int pails = 0; pails <= 30; pails++) {
      Bench.due("setWell(" + pails + ")", x.setWell(pails), before);
      x.bring(0, 30);
      Bench.due("sent", x.pass(1), pails);
      x.bring(0, 30);
      Bench.due("sent in the next minute", x.pass(1), pails);
      Bench.due("the well", x.count(1), pails);
      before = pails;
    }
    Bench.due("the same", x.setWell(30), 30);
    Bench.due("of a new object", new BucketBrigade().setWell(0), 20);
  }

  private static void setWellRefused() {
    Bench.sentence("17: Throws IllegalArgumentException if pails is not 0 to 30");
    for (int pails : WRONG_MOST) refused("setWell(" + pails + ")", ARGUMENT, x -> x.setWell(pails));
  }

  private static void askingChangesNothing() {
    Bench.sentence("5 to 12, 22 and 23: Returns ...: asking changes nothing");
    Bench.answeredAsIfNever("errorAt", CallSentencesTest::rich, BucketBrigade::errorAt);
    for (int i = 0; i <= 12; i++) {
      int what = i;
      Bench.answeredAsIfNever("count", CallSentencesTest::rich, x -> x.count(what));
      Bench.answeredAsIfNever("lane", CallSentencesTest::rich, x -> x.lane(what % 6, what));
    }
    Bench.answeredAsIfNever("pail", CallSentencesTest::rich, x -> x.pail(2, 0));
    Bench.answeredAsIfNever("folk", CallSentencesTest::rich, x -> x.folk(7, 4));
    Bench.answeredAsIfNever("lender", CallSentencesTest::rich, x -> x.lender(4));
    Bench.answeredAsIfNever("common", CallSentencesTest::rich, x -> x.common(2, 5));
    Bench.answeredAsIfNever("eldest", CallSentencesTest::rich, BucketBrigade::eldest);
    Bench.answeredAsIfNever("mean", CallSentencesTest::rich, BucketBrigade::mean);
    Bench.answeredAsIfNever("digest", CallSentencesTest::rich, BucketBrigade::digest);
  }
}
