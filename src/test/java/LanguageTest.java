/** Promises 1 to 6, with the language and its errors. */
public final class LanguageTest {
  private static final String LANE = " rate 1 most 9 burst 3 rank 0 holds 2 drops old;";
  private static final String A = "lane a" + LANE;

  public static void main(String[] args) {
    newObject();
    feedAndTrim();
    tokens();
    strangeBytes();
    grammar();
    missingParts();
    depth();
    mostTokens();
    meaning();
    ranges();
    teachBeginsAnew();
    counts();
    reckoning();
    testsOfLanes();
    Bench.end();
  }

  private static void error(String text, int error, int place) {
    BucketBrigade x = new BucketBrigade();
    Bench.due("teach of <" + text + ">", Bench.teach(x, text), error);
    Bench.due("errorAt behind <" + text + ">", x.errorAt(), place);
  }

  private static String repeat(String text, int times) {
    StringBuilder all = new StringBuilder();
    for (int i = 0; i < times; i++) all.append(text);
    return all.toString();
  }

  private static void newObject() {
    BucketBrigade x = new BucketBrigade();
    for (int what = 0; what <= 12; what++) Bench.due("count " + what + " of a new object", x.count(what), what == 1 ? 20 : 0);
    Bench.due("errorAt of a new object", x.errorAt(), -1);
    Bench.due("eldest of a new object", x.eldest(), -1);
    Bench.dueMean("mean of a new object", x.mean(), 0.0);
    Bench.due("advise of a new object", x.advise(3), -1);
    Bench.refused("lane of a new object", x, IndexOutOfBoundsException.class, () -> x.lane(0, 0));
    Bench.refused("folk of a new object", x, IndexOutOfBoundsException.class, () -> x.folk(0, 0));
    Bench.due("pass", x.pass(3), 0);
    Bench.due("minute behind pass", x.count(0), 3);
    Bench.due("spare behind pass", x.count(11), 20);
  }

  private static void feedAndTrim() {
    BucketBrigade x = new BucketBrigade();
    Bench.refused("trim of an empty tape", x, IllegalArgumentException.class, () -> x.trim(1));
    Bench.due("trim(0)", x.trim(0), 0);
    for (int i = 1; i <= 100; i++) Bench.due("feed", x.feed(0x20202020, 0x20202020, 0x20202020, 0x20202020, 0x20202020), i * 20);
    Bench.refused("feed of a full tape", x, IllegalStateException.class, () -> x.feed(1, 2, 3, 4, 5));
    Bench.refused("trim(2001)", x, IllegalArgumentException.class, () -> x.trim(2001));
    Bench.refused("trim(-1)", x, IllegalArgumentException.class, () -> x.trim(-1));
    Bench.due("trim(2000)", x.trim(2000), 2000);
    Bench.due("trim(1981)", x.trim(1981), 1981);
    Bench.refused("feed of 1981", x, IllegalStateException.class, () -> x.feed(1, 2, 3, 4, 5));
    Bench.due("trim(1980)", x.trim(1980), 1980);
    Bench.due("feed of 1980", x.feed(0x20202020, 0x20202020, 0x20202020, 0x20202020, 0x2020203B), 2000);
    Bench.due("teach of blanks and ;", x.teach(), 1);
    Bench.due("errorAt: highest byte first", x.errorAt(), 1999);
    Bench.due("tape behind teach", x.count(12), 0);
    x.feed(0x77656C6C, 0x20373B20, 0x41000000, -1, Integer.MIN_VALUE);
    x.trim(7);
    Bench.due("teach of <well 7;>", x.teach(), 0);
    Bench.due("the well", x.count(1), 7);
    x.feed(-1, 0, 0, 0, 0);
    Bench.due("teach of byte 255", x.teach(), 1);
    Bench.due("errorAt of byte 255", x.errorAt(), 0);
  }

  private static void tokens() {
    error("", 0, -1);
    error(" \n \n", 0, -1);
    error("well\n7\n;", 0, -1);
    error("well 7;well 000008;", 0, -1);
    error("well7;", 1, 0);
    error("well 7\t;", 1, 6);
    error("well 7\r;", 1, 6);
    error("Well 7;", 1, 0);
    error("well 7;{", 1, 7);
    error("well 0000007;", 1, 5);
    error("well 000007;", 0, -1);
    error("wellwellwel 7;", 1, 0);
    error("lane abcdefghij" + LANE, 0, -1);
    error("lane a234567890" + LANE, 0, -1);
    error("lane abcdefghijk" + LANE, 1, 5);
    error("lane a" + " rate 1most 9burst 3rank 0holds 2drops old;", 0, -1);
    error("lane 1a" + LANE, 1, 5);
    error(A + "cap a to 1 when 1<=2and 1>=2or 1< 2;", 0, -1);
    error(A + "cap a to 1 when 1< =2;", 1, A.length() + 19);
    error(A + "cap a to 1 when 1=<2;", 1, A.length() + 18);
    error(A + "cap a to 1 when 1==2;", 1, A.length() + 18);
    // abcdefghij and abcdefghi are two names, and so are a and aa.
    error("lane abcdefghij" + LANE + "lane abcdefghi" + LANE + A + "lane aa" + LANE + "lane a0" + LANE, 0, -1);
    String keywords = "well lane under rate most burst rank holds drops old new folk to brings every from raise cap shut when minute"
        + " spare tokens waits sent lost lent full dry not and or min max";
    for (String keyword : keywords.split(" ")) error("lane " + keyword + LANE, 1, 5);
    for (String name : new String[] {"wel", "wells", "ol", "mi", "minutes", "o", "or1", "az", "z", "a9z0"}) error("lane " + name + LANE, 0, -1);
  }

  private static void strangeBytes() {
    String known = "abcdefghijklmnopqrstuvwxyz0123456789()[];,+-*/<>= \n";
    int n = A.length();
    for (char sign = 0; sign < 256; sign++) {
      if (known.indexOf(sign) >= 0) continue;
      error(sign + " 7;", 1, 0);
      error("well " + sign + ";", 1, 5);
      error("well 7 " + sign, 1, 7);
      error("lane a" + sign + LANE, 1, 6);
      error(A + "cap a to 1 when 2 " + sign + " 3;", 1, n + 18);
      error(A + "cap a to 1 when not" + sign + "1=1;", 1, n + 19);
      error(A + "cap a to 1" + sign + "2;", 1, n + 10);
    }
  }

  private static void grammar() {
    error("well 7", 1, 6);
    error("well 7 \n", 1, 8);
    error("well", 1, 4);
    error(";", 1, 0);
    error("well 3 ; ;", 1, 9);
    error("well a;", 1, 5);
    error("lane a under rate 1 most 9 burst 3 rank 0 holds 2 drops old;", 1, 13);
    error("lane a rate 1 most 9 burst 3 rank 0 holds 2 drops to;", 1, 50);
    error("lane a rate 1 most 9 burst 3 rank 0 holds 2 drops new", 1, 53);
    error("lane a most 9;", 1, 7);
    error(A + "folk f to a brings 1 every 1 from 0;", 0, -1);
    error(A + "folk f to a brings 1 from 0;", 1, A.length() + 21);
    error(A + "raise a to 3;", 1, A.length() + 12);
    error(A + "cap a to 3;", 0, -1);
    error(A + "cap a when 1=1;", 1, A.length() + 6);
    error(A + "shut a;", 1, A.length() + 6);
    error(A + "shut a when full a;", 0, -1);
    error(A + "shut a when [full a;", 1, A.length() + 19);
    error(A + "shut a when (full a);", 1, A.length() + 13);
    error(A + "shut a when [1]<2;", 1, A.length() + 14);
    error(A + "shut a when full a and dry a or not 1<2 and [1=2 or dry a];", 0, -1);
    error(A + "shut a when full a full a;", 1, A.length() + 19);
    error(A + "shut a when 1;", 1, A.length() + 13);
    error(A + "shut a when 1<2<3;", 1, A.length() + 15);
    error(A + "shut a when full 1;", 1, A.length() + 17);
    error(A + "cap a to 1+;", 1, A.length() + 11);
    error(A + "cap a to +1;", 1, A.length() + 9);
    error(A + "cap a to 1 2;", 1, A.length() + 11);
    error(A + "cap a to a;", 1, A.length() + 9);
    error(A + "cap a to (1;", 1, A.length() + 11);
    error(A + "cap a to 1);", 1, A.length() + 10);
    error(A + "cap a to min(1,2)*max(1,tokens a)-(waits a+sent a)/lost a--lent a+minute*spare;", 0, -1);
    error(A + "cap a to min(1);", 1, A.length() + 14);
    error(A + "cap a to min 1,2;", 1, A.length() + 13);
    error(A + "cap a to max(1,2,3);", 1, A.length() + 16);
    error(A + "cap a to tokens 1;", 1, A.length() + 16);
  }

  // Without any one of its tokens a line is none, and the next token is the first that can't follow.
  private static void missingParts() {
    String[] lines = {"well 7 ;", "lane b under a rate 1 most 9 burst 3 rank 0 holds 2 drops old ;", "folk f to a brings 1 every 1 from 0 ;",
      "raise a to 1 when 1 = 1 ;", "shut a when dry a ;", "cap a to min ( 1 , 2 ) ;", "cap a to max ( 1 , 2 ) ;", "cap a to tokens a ;"};
    for (String line : lines) {
      String[] parts = line.split(" ");
      for (int gone = 0; gone < parts.length; gone++) {
        StringBuilder text = new StringBuilder(A);
        int place = 0;
        for (int i = 0; i < parts.length; i++) {
          if (i == gone) place = text.length();
          else text.append(parts[i]).append(' ');
        }
        boolean fits = parts[gone].equals("when") || parts[gone].equals("under") || parts[gone].equals("min") || parts[gone].equals("max");
        if (!fits) error(text.toString(), 1, gone == parts.length - 1 ? text.length() : place);
      }
    }
    int n = A.length();
    error(A + "cap a to min;", 1, n + 12);
    error(A + "cap a to max+1;", 1, n + 12);
    error(A + "cap a to min,1);", 1, n + 12);
    error(A + "cap a to min(,1);", 1, n + 13);
    error(A + "cap a to -;", 1, n + 10);
    error(A + "cap a to ();", 1, n + 10);
    error(A + "shut a when not;", 1, n + 15);
    error(A + "shut a when [];", 1, n + 13);
    error(A + "shut a when 1=1 and;", 1, n + 19);
    error(A + "shut a when 1=1 or;", 1, n + 18);
    error(A + "shut a when 1=;", 1, n + 14);
  }

  private static void depth() {
    String cap = A + "cap a to ";
    error(cap + repeat("-", 8) + "1;", 0, -1);
    error(cap + repeat("-", 9) + "1;", 1, cap.length() + 8);
    error(cap + repeat("(", 8) + "1" + repeat(")", 8) + ";", 0, -1);
    error(cap + repeat("(", 9) + "1" + repeat(")", 9) + ";", 1, cap.length() + 8);
    error(cap + repeat("min(", 8) + "1" + repeat(",1)", 8) + ";", 0, -1);
    error(cap + repeat("min(", 9) + "1" + repeat(",1)", 9) + ";", 1, cap.length() + 35);
    error(cap + "max(1," + repeat("(", 7) + "1" + repeat(")", 8) + ";", 0, -1);
    error(cap + "max(1," + repeat("(", 8) + "1" + repeat(")", 9) + ";", 1, cap.length() + 13);
    error(cap + repeat("-", 7) + "(1)+" + repeat("-", 8) + "1-(((1)))*-1-1-1-1-1-1-1-1-1;", 0, -1);
    error(cap + repeat("-", 7) + "(-1);", 1, cap.length() + 8);
    String shut = A + "shut a when ";
    error(shut + repeat("not ", 8) + "full a;", 0, -1);
    error(shut + repeat("not ", 9) + "full a;", 1, shut.length() + 32);
    error(shut + repeat("[", 8) + "1=1" + repeat("]", 8) + ";", 0, -1);
    error(shut + repeat("[", 9) + "1=1" + repeat("]", 9) + ";", 1, shut.length() + 8);
    // A not holds for both sums behind it, but not for what follows and.
    error(shut + repeat("not ", 7) + "-1<-1 and --------1=1;", 0, -1);
    error(shut + repeat("not ", 7) + "-1<--1;", 1, shut.length() + 32);
    error(shut + repeat("not ", 4) + "[[[[full a or not full a]]]];", 1, shut.length() + 30);
    error(shut + repeat("not ", 4) + "[[[not full a or [full a]]]] or not full a;", 0, -1);
  }

  private static void mostTokens() {
    // 399 tokens: one more is read, the next one is the 401st.
    String many = repeat("well 1;", 133);
    error(many, 0, -1);
    error(many + "well", 1, 935);
    error(many + "well 1", 1, 936);
    error(many + " \n1", 1, 933);
    String full = A + "cap a to 1-1;" + repeat("well 1;", 126);
    Bench.due("tokens of a full list", countTokens(full), 400);
    error(full, 0, -1);
    error(full + "  ", 0, -1);
    error(full + " ;", 1, full.length() + 1);
    error(full + "well 1;", 1, full.length());
    error(full + "A", 1, full.length());
  }

  private static int countTokens(String text) {
    int n = 0;
    java.util.regex.Matcher m = java.util.regex.Pattern.compile("[a-z][a-z0-9]*|[0-9]+|[<>]=|[^ \n]").matcher(text);
    while (m.find()) n++;
    return n;
  }

  private static void meaning() {
    int n = A.length();
    error(A + A, 2, n + 5);
    error(A + "folk a to a brings 1 every 1 from 0;", 0, -1);
    error(A + "folk f to a brings 1 every 1 from 0;folk f to a brings 1 every 1 from 0;", 2, n + 41);
    error("lane a under a" + LANE, 3, 13);
    error("lane a under b" + LANE + "lane b" + LANE, 3, 13);
    error("folk f to a brings 1 every 1 from 0;" + A, 3, 10);
    error("raise b to 1 when 1=1;", 3, 6);
    for (String word : new String[] {"tokens", "waits", "sent", "lost", "lent"}) {
      error(A + "cap a to " + word + " b;", 3, n + 10 + word.length());
      error(A + "cap a to " + word + " a;", 0, -1);
    }
    error(A + "shut a when dry b;", 3, n + 16);
    error(A + "shut a when full b;", 3, n + 17);
    error("well 31;lane old;", 1, 13);
    error("well 31;" + A + A, 5, 5);
    String lanes = A + "lane b" + LANE + "lane c" + LANE + "lane d" + LANE + "lane e" + LANE + "lane f" + LANE;
    error(lanes, 0, -1);
    error(lanes + "lane g" + LANE, 4, lanes.length() + 5);
    error(lanes + "lane a" + LANE, 2, lanes.length() + 5);
    error(lanes + "lane g under h" + LANE, 4, lanes.length() + 5);
    StringBuilder folk = new StringBuilder(A);
    for (int i = 0; i < 8; i++) folk.append("folk f" + i + " to a brings 1 every 1 from 0;");
    error(folk.toString(), 0, -1);
    error(folk + "folk f8 to b brings 1 every 1 from 0;", 4, folk.length() + 5);
    error(folk + "folk f7 to b brings 1 every 1 from 0;", 2, folk.length() + 5);
    String orders = A + repeat("shut a when 1=1;", 7) + repeat("cap a to 1;", 7) + repeat("raise a to 1 when 1=1;", 6);
    error(orders, 0, -1);
    error(orders + "shut b when 1=1;", 4, orders.length());
    error(orders + "cap b to 1;", 4, orders.length());
    error(orders + "raise b to 1 when 1=1;", 4, orders.length());
    error(orders + "well 31;cap b to 1;", 5, orders.length() + 5);
    // Error 1 is told ahead of all others, also where it comes behind them.
    for (String other : new String[] {A + A, A + "shut b when 1=1;", orders + "cap a to 1;", "well 31;"}) {
      error(other + "well;", 1, other.length() + 4);
      error(other + "well 1", 1, other.length() + 6);
      error(other + "well 1;?", 1, other.length() + 7);
    }
  }

  private static void ranges() {
    String[] names = {"rate", "most", "burst", "rank", "holds"};
    int[][] bounds = {{0, 30}, {0, 30}, {0, 99}, {0, 9}, {1, 60}};
    int[] usual = {1, 1, 1, 1, 1};
    for (int i = 0; i < names.length; i++) {
      for (int number : new int[] {bounds[i][0] - 1, bounds[i][0], bounds[i][1], bounds[i][1] + 1, 999999}) {
        StringBuilder text = new StringBuilder("lane a");
        int place = 0;
        for (int k = 0; k < names.length; k++) {
          text.append(" " + names[k] + " ");
          if (k == i) place = text.length();
          text.append(k == i ? number : usual[k]);
        }
        text.append(" drops new;");
        boolean good = number >= bounds[i][0] && number <= bounds[i][1];
        if (number >= 0) error(text.toString(), good ? 0 : 5, good ? -1 : place);
      }
    }
    error("well 0;", 0, -1);
    error("well 30;", 0, -1);
    error("well 31;", 5, 5);
    int n = A.length();
    error(A + "folk f to a brings 0 every 1 from 0;", 5, n + 19);
    error(A + "folk f to a brings 31 every 1 from 0;", 5, n + 19);
    error(A + "folk f to a brings 30 every 0 from 0;", 5, n + 28);
    error(A + "folk f to a brings 30 every 31 from 0;", 5, n + 28);
    error(A + "folk f to a brings 30 every 30 from 100;", 5, n + 36);
    error(A + "folk f to a brings 30 every 30 from 99;", 0, -1);
    error(A + "cap a to 999999;", 0, -1);
  }

  private static void teachBeginsAnew() {
    BucketBrigade x = Bench.taught("well 4;" + A + "folk f to a brings 3 every 1 from 0;cap a to 2;");
    x.pass(3);
    x.setWell(9);
    Bench.due("an order was carried out", x.count(10), 1);
    Bench.due("teach with an error", Bench.teach(x, "well 5;well 31;"), 5);
    Bench.due("errorAt", x.errorAt(), 12);
    Bench.due("the well stays", x.count(1), 9);
    Bench.due("lanes stay", x.count(2), 1);
    Bench.due("folk stay", x.count(3), 1);
    Bench.due("orders stay", x.count(4), 1);
    Bench.due("the tape is empty", x.count(12), 0);
    x.setMost(0, 7);
    x.pass(1);
    Bench.due("the orders stay the same", x.lane(0, 2), 2);
    Bench.due("teach anew", Bench.teach(x, "lane b" + LANE + "lane c" + LANE + "folk f to c brings 1 every 3 from 2;"), 0);
    Bench.due("errorAt anew", x.errorAt(), -1);
    int[] want = {4, 20, 2, 1, 0, 0, 0, 0, 0, 0, 0, 0, 0};
    for (int what = 0; what < 13; what++) Bench.due("count " + what + " anew", x.count(what), want[what]);
    Bench.due("tokens anew", x.lane(0, 5), 3);
    Bench.due("sent anew", x.lane(0, 8), 0);
    Bench.due("waited anew", x.lane(0, 12), 0);
    Bench.dueMean("mean anew", x.mean(), 0.0);
    x.pass(1);
    Bench.due("folk of minute 5 are not there in 4", x.folk(0, 4), 0);
    x.pass(1);
    Bench.due("folk come in minute 5", x.folk(0, 4), 1);
    Bench.due("an empty tape is a list", x.teach(), 0);
    Bench.due("without lanes", x.count(2), 0);
    Bench.due("in the same minute", x.count(0), 6);
  }

  private static void counts() {
    BucketBrigade x = Bench.taught("well 5;lane a rate 1 most 9 burst 3 rank 0 holds 2 drops old;lane b under a rate 0 most 9 burst 0 rank 1 holds 4 drops new;"
        + "folk f to b brings 6 every 1 from 0;shut a when minute=1;cap b to 3+minute;");
    x.pass(1);
    // b has no tokens and may send 3: a lends all of its three.
    int[] first = {1, 5, 2, 1, 2, 1, 6, 3, 2, 3, 1, 2, 0};
    for (int what = 0; what < 13; what++) Bench.due("count " + what + " behind minute 0", x.count(what), first[what]);
    x.pass(1);
    // a is shut and lends nothing; of six pails three find room.
    int[] second = {2, 5, 2, 1, 2, 4, 12, 3, 5, 3, 3, 5, 0};
    for (int what = 0; what < 13; what++) Bench.due("count " + what + " behind minute 1", x.count(what), second[what]);
    x.feed(1, 2, 3, 4, 5);
    Bench.due("bytes of the tape", x.count(12), 20);
    for (int what : new int[] {-1, 13, Integer.MIN_VALUE, Integer.MAX_VALUE}) {
      Bench.refused("count(" + what + ")", x, IndexOutOfBoundsException.class, () -> x.count(what));
    }
  }

  private static void sumIs(String sum, int want) {
    // The number is told by the most that a may send, once as it is and once turned.
    BucketBrigade x = Bench.taught(A + "lane b" + LANE + "cap a to " + sum + ";cap b to -(" + sum + ");");
    x.pass(1);
    Bench.due("sum " + sum, x.lane(0, 2), Math.max(0, Math.min(30, want)));
    Bench.due("sum -(" + sum + ")", x.lane(1, 2), Math.max(0, Math.min(30, -want)));
  }

  private static void testIs(String test, boolean want) {
    BucketBrigade x = Bench.taught(A + "cap a to 30 when " + test + ";");
    x.pass(1);
    Bench.due("test " + test, x.lane(0, 2), want ? 30 : 9);
  }

  private static void reckoning() {
    sumIs("2+3*4", 14);
    sumIs("(2+3)*4", 20);
    sumIs("20-5-4", 11);
    sumIs("100/5/4", 5);
    sumIs("7/2", 3);
    sumIs("-7/2", -3);
    sumIs("7/-2", -3);
    sumIs("7/0", 0);
    sumIs("-2*3", -6);
    sumIs("5--3", 8);
    sumIs("min(4,7)+max(4,7)", 11);
    sumIs("min(4,7)", 4);
    sumIs("min(7,4)", 4);
    sumIs("max(4,7)", 7);
    sumIs("max(7,4)", 7);
    sumIs("min(-4,-7)", -7);
    sumIs("-65536*32768/-1/65536/2048", -16);
    sumIs("65536*65536", 0);
    sumIs("(65536*32767+65535+1)/(10000*10000)", -21);
    sumIs("(-65536*32768)/-1/-(10000*10000)", 21);
    sumIs("31", 31);
    sumIs("30", 30);
    sumIs("tokens a*10+waits a", 30);
    testIs("1<2", true);
    testIs("2<2", false);
    testIs("2<=2", true);
    testIs("3<=2", false);
    testIs("2>2", false);
    testIs("3>2", true);
    testIs("2>=3", false);
    testIs("2>=2", true);
    testIs("2=2", true);
    testIs("2=3", false);
    testIs("1=1 or 1=1 and 1=2", true);
    testIs("[1=1 or 1=1] and 1=2", false);
    testIs("1=2 and 1=1 or 1=1", true);
    testIs("not 1=1 and 1=2", false);
    testIs("not [1=1 and 1=2]", true);
    testIs("not 1=2 or 1=1", true);
    testIs("not 1=1 or 1=1", true);
    testIs("not not 1=1", true);
    testIs("not 1=1", false);
    testIs("not 1=1 and 1=1", false);
    testIs("1=2 and 1=1", false);
    testIs("1=1 and 1=2", false);
    testIs("1=1 and 1=1", true);
    testIs("1=2 or 1=2", false);
    testIs("1=1 or 1=2", true);
    testIs("full a", false);
    testIs("dry a", false);
    testIs("not dry a and not full a", true);
  }

  // a has three tokens and no pail, one token is left to b, d has none; e holds one pail of two, f two.
  private static void testOfLanesIs(String test, boolean want) {
    String drops = " rank 0 holds 2 drops old;";
    BucketBrigade x = Bench.taught("lane a rate 0 most 9 burst 3" + drops + "lane b rate 0 most 9 burst 1" + drops + "lane d rate 0 most 9 burst 0" + drops
        + "lane e rate 0 most 0 burst 3" + drops + "lane f rate 0 most 0 burst 3" + drops + "cap a to 30 when " + test + ";");
    x.bring(3, 1);
    x.bring(4, 2);
    x.pass(1);
    Bench.due("test " + test, x.lane(0, 2), want ? 30 : 9);
  }

  private static void testsOfLanes() {
    String[] hold = {"full f", "dry d", "1<2", "2>1", "1<=2", "2<=2", "2>=1", "2>=2", "2=2", "tokens a=3", "tokens b=1", "tokens d=0", "waits e=1", "waits f=2"};
    String[] fail = {"full a", "full d", "full e", "dry a", "dry b", "dry f", "2<1", "2<2", "1>2", "2>2", "3<=2", "2>=3", "2=3"};
    for (String yes : hold) {
      testOfLanesIs(yes, true);
      testOfLanesIs("not " + yes, false);
      testOfLanesIs("not not " + yes, true);
      testOfLanesIs(yes + " and 1=1", true);
      testOfLanesIs("full f and " + yes, true);
      testOfLanesIs(yes + " and dry a", false);
      testOfLanesIs("1=2 or " + yes, true);
    }
    for (String no : fail) {
      testOfLanesIs(no, false);
      testOfLanesIs("not " + no, true);
      testOfLanesIs("not not " + no, false);
      testOfLanesIs(no + " and 1=1", false);
      testOfLanesIs("dry d and not " + no, true);
      testOfLanesIs(no + " or dry d", true);
      testOfLanesIs("1=2 or " + no, false);
    }
  }
}
