/** "Terms" and "1. The language", sentence by sentence, each at its edges. */
public final class LanguageSentencesTest {
  private static final String REST = " rate 1 most 9 burst 3 rank 0 holds 2 drops old;";
  private static final String A = "lane a" + REST;
  private static final int N = A.length();
  private static final int LEAST = Integer.MIN_VALUE;
  private static final int GREATEST = Integer.MAX_VALUE;
  private static final String LEAST_SUM = "(-32768*65536)";
  private static final String GREATEST_SUM = "(32767*65536+65535)";

  public static void main(String[] args) {
    wrapAround();
    division();
    divisionByZero();
    leastByMinusOne();
    comparisons();
    positions();
    timeFromZero();
    tapeOf2000Bytes();
    emptyBehindTeach();
    blanksBetweenTokens();
    noOtherBlanks();
    blanksThatAreNeeded();
    longestToken();
    words();
    numbers();
    symbols();
    keywords();
    nothingOrMore();
    depthOfEachKind();
    depthOfMixedKinds();
    depthEnds();
    Bench.end();
  }

  private static String repeat(String text, int times) {
    StringBuilder all = new StringBuilder();
    for (int i = 0; i < times; i++) all.append(text);
    return all.toString();
  }

  private static void error(String text, int error, int place) {
    BucketBrigade x = new BucketBrigade();
    Bench.due("teach of <" + text + ">", Bench.teach(x, text), error);
    Bench.due("errorAt behind <" + text + ">", x.errorAt(), place);
  }

  private static void good(String text) {
    error(text, 0, -1);
  }

  private static void holds(String test, boolean want) {
    mostIs(A + "cap a to 30 when " + test + ";", want ? 30 : 9);
  }

  /** A sum that needs no number of more than six digits, and does not wrap around. */
  private static String told(int number) {
    int high = number >> 16;
    return (high < 0 ? "-" + -high : "" + high) + "*65536+" + (number & 65535);
  }

  private static void sumIs(String sum, int want) {
    holds(sum + "=" + told(want), true);
    if (want != GREATEST) holds(sum + "<" + told(want + 1), true);
    if (want != LEAST) holds(sum + ">" + told(want - 1), true);
    mostIs(A + "cap a to " + sum + ";", Math.max(0, Math.min(30, want)));
  }

  private static void mostIs(String text, int want) {
    BucketBrigade x = Bench.taught(text);
    x.pass(1);
    Bench.due("the most of a behind <" + text + ">", x.count(2) == 0 ? -1 : x.lane(0, 2), want);
  }

  private static void wrapAround() {
    Bench.sentence("sums, differences and products of the language wrap around in 32 bits");
    sumIs(GREATEST_SUM, GREATEST);
    sumIs(GREATEST_SUM + "+0", GREATEST);
    sumIs(GREATEST_SUM + "+1", LEAST);
    sumIs(GREATEST_SUM + "+31", LEAST + 30);
    sumIs(GREATEST_SUM + "+" + GREATEST_SUM, -2);
    sumIs(LEAST_SUM, LEAST);
    sumIs(LEAST_SUM + "+" + LEAST_SUM, 0);
    sumIs(LEAST_SUM + "-0", LEAST);
    sumIs(LEAST_SUM + "-1", GREATEST);
    sumIs(LEAST_SUM + "-" + GREATEST_SUM, 1);
    sumIs(GREATEST_SUM + "-" + LEAST_SUM, -1);
    sumIs("0-" + LEAST_SUM, LEAST);
    sumIs("-" + LEAST_SUM, LEAST);
    sumIs("--" + LEAST_SUM, LEAST);
    sumIs("-" + GREATEST_SUM, LEAST + 1);
    sumIs("-1-" + GREATEST_SUM, LEAST);
    sumIs("-2-" + GREATEST_SUM, GREATEST);
    sumIs("32768*65535", GREATEST - 32767);
    sumIs("32768*65536", LEAST);
    sumIs("-32768*65536", LEAST);
    sumIs("65535*65537", -1);
    sumIs("65536*65536", 0);
    sumIs("65536*65536+7", 7);
    sumIs("999999*999999", 999999 * 999999);
    sumIs("999999*999999*999999", 999999 * 999999 * 999999);
    sumIs(LEAST_SUM + "*-1", LEAST);
    sumIs(GREATEST_SUM + "*2", -2);
    sumIs(GREATEST_SUM + "*" + GREATEST_SUM, 1);
    sumIs("(" + GREATEST_SUM + "+1)/2", LEAST / 2);
    sumIs("min(" + GREATEST_SUM + "+1,0)", LEAST);
    sumIs("max(" + LEAST_SUM + "-1,0)", GREATEST);
  }

  private static void division() {
    Bench.sentence("/ is cut towards 0");
    int[] numbers = {0, 1, -1, 2, -2, 7, -7, 8, -8, 999999, -999999};
    for (int left : numbers) {
      for (int right : new int[] {1, -1, 2, -2, 3, -3, 7, -7, 8, -8, 999999}) {
        int want = (int) Math.signum((float) left * right) * (Math.abs(left) / Math.abs(right));
        holds(left + "/" + right + "=" + want, true);
      }
    }
    sumIs("-1/2", 0);
    sumIs("-59/2", -29);
    sumIs("59/2", 29);
    sumIs("-(59/2)", -29);
    sumIs("-59/-2", 29);
    sumIs("59/-2", -29);
    sumIs(GREATEST_SUM + "/2", GREATEST / 2);
    sumIs(LEAST_SUM + "/2", LEAST / 2);
    sumIs("(" + LEAST_SUM + "+1)/2", -GREATEST / 2);
    sumIs(LEAST_SUM + "/" + LEAST_SUM, 1);
    sumIs(GREATEST_SUM + "/" + LEAST_SUM, 0);
    sumIs(LEAST_SUM + "/" + GREATEST_SUM, -1);
  }

  private static void divisionByZero() {
    Bench.sentence("/ ... gives 0 with 0 on the right side");
    for (String left : new String[] {"0", "1", "-1", "7", "999999", LEAST_SUM, GREATEST_SUM, "3*4", "5/0"}) {
      sumIs(left + "/0", 0);
      sumIs(left + "/(2-2)", 0);
      sumIs(left + "/-0", 0);
      sumIs(left + "/minute", 0);
      sumIs(left + "/(1/2)", 0);
    }
    sumIs("0/1", 0);
    sumIs("9/0+4", 4);
    sumIs("9/0*4+1", 1);
    sumIs("9/(9/0)", 0);
  }

  private static void leastByMinusOne() {
    Bench.sentence("-2147483648 / -1 gives -2147483648");
    sumIs(LEAST_SUM + "/-1", LEAST);
    sumIs("-999999/-1", 999999);
    sumIs("(" + LEAST_SUM + "+1)/-1", GREATEST);
    sumIs(LEAST_SUM + "/1", LEAST);
    sumIs(GREATEST_SUM + "/-1", -GREATEST);
    sumIs(LEAST_SUM + "/-1/-1", LEAST);
  }

  private static void comparisons() {
    Bench.sentence("All numbers are whole");
    int[] numbers = {LEAST, LEAST + 1, -1, 0, 1, GREATEST - 1, GREATEST};
    for (int left : numbers) {
      for (int right : numbers) {
        String l = told(left);
        String r = told(right);
        holds(l + "<" + r, left < right);
        holds(l + ">" + r, left > right);
        holds(l + "=" + r, left == right);
        holds(l + "<=" + r, left <= right);
        holds(l + ">=" + r, left >= right);
        holds("min(" + l + "," + r + ")=" + told(Math.min(left, right)), true);
        holds("max(" + l + "," + r + ")=" + told(Math.max(left, right)), true);
      }
    }
    holds("1/2+1/2=0", true);
    holds("3/2*2=2", true);
  }

  private static void positions() {
    Bench.sentence("Positions of the tape are counted from 0, in bytes");
    for (int place = 0; place < 45; place++) {
      error(repeat(" ", place) + "?", 1, place);
      error(repeat("\n", place) + "\u00e4\u00f6", 1, place);
      error(repeat(" ", place) + "well 31;", 5, place + 5);
      error(repeat(" ", place) + "well", 1, place + 4);
    }
  }

  private static void timeFromZero() {
    Bench.sentence("Time is told in minutes, from 0");
    BucketBrigade x = new BucketBrigade();
    Bench.due("the first minute", x.count(0), 0);
    Bench.teach(x, A + "cap a to minute+7;");
    x.pass(1);
    Bench.due("the minute of the first order", x.lane(0, 2), 7);
    Bench.due("the next minute", x.count(0), 1);
    x.pass(1);
    Bench.due("the minute of the second order", x.lane(0, 2), 8);
  }

  private static void tapeOf2000Bytes() {
    Bench.sentence("The tape is a row of at most 2000 bytes, at first empty");
    BucketBrigade x = new BucketBrigade();
    Bench.due("bytes at first", x.count(12), 0);
    Bench.due("a list of no bytes", x.teach(), 0);
    Bench.due("its lanes", x.count(2), 0);
    Bench.due("a list of 2000 bytes", Bench.teach(x, repeat(" ", 1993) + "well 7;"), 0);
    Bench.due("its well", x.count(1), 7);
    Bench.due("a list of 2000 bytes with lanes", Bench.teach(x, A + repeat("\n", 2000 - 2 * N) + "lane b" + REST), 0);
    Bench.due("its lanes", x.count(2), 2);
    error(repeat(" ", 1999) + "?", 1, 1999);
    error(repeat(" ", 1994) + "well 7", 1, 2000);
    error(repeat(" ", 1999) + "a", 1, 1999);
    error(repeat(" ", 1992) + "well 31;", 5, 1997);
    error("well " + repeat("0", 1995), 1, 5);
    error(repeat("a", 2000), 1, 0);
    error(repeat("<", 2000), 1, 0);
    error(A + "cap a to 1 when 1" + repeat(" ", 1981 - N) + "<=", 1, 2000);
    error(A + "cap a to 1 when 1" + repeat(" ", 1982 - N) + "<", 1, 2000);
  }

  private static void emptyBehindTeach() {
    Bench.sentence("teach reads it as a list, and it is empty behind it");
    String[] texts = {"", " \n", "well 7;", "?", A + A, "shut b when 1=1;", A + repeat("cap a to 1;", 21), "well 31;", "well 7"};
    int[] errors = {0, 0, 0, 1, 2, 3, 4, 5, 1};
    for (int i = 0; i < texts.length; i++) {
      BucketBrigade x = new BucketBrigade();
      Bench.due("teach of <" + texts[i] + ">", Bench.teach(x, texts[i]), errors[i]);
      Bench.due("bytes behind <" + texts[i] + ">", x.count(12), 0);
      Bench.refused("trim(1) behind <" + texts[i] + ">", x, IllegalArgumentException.class, () -> x.trim(1));
      Bench.due("feed behind <" + texts[i] + ">", x.feed(0x77656C6C, 0x20333B20, 0, 0, 0), 20);
      x.trim(7);
      Bench.due("teach of <well 3;>", x.teach(), 0);
      Bench.due("its well", x.count(1), 3);
      Bench.due("teach of what is left", x.teach(), 0);
      Bench.due("the well without a line", x.count(1), 20);
    }
  }

  private static final String[] ALL = ("well 5 ; lane a rate 1 most 9 burst 3 rank 0 holds 2 drops old ; lane b under a rate 2 most 8 burst 4 rank 1 holds 3 drops new ;"
      + " folk f to b brings 4 every 2 from 1 ; raise a to min ( 1 , minute ) + max ( 2 , - 3 ) when full a and dry b or not [ 1 <= 2 ] ;"
      + " cap b to ( 7 - 2 ) * 6 / 5 when 1 >= 2 or 3 < 4 and 4 > 3 ; shut a when tokens a = waits b + sent a + lost b + lent a + spare ;").split(" ");

  private static long digestOf(String text) {
    BucketBrigade x = Bench.taught(text);
    x.pass(4);
    return x.digest();
  }

  private static void blanksBetweenTokens() {
    Bench.sentence("Blanks (32) and line ends (10) can stand between tokens, at the beginning and at the end");
    String plain = String.join(" ", ALL);
    long want = digestOf(plain);
    for (String blank : new String[] {"\n", "  ", "\n\n", " \n ", "\n \n"}) {
      Bench.due("the same list", digestOf(String.join(blank, ALL)) == want ? 1 : 0, 1);
      Bench.due("the same list", digestOf(blank + String.join(" ", ALL) + blank) == want ? 1 : 0, 1);
    }
    good(" ");
    good("\n");
    good(repeat(" \n", 1000));
    error(" \n;", 1, 2);
    error("well 7 \n", 1, 8);
  }

  private static void noOtherBlanks() {
    Bench.sentence("Blanks (32) and line ends (10) can stand between tokens: no other bytes can");
    for (char sign = 0; sign < 256; sign++) {
      if (sign == ' ' || sign == '\n' || sign > 32 && sign < 127) continue;
      error("" + sign, 1, 0);
      error(sign + "well 7;", 1, 0);
      error("well" + sign + "7;", 1, 4);
      error("well 7" + sign + ";", 1, 6);
      error("well 7;" + sign, 1, 7);
      error("well 7; " + sign + "\n", 1, 8);
    }
  }

  private static void blanksThatAreNeeded() {
    Bench.sentence("have to stand between two tokens that would otherwise be read as one");
    error("well7;", 1, 0);
    error("lanea" + REST, 1, 0);
    error("lane arate 1 most 9 burst 3 rank 0 holds 2 drops old;", 1, 11);
    error("lane a rate1 most 9 burst 3 rank 0 holds 2 drops old;", 1, 7);
    error("lane a rate 1 most 9 burst 3 rank 0 holds 2 dropsold;", 1, 44);
    error(A + "shut a when not1=1;", 1, N + 12);
    error(A + "shut a when fulla;", 1, N + 12);
    error(A + "shut a when 1=minuteand 2=2;", 1, N + 14);
    noTest("1< =1", 3);
    noTest("1> =1", 3);
    holds("1<=1", true);
    holds("1>=1", true);
    error(A + "cap a to 1 2;", 1, N + 11);
    sumIs("12", 12);
    // What would not be read as one needs none.
    good("lane a rate 1most 9burst 3rank 0holds 2drops old;folk f to a brings 1every 1from 0;well 7;well 8;");
    holds("1=1and 2=2or 3=3", true);
    holds("not[1=2]and not[2=3]", true);
    sumIs("min(1,2)+(3)-4*-5", 24);
  }

  // Error 1 at the byte that is so far behind the beginning of this.
  private static void noTest(String text, int place) {
    String ahead = A + "cap a to 30 when ";
    error(ahead + text + ";", 1, ahead.length() + place);
  }

  private static void longestToken() {
    Bench.sentence("The longest possible token is always read");
    for (String name : new String[] {"wells", "well7", "lanes", "older", "oldnew", "tor", "ands", "minx", "minut", "minutes", "nots", "a1b2"}) good("lane " + name + REST);
    BucketBrigade x = Bench.taught("well 12;");
    Bench.due("one number of two digits", x.count(1), 12);
    error("well 123;", 5, 5);
    error(A + "shut a when minute1=1;", 1, N + 12);
    error(A + "cap a to min1(1,2);", 1, N + 9);
    error(A + "cap a to minmax(1,2);", 1, N + 9);
    noTest("1<==1", 3);
    noTest("1>==1", 3);
    noTest("1<>1", 2);
    noTest("1><1", 2);
    noTest("1=<1", 2);
    noTest("1=>1", 2);
    noTest("1==1", 2);
    holds("1<=-1", false);
    holds("-1>=-1", true);
  }

  private static void words() {
    Bench.sentence("A word: a letter a to z, followed by letters a to z and digits, at most 10 bytes");
    for (char first = 0; first < 256; first++) {
      if (first >= 'a' && first <= 'z') good("lane " + first + REST);
      else if (first != ' ' && first != '\n') error("lane " + first + REST, 1, 5);
    }
    for (char next = 0; next < 256; next++) {
      boolean fits = next >= 'a' && next <= 'z' || next >= '0' && next <= '9';
      if (fits) good("lane q" + next + REST);
      else if (next != ' ' && next != '\n') error("lane q" + next + REST, 1, 6);
    }
    for (String ten : new String[] {"abcdefghij", "a123456789", "zzzzzzzzzz", "z999999999"}) {
      good("lane " + ten.substring(0, 9) + REST);
      good("lane " + ten + REST);
      error("lane " + ten + "a" + REST, 1, 5);
      error("lane " + ten + "0" + REST, 1, 5);
      error("lane  \n" + ten + "0" + REST, 1, 7);
      error("lane " + ten + ten + ten + REST, 1, 5);
      error("well 7;" + ten + "a", 1, 7);
      // All ten bytes tell names apart, and each of them.
      for (int place = 0; place < 10; place++) {
        String other = ten.substring(0, place) + (ten.charAt(place) == 'y' ? 'x' : 'y') + ten.substring(place + 1);
        good("lane " + ten + REST + "lane " + other + REST);
      }
      error("lane " + ten + REST + "lane " + ten + REST, 2, 15 + REST.length() + 5);
    }
    String signs = "0123456789abcdefghijklmnopqrstuvwxyz";
    for (int i = 0; i < signs.length(); i++) {
      for (int k = 0; k < i; k++) {
        good("lane q" + signs.charAt(i) + REST + "lane q" + signs.charAt(k) + REST);
        good("lane q" + signs.charAt(i) + "m" + REST + "lane q" + signs.charAt(k) + "m" + REST);
      }
    }
    good("lane a" + REST + "lane a0" + REST + "lane a00" + REST + "lane aa" + REST + "lane b" + REST + "lane ba" + REST);
  }

  private static void numbers() {
    Bench.sentence("A number: 1 to 6 digits");
    String[] right = {"0", "7", "07", "30", "000000", "000007", "000030"};
    for (String number : right) good("well " + number + ";");
    for (String number : new String[] {"0000000", "0000007", "1234567", "00000000000000000000", "18446744073709551623", "4294967303"}) {
      error("well " + number + ";", 1, 5);
      error(A + "cap a to " + number + ";", 1, N + 9);
      error(A + "cap a to 1+ " + number + ";", 1, N + 12);
    }
    sumIs("999999", 999999);
    sumIs("000000", 0);
    sumIs("000012", 12);
    sumIs("0", 0);
    for (int digit = 0; digit <= 9; digit++) sumIs("" + digit + digit + digit, digit * 111);
    error("well ;", 1, 5);
    error("well 1234567", 1, 5);
  }

  private static void symbols() {
    Bench.sentence("Symbols: ( ) [ ] ; , + - * / < > = <= >=");
    good(String.join(" ", ALL));
    good(String.join("", A, "cap a to min(1,2)+3-4*5/(6)when[1<2]and 1>2 or 1=2 and 1<=2 or 1>=2;"));
    String known = "()[];,+-*/<>=";
    for (char sign = 33; sign < 127; sign++) {
      boolean letter = sign >= 'a' && sign <= 'z' || sign >= '0' && sign <= '9';
      if (letter || known.indexOf(sign) >= 0) continue;
      error("" + sign, 1, 0);
      error(A + "cap a to 1" + sign + "2;", 1, N + 10);
      error(A + "cap a to 1 when 1<" + sign + "2;", 1, N + 18);
      error(A + "cap a to 1;" + sign, 1, N + 11);
    }
  }

  private static void keywords() {
    Bench.sentence("The keywords are: well lane ... min max. All other words are names");
    String all = " well lane under rate most burst rank holds drops old new folk to brings every from raise cap shut when minute"
        + " spare tokens waits sent lost lent full dry not and or min max ";
    for (String word : all.trim().split(" ")) {
      error("lane " + word + REST, 1, 5);
      error("lane b under " + word + REST, 1, 13);
      error(A + "folk " + word + " to a brings 1 every 1 from 0;", 1, N + 5);
      error(A + "folk f to " + word + " brings 1 every 1 from 0;", 1, N + 10);
      error(A + "cap " + word + " to 1;", 1, N + 4);
      error(A + "raise " + word + " to 1 when 1=1;", 1, N + 6);
      error(A + "shut " + word + " when 1=1;", 1, N + 5);
      error(A + "shut a when full " + word + ";", 1, N + 17);
      error(A + "shut a when dry " + word + ";", 1, N + 16);
      error(A + "cap a to tokens " + word + ";", 1, N + 16);
      good("lane " + word + "0" + REST);
      good("lane " + word + "q" + REST);
      good("lane q" + word + REST);
      String less = word.substring(0, word.length() - 1);
      if (!all.contains(" " + less + " ")) good("lane " + less + REST);
    }
  }

  private static void nothingOrMore() {
    Bench.sentence("[ x ] ... means x or nothing, { x } x any number of times, also none");
    good("");
    good("well 1;");
    good(repeat("well 1;", 133));
    good("lane a" + REST + "lane b under a" + REST);
    error("lane a under" + REST, 1, 13);
    error(A + "lane b under a under a" + REST, 1, N + 15);
    good(A + "cap a to 1;cap a to 1 when 1=1;");
    error(A + "cap a to 1 when;", 1, N + 15);
    error(A + "cap a to 1 when 1=1 when 1=1;", 1, N + 20);
    for (int times : new int[] {0, 1, 2, 40}) {
      good(A + "shut a when 1=1" + repeat(" or dry a", times) + ";");
      good(A + "shut a when 1=1" + repeat(" and dry a", times) + ";");
      good(A + "cap a to 1" + repeat("+1", times) + repeat("-1", times) + ";");
      good(A + "cap a to 1" + repeat("*1", times) + repeat("/1", times) + ";");
    }
  }

  private static final String SUM = A + "cap a to ";
  private static final String TEST = A + "shut a when ";

  private static void depthOfEachKind() {
    Bench.sentence("Depth ... may be at most 8: of each kind for itself");
    for (int deep = 0; deep <= 10; deep++) {
      boolean fits = deep <= 8;
      error(SUM + repeat("(", deep) + "1" + repeat(")", deep) + ";", fits ? 0 : 1, fits ? -1 : SUM.length() + 8);
      error(SUM + repeat("-", deep) + "1;", fits ? 0 : 1, fits ? -1 : SUM.length() + 8);
      error(SUM + repeat("min(", deep) + "1" + repeat(",1)", deep) + ";", fits ? 0 : 1, fits ? -1 : SUM.length() + 35);
      error(SUM + repeat("max(1,", deep) + "1" + repeat(")", deep) + ";", fits ? 0 : 1, fits ? -1 : SUM.length() + 51);
      error(TEST + repeat("[", deep) + "dry a" + repeat("]", deep) + ";", fits ? 0 : 1, fits ? -1 : TEST.length() + 8);
      error(TEST + repeat("not ", deep) + "dry a;", fits ? 0 : 1, fits ? -1 : TEST.length() + 32);
    }
    error(SUM + repeat("(", 500), 1, SUM.length() + 8);
    error(SUM + repeat("-", 500), 1, SUM.length() + 8);
    error(TEST + repeat("[", 500), 1, TEST.length() + 8);
    error(TEST + repeat("not ", 400), 1, TEST.length() + 32);
  }

  // So much of one kind, then so much of another one inside: together it may be 8.
  private static void depthOfMixedKinds() {
    Bench.sentence("Depth ... may be at most 8: of all kinds together");
    String[] open = {"(", "-", "min(", "max(0,"};
    String[] shut = {")", "", ",0)", ")"};
    for (int one = 0; one < open.length; one++) {
      for (int other = 0; other < open.length; other++) {
        for (int deep = 1; deep <= 8; deep++) {
          String outer = SUM + repeat(open[one], deep);
          String eight = repeat(open[other], 8 - deep);
          good(outer + eight + "1" + repeat(shut[other], 8 - deep) + repeat(shut[one], deep) + ";");
          int place = outer.length() + eight.length() + (open[other].length() > 1 ? 3 : 0);
          error(outer + eight + open[other] + "1" + repeat(shut[other], 9 - deep) + repeat(shut[one], deep) + ";", 1, place);
        }
      }
    }
    for (int deep = 1; deep <= 8; deep++) {
      for (String inside : new String[] {"(", "-"}) {
        String behind = inside.equals("(") ? repeat(")", 8 - deep) : "";
        String right = TEST + repeat("[", deep) + "0<" + repeat(inside, 8 - deep);
        good(right + "1" + behind + repeat("]", deep) + ";");
        error(right + inside + "1", 1, right.length());
        String left = TEST + repeat("not ", deep) + repeat(inside, 8 - deep);
        good(left + "1" + behind + "=1;");
        error(left + inside + "1", 1, left.length());
        String second = TEST + repeat("not ", deep) + "1=" + repeat(inside, 8 - deep);
        good(second + "1" + behind + ";");
        error(second + inside + "1", 1, second.length());
      }
      String nots = TEST + repeat("[", deep) + repeat("not ", 8 - deep);
      good(nots + "dry a" + repeat("]", deep) + ";");
      error(nots + "not dry a", 1, nots.length());
      error(nots + "[dry a", 1, nots.length());
      String rows = TEST + repeat("not ", deep) + repeat("[", 8 - deep);
      good(rows + "dry a" + repeat("]", 8 - deep) + ";");
      error(rows + "[dry a", 1, rows.length());
      error(rows + "not dry a", 1, rows.length());
    }
  }

  private static void depthEnds() {
    Bench.sentence("It is 0 at the beginning, and 1 greater between a ( and its ), a [ and its ], behind a - ... for what it turns, and behind a not for what it turns");
    String eight = repeat("(", 8) + "1" + repeat(")", 8);
    String turned = repeat("-", 8) + "1";
    for (String one : new String[] {eight, turned}) {
      for (String other : new String[] {eight, turned}) {
        for (String sign : new String[] {"+", "-", "*", "/"}) good(SUM + one + sign + other + sign + one + ";");
        good(SUM + one + " when " + other + "=" + one + " or " + other + "<" + one + ";");
        error(SUM + "min(" + one.substring(0, 7) + "1" + (one == eight ? repeat(")", 7) : "") + "," + other + ")", 1, SUM.length() + (one == eight ? 27 : 20));
      }
    }
    good(SUM + eight + ";cap a to " + eight + ";cap a to " + turned + " when " + turned + "=" + eight + ";shut a when " + eight + "=1;");
    String rows = repeat("[", 8) + "dry a" + repeat("]", 8);
    String nots = repeat("not ", 8) + "dry a";
    for (String one : new String[] {rows, nots}) {
      for (String other : new String[] {rows, nots}) good(TEST + one + " and " + other + " or " + one + " or " + other + ";");
    }
    good(TEST + "[" + rows.substring(1) + " and " + nots + " or " + rows + ";");
    error(TEST + "[dry a and " + rows, 1, TEST.length() + 18);
    error(TEST + "[dry a or " + nots, 1, TEST.length() + 38);
    // The - between two sums turns nothing.
    good(SUM + "1" + repeat("-1", 40) + ";");
    good(SUM + "1" + repeat("- --------1", 5) + ";");
    error(SUM + "1" + repeat("-", 10) + "1;", 1, SUM.length() + 10);
    good(SUM + "1" + repeat("-", 9) + "1;");
    good(SUM + "1" + repeat("*--------1", 5) + ";");
  }
}
