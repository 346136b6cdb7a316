import java.util.regex.Matcher;
import java.util.regex.Pattern;

/** The errors of "1. The language", sentence by sentence, each at its edges. */
public final class ErrorSentencesTest {
  private static final String REST = " rate 1 most 9 burst 3 rank 0 holds 2 drops old;";
  private static final String A = "lane a" + REST;
  private static final int N = A.length();

  public static void main(String[] args) {
    noBeginningOfAList();
    noToken();
    tooLong();
    endOfTheTape();
    tooDeep();
    tokens400();
    firstByte();
    onlyWithoutErrorOne();
    leftToRight();
    smallestNumber();
    errorTwo();
    errorThree();
    errorThreeOfItself();
    errorFourOfLanes();
    errorFourOfFolk();
    errorFourOfOrders();
    errorFive();
    noRangeInSums();
    numbered();
    latestWell();
    Bench.end();
  }

  private static String repeat(String text, int times) {
    StringBuilder all = new StringBuilder();
    for (int i = 0; i < times; i++) all.append(text);
    return all.toString();
  }

  private static void error(String text, int error, int place) {
    BucketBrigade x = new BucketBrigade();
    Bench.due("teach of <" + text + ">", Bench.teach(x, text), error);
    Bench.due("errorAt behind <" + text + ">", x.errorAt(), place);
  }

  private static void good(String text) {
    error(text, 0, -1);
  }

  private static final String[] LINES = {"well 7 ;", "lane b under a rate 1 most 9 burst 3 rank 0 holds 2 drops old ;", "folk f to a brings 1 every 1 from 0 ;",
    "raise a to 1 + 2 * 3 when 1 = 1 and 2 < 3 or 3 > 2 ;", "shut a when not dry a or [ full a ] ;", "cap a to min ( - 1 , ( 2 ) ) / 3 when 1 <= 2 and 1 >= 2 ;"};

  private static final String[] MAY_BE_MISSING = {"under", "when", "min", "-", "not", "1"};

  private static void partIsMissing(String[] parts, int gone) {
    StringBuilder text = new StringBuilder(A);
    int place = 0;
    for (int i = 0; i < parts.length; i++) {
      if (i == gone) place = text.length();
      else text.append(parts[i]).append(' ');
    }
    for (String part : MAY_BE_MISSING) if (part.equals(parts[gone])) return;
    error(text.toString(), 1, gone == parts.length - 1 ? text.length() : place);
  }

  // A } fits nowhere, and a keyword of lines fits only where a line can begin.
  private static void noBeginningOfAList() {
    Bench.sentence("Error 1: the first token with which the tokens so far are not the beginning of a list");
    for (String line : LINES) {
      String[] parts = line.split(" ");
      for (int i = 0; i <= parts.length; i++) {
        StringBuilder ahead = new StringBuilder(A);
        for (int k = 0; k < i; k++) ahead.append(parts[k]).append(' ');
        int place = ahead.length();
        error(ahead + "}", 1, place);
        if (i > 0 && i < parts.length) error(ahead + "well 7;", 1, place);
        if (i > 0 && i < parts.length && !parts[i].equals("every")) error(ahead + "every 7;", 1, place);
        if (i < parts.length) error(ahead.toString(), i == 0 ? 0 : 1, i == 0 ? -1 : place);
      }
      good(A + line + line.replace("lane b", "lane c").replace("folk f", "folk g"));
    }
    for (String line : new String[] {LINES[0], LINES[1], LINES[2], "cap a to 7 ;", "cap a to tokens a ;", "raise a to 7 when 7 = 7 ;", "shut a when dry a ;", "shut a when 7 < 7 ;"}) {
      String[] parts = line.split(" ");
      for (int i = 0; i < parts.length; i++) partIsMissing(parts, i);
    }
    for (String test : new String[] {"1", "1+2", "(1)", "minute", "tokens a", "min(1,2)", "-1"}) {
      error(A + "shut a when " + test + ";", 1, N + 12 + test.length());
      error(A + "shut a when [" + test + "];", 1, N + 13 + test.length());
      error(A + "shut a when 1=1 and " + test + ";", 1, N + 20 + test.length());
      error(A + "shut a when not " + test + " or 1=1;", 1, N + 17 + test.length());
    }
    for (String wrong : new String[] {"+", "*", "/", ")", "=", "[", "not ", ",", ";"}) error(A + "cap a to " + wrong + ";", 1, N + 9);
    for (String begun : new String[] {"(", "-", "min", "max(", "max(1", "max(1,", "max(1,2", "1+", "1-", "1*", "1/"}) error(A + "cap a to " + begun + ";", 1, N + 9 + begun.length());
    error("7", 1, 0);
    error("a", 1, 0);
    error("when", 1, 0);
    error("min(1,2);", 1, 0);
    error("under a;", 1, 0);
    error("well 7;7", 1, 7);
  }

  private static void noToken() {
    Bench.sentence("This includes a byte with which no token begins");
    String known = "abcdefghijklmnopqrstuvwxyz0123456789()[];,+-*/<>= \n";
    for (char sign = 0; sign < 256; sign++) {
      if (known.indexOf(sign) >= 0) continue;
      for (String line : LINES) {
        int blank = line.indexOf(' ');
        error(A + line.substring(0, blank + 1) + sign + line.substring(blank), 1, N + blank + 1);
        error(A + line + sign, 1, N + line.length());
      }
    }
  }

  private static void tooLong() {
    Bench.sentence("This includes ... a word or number that is too long");
    String[] parts = LINES[1].split(" ");
    for (int i = 0; i < parts.length; i++) {
      boolean number = Character.isDigit(parts[i].charAt(0));
      String longer = number ? "0000001" : "abcdefghijk";
      int place = N + (String.join(" ", parts) + " ").indexOf(" " + parts[i] + " ") + 1;
      if (parts[i].equals(";")) continue;
      error(A + LINES[1].replaceFirst("\\b" + parts[i] + "\\b", longer), 1, i == 0 ? N : place);
    }
    good("lane abcdefghij rate 000001 most 000009 burst 000003 rank 000000 holds 000002 drops old;");
    error(A + "lane abcdefghijk", 1, N + 5);
    error(A + "cap a to 0000001", 1, N + 9);
  }

  private static void endOfTheTape() {
    Bench.sentence("This includes ... the end of the tape (at its length)");
    for (String line : LINES) {
      for (int cut = 1; cut < line.length(); cut++) {
        String text = A + line.substring(0, cut);
        // A part of a keyword is a name or another keyword, which does not fit.
        boolean whole = line.charAt(cut - 1) == ' ' || line.charAt(cut) == ' ';
        if (whole) error(text, 1, text.length());
        if (whole) error(text + "\n \n", 1, text.length() + 3);
      }
      good(A + line);
    }
    good("");
    good(" \n");
  }

  private static void tooDeep() {
    Bench.sentence("This includes ... the (, [, - or not behind which the depth would be 9");
    String cap = A + "cap a to ";
    String shut = A + "shut a when ";
    error(cap + repeat("(", 9), 1, cap.length() + 8);
    error(cap + repeat("(", 8), 1, cap.length() + 8);
    error(cap + repeat("(", 8) + " -", 1, cap.length() + 9);
    error(cap + repeat("-", 8) + " (1)", 1, cap.length() + 9);
    error(cap + repeat("-", 8) + " -1", 1, cap.length() + 9);
    error(cap + repeat("-", 8) + "min (1,2)", 1, cap.length() + 12);
    error(cap + repeat("-", 8) + "max +", 1, cap.length() + 12);
    error(shut + repeat("[", 8) + "\n[1=1]", 1, shut.length() + 9);
    error(shut + repeat("[", 8) + " not 1=1", 1, shut.length() + 9);
    error(shut + repeat("[", 8) + " -1=1", 1, shut.length() + 9);
    error(shut + repeat("[", 8) + " (1)=1", 1, shut.length() + 9);
    error(shut + repeat("[", 8) + "1=-1", 1, shut.length() + 10);
    error(shut + repeat("not ", 8) + "not 1=1", 1, shut.length() + 32);
    error(shut + repeat("not ", 8) + "[1=1]", 1, shut.length() + 32);
    error(shut + repeat("not ", 8) + "-1=1", 1, shut.length() + 32);
    good(shut + repeat("not ", 8) + "1-1=1;");
  }

  // The line of a lane has 15 tokens, that of a cap 5, and that of a well 3.
  private static String listOf(int tokens) {
    int caps = 2 * tokens % 3;
    return A + repeat("cap a to 1;", caps) + repeat("well 1;", (tokens - 15 - 5 * caps) / 3);
  }

  private static final Pattern TOKEN = Pattern.compile("[a-z][a-z0-9]*|[0-9]+|[<>]=|[^ \n]");

  private static int countTokens(String text) {
    int n = 0;
    Matcher m = TOKEN.matcher(text);
    while (m.find()) n++;
    return n;
  }

  private static void tokens400() {
    Bench.sentence("This includes ... the token that would be the 401st (the end of the tape not counted)");
    for (int tokens = 396; tokens <= 404; tokens++) {
      String list = listOf(tokens);
      Bench.due("tokens of the list", countTokens(list), tokens);
      for (String blanks : new String[] {"", "\n", "  "}) {
        boolean fits = tokens <= 400;
        int place = fits ? -1 : placeOf401(list + blanks);
        error(list + blanks, fits ? 0 : 1, place);
      }
    }
    String list = listOf(400);
    for (String more : new String[] {"well 1;", "well", ";", "7", "lane", "?", "abcdefghijk", "1234567", "("}) {
      error(list + more, 1, list.length());
      error(list + "\n " + more, 1, list.length() + 2);
    }
    // With 400 tokens and no whole line it is the end of the tape; an error ahead of that is told.
    String short399 = listOf(399);
    error(short399 + "well", 1, short399.length() + 4);
    error(short399 + "well  ", 1, short399.length() + 6);
    error(short399 + "well 1", 1, short399.length() + 5);
    error(short399 + "7", 1, short399.length());
    error("well 1;?" + listOf(400), 1, 7);
    error(short399 + "lane abcdefghijk", 1, short399.length() + 5);
    error("well 31;" + listOf(396), 5, 5);
    error("well 31;" + short399, 1, 8 + placeOf(short399, 398));
  }

  private static int placeOf401(String text) {
    return placeOf(text, 401);
  }

  private static int placeOf(String text, int token) {
    Matcher m = TOKEN.matcher(text);
    for (int i = 0; i < token; i++) if (!m.find()) throw new AssertionError();
    return m.start();
  }

  private static void firstByte() {
    Bench.sentence("The position is that of its first byte");
    for (String blanks : new String[] {"", " ", "\n\n ", "      "}) {
      int b = blanks.length();
      error(blanks + "cap" + blanks + ";", 1, 3 + 2 * b);
      error(blanks + "every" + blanks + "7;", 1, b);
      error("well" + blanks + " every" + blanks + ";", 1, 5 + b);
      error("well" + blanks + "<=" + blanks + ";", 1, 4 + b);
      error("well 7" + blanks + "abcdefghijklmn" + blanks + ";", 1, 6 + b);
      error("well " + blanks + "12345678" + blanks + ";", 1, 5 + b);
      error("well " + blanks + "31" + blanks + ";", 5, 5 + b);
      error("well " + blanks + "999999" + blanks + ";", 5, 5 + b);
      error("shut " + blanks + "bcd" + blanks + " when 1=1;", 3, 5 + b);
      error(A + "lane " + blanks + "a" + REST, 2, N + 5 + b);
      error(A + repeat("cap a to 1;", 20) + blanks + "raise a to 1 when 1=1;", 4, N + 220 + b);
    }
  }

  private static final String[] OTHER = {A + A, "shut b when 1=1;", A + repeat("cap a to 1;", 21), "well 31;"};
  private static final int[] OTHER_ERROR = {2, 3, 4, 5};
  private static final int[] OTHER_PLACE = {N + 5, 5, N + 220, 5};

  private static void onlyWithoutErrorOne() {
    Bench.sentence("Only if there is no error 1, keywords, names and numbers are looked at");
    for (int i = 0; i < OTHER.length; i++) {
      error(OTHER[i], OTHER_ERROR[i], OTHER_PLACE[i]);
      error(OTHER[i] + "?", 1, OTHER[i].length());
      error(OTHER[i] + "well", 1, OTHER[i].length() + 4);
      error(OTHER[i] + "well 7;well 7", 1, OTHER[i].length() + 13);
      error(OTHER[i].substring(0, OTHER[i].length() - 1), 1, OTHER[i].length() - 1);
      error(OTHER[i] + repeat("well 1;", 133), 1, placeOf401(OTHER[i] + repeat("well 1;", 133)));
    }
  }

  private static void leftToRight() {
    Bench.sentence("looked at from left to right, and the first error is told, at its token");
    String a = "lane b" + REST;
    for (int i = 0; i < OTHER.length; i++) {
      for (int k = 0; k < OTHER.length; k++) {
        if (i == k) continue;
        // The names of the list behind are others, so that its errors are still its own.
        String behind = OTHER[k].replace("lane a", "lane q").replace("cap a", "cap q").replace("shut b", "shut z");
        error(OTHER[i] + behind, OTHER_ERROR[i], OTHER_PLACE[i]);
      }
    }
    error("lane a rate 31 most 31 burst 1 rank 1 holds 1 drops old;", 5, 12);
    error("lane a under b rate 31 most 1 burst 1 rank 1 holds 1 drops old;", 3, 13);
    error(A + "lane a under b rate 31 most 1 burst 1 rank 1 holds 1 drops old;", 2, N + 5);
    error(A + "folk f to b brings 31 every 1 from 0;", 3, N + 10);
    error(A + "folk f to a brings 31 every 31 from 0;", 5, N + 19);
    error(A + "folk f to a brings 1 every 31 from 100;", 5, N + 27);
    error(A + "cap b to tokens c;", 3, N + 4);
    error(A + "cap a to tokens c when full d;", 3, N + 16);
    error(A + "cap a to 1 when full d and dry e;", 3, N + 21);
    error(A + "cap a to 1 when 1=1 and dry e or full d;", 3, N + 28);
    good(A + a);
  }

  private static String lanes(int many) {
    StringBuilder text = new StringBuilder();
    for (int i = 0; i < many; i++) text.append("lane ").append((char) ('a' + i)).append(REST);
    return text.toString();
  }

  private static String folk(int many) {
    StringBuilder text = new StringBuilder(A);
    for (int i = 0; i < many; i++) text.append("folk f").append(i).append(" to a brings 1 every 1 from 0;");
    return text.toString();
  }

  private static void smallestNumber() {
    Bench.sentence("of errors at one token the one with the smallest number");
    String six = lanes(6);
    for (char name = 'a'; name <= 'f'; name++) error(six + "lane " + name + REST, 2, six.length() + 5);
    error(six + "lane g" + REST, 4, six.length() + 5);
    String eight = folk(8);
    for (int i = 0; i < 8; i++) error(eight + "folk f" + i + " to a brings 1 every 1 from 0;", 2, eight.length() + 5);
    error(eight + "folk f8 to a brings 1 every 1 from 0;", 4, eight.length() + 5);
  }

  private static void errorTwo() {
    Bench.sentence("Error 2: the name behind lane or folk (at the beginning of a line) is that of one of the same kind told ahead");
    for (int many = 1; many <= 6; many++) {
      String told = lanes(many);
      for (int i = 0; i < many; i++) error(told + "lane " + (char) ('a' + i) + REST, 2, told.length() + 5);
      error(told + "well 1;lane a under a" + REST, 2, told.length() + 12);
    }
    for (int many = 1; many <= 8; many++) {
      String told = folk(many);
      for (int i = 0; i < many; i++) error(told + "folk f" + i + " to a brings 1 every 1 from 0;", 2, told.length() + 5);
    }
    // One of the other kind may bear the name, and so may what only begins so.
    good(A + "folk a to a brings 1 every 1 from 0;");
    good(A + "folk f to a brings 1 every 1 from 0;lane f" + REST);
    good(A + "lane ab" + REST + "folk a to a brings 1 every 1 from 0;folk ab to a brings 1 every 1 from 0;");
    good(A + "lane b under a" + REST + "cap a to tokens a when full a;");
  }

  private static final String[] AHEAD = {"lane c under ", "folk f to ", "raise ", "cap ", "shut ", "shut a when full ", "shut a when dry ", "cap a to tokens ", "cap a to waits ",
    "cap a to sent ", "cap a to lost ", "cap a to lent ", "raise a to tokens ", "shut a when tokens a<waits ", "cap a to min(1,lost ", "shut a when not [1=1 or dry "};
  private static final String[] BEHIND = {REST, " brings 1 every 1 from 0;", " to 1 when 1=1;", " to 1;", " when 1=1;", ";", ";", ";", ";",
    ";", ";", ";", " when 1=1;", ";", ");", "];"};

  private static void errorThree() {
    Bench.sentence("Error 3: another name is not that of a lane told ahead");
    for (int i = 0; i < AHEAD.length; i++) {
      good(A + AHEAD[i] + "a" + BEHIND[i]);
      int place = N + AHEAD[i].length();
      for (String name : new String[] {"b", "aa", "a0", "abcdefghij"}) error(A + AHEAD[i] + name + BEHIND[i], 3, place);
      // Told behind is not told ahead, and folk are no lane.
      error(A + AHEAD[i] + "b" + BEHIND[i] + "lane b" + REST, 3, place);
      good(A + "lane b" + REST + AHEAD[i] + "b" + BEHIND[i]);
      String folk = "folk b to a brings 1 every 1 from 0;";
      error(A + folk + AHEAD[i] + "b" + BEHIND[i], 3, place + folk.length());
    }
    for (int many = 1; many <= 6; many++) {
      String told = lanes(many);
      for (int i = 0; i < 8; i++) {
        boolean there = i < many;
        error(told + "cap " + (char) ('a' + i) + " to 1;", there ? 0 : 3, there ? -1 : told.length() + 4);
      }
    }
    error("cap a to 1;", 3, 4);
  }

  private static void errorThreeOfItself() {
    Bench.sentence("Error 3: ... told ahead: a lane under itself");
    error("lane a under a" + REST, 3, 13);
    error(A + "lane b under b" + REST, 3, N + 13);
    good(A + "lane b under a" + REST);
    error("folk f to f brings 1 every 1 from 0;", 3, 10);
  }

  private static void errorFourOfLanes() {
    Bench.sentence("Error 4: the name of the 7th lane");
    for (int many = 0; many <= 6; many++) good(lanes(many));
    error(lanes(7), 4, lanes(6).length() + 5);
    error(lanes(9), 4, lanes(6).length() + 5);
    error(lanes(6) + "lane g under z" + REST, 4, lanes(6).length() + 5);
    error(lanes(6) + "lane g under g rate 99 most 9 burst 3 rank 0 holds 2 drops old;", 4, lanes(6).length() + 5);
    BucketBrigade x = Bench.taught(lanes(6));
    Bench.due("lanes", x.count(2), 6);
  }

  private static void errorFourOfFolk() {
    Bench.sentence("Error 4: the name ... of the 9th folk");
    for (int many = 0; many <= 8; many++) good(folk(many));
    error(folk(9), 4, folk(8).length() + 5);
    error(folk(10), 4, folk(8).length() + 5);
    error(folk(8) + "folk g to z brings 31 every 1 from 0;", 4, folk(8).length() + 5);
    BucketBrigade x = Bench.taught(folk(8));
    Bench.due("folk", x.count(3), 8);
    good(folk(8) + "lane b" + REST);
  }

  private static void errorFourOfOrders() {
    Bench.sentence("Error 4: ... the raise, cap or shut of the 21st order (of all three together)");
    String[] lines = {"raise a to 1 when 1=1;", "cap a to 1;", "shut a when 1=1;", "cap a to 1 when 1=1;"};
    for (int raises = 0; raises <= 20; raises += 5) {
      for (int caps = 0; raises + caps <= 20; caps += 4) {
        String told = A + repeat(lines[0], raises) + repeat(lines[1], caps) + repeat(lines[2], 20 - raises - caps);
        good(told);
        Bench.due("orders", Bench.taught(told).count(4), 20);
        for (String line : lines) {
          error(told + line, 4, told.length());
          error(told + line + line, 4, told.length());
          error(told + line.replace(" a ", " z "), 4, told.length());
        }
      }
    }
    for (int many = 0; many < 20; many++) good(A + repeat(lines[many % 4], many));
  }

  private static void errorFive() {
    Bench.sentence("Error 5: a number is out of its range: well 0 to 30, rate 0 to 30, most 0 to 30, burst 0 to 99, rank 0 to 9, holds 1 to 60, brings 1 to 30, every 1 to 30, from 0 to 99");
    String usual = "well 5;lane a rate 1 most 1 burst 1 rank 1 holds 1 drops new;folk f to a brings 1 every 1 from 1;";
    String[] names = {"well ", "rate ", "most ", "burst ", "rank ", "holds ", "brings ", "every ", "from "};
    int[] least = {0, 0, 0, 0, 0, 1, 1, 1, 0};
    int[] greatest = {30, 30, 30, 99, 9, 60, 30, 30, 99};
    for (int i = 0; i < names.length; i++) {
      int place = usual.indexOf(names[i]) + names[i].length();
      for (int number = 0; number <= 110; number++) {
        boolean fits = number >= least[i] && number <= greatest[i];
        error(usual.substring(0, place) + number + usual.substring(place + 1), fits ? 0 : 5, fits ? -1 : place);
      }
      for (String number : new String[] {"256", "999999", "065536", "000100"}) error(usual.substring(0, place) + number + usual.substring(place + 1), 5, place);
      error(usual.substring(0, place) + "-1" + usual.substring(place + 1), 1, place);
    }
  }

  private static void noRangeInSums() {
    Bench.sentence("Error 5: a number is out of its range: numbers of sums have none");
    for (String number : new String[] {"0", "31", "100", "999999"}) {
      good(A + "cap a to " + number + ";");
      good(A + "raise a to " + number + " when " + number + "=" + number + ";");
      good(A + "cap a to -min(" + number + "," + number + ");");
    }
  }

  private static void numbered() {
    Bench.sentence("Lanes, folk and orders ... are numbered from 0 in the order in which they are told");
    StringBuilder text = new StringBuilder();
    for (int i = 0; i < 8; i++) {
      if (i < 6) text.append("lane " + (char) ('z' - i) + " rate " + i + " most 9 burst 3 rank 0 holds 2 drops old;");
      text.append("folk " + (char) ('z' - i) + " to z brings " + (i + 1) + " every 1 from 99;");
    }
    BucketBrigade x = Bench.taught(text.toString());
    for (int i = 0; i < 6; i++) Bench.due("rate of lane " + i, x.lane(i, 1), i);
    for (int i = 0; i < 8; i++) Bench.due("pails of folk " + i, x.folk(i, 1), i + 1);
    // Each order changes the bound, so that all twenty are seen by the next ones.
    StringBuilder orders = new StringBuilder(A);
    for (int i = 0; i < 20; i++) orders.append("cap a to " + (i + 10) + ";");
    BucketBrigade y = Bench.taught(orders.toString());
    y.pass(1);
    Bench.due("the latest order", y.lane(0, 2), 29);
    Bench.due("all orders", y.count(10), 20);
  }

  private static void latestWell() {
    Bench.sentence("The well is that of the latest line of well, 20 without one");
    Bench.due("without a list", new BucketBrigade().count(1), 20);
    Bench.due("without a line", Bench.taught("").count(1), 20);
    Bench.due("with lanes alone", Bench.taught(A).count(1), 20);
    Bench.due("of the least", Bench.taught("well 0;").count(1), 0);
    Bench.due("of the greatest", Bench.taught("well 30;").count(1), 30);
    Bench.due("of two", Bench.taught("well 3;well 9;").count(1), 9);
    Bench.due("of two, the greater one ahead", Bench.taught("well 9;" + A + "well 3;" + "cap a to 5;").count(1), 3);
    BucketBrigade x = Bench.taught("well 3;");
    Bench.teach(x, A);
    Bench.due("of a list ahead of this one", x.count(1), 20);
    x.setWell(4);
    Bench.teach(x, A);
    Bench.due("by hand ahead of this list", x.count(1), 20);
  }
}
