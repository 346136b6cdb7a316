/** What the tests by hand share: feeding texts, and telling answers that are not due. */
final class Bench {
  private static int wrong;
  private static int looked;

  private Bench() {}

  interface Call {
    void run();
  }

  static void due(String what, long got, long want) {
    looked++;
    if (got != want) {
      wrong++;
      System.out.println(what + ": answered " + got + ", due is " + want);
    }
  }

  static void dueMean(String what, double got, double want) {
    looked++;
    if (got != want) {
      wrong++;
      System.out.println(what + ": answered " + got + ", due is " + want);
    }
  }

  /** The call must throw this very class, and leave the digest as it was. */
  static void refused(String what, BucketBrigade x, Class<?> want, Call call) {
    looked++;
    long before = x.digest();
    Object got = "nothing";
    try {
      call.run();
    } catch (RuntimeException e) {
      got = e.getClass();
    }
    if (got != want) {
      wrong++;
      System.out.println(what + ": threw " + got + ", due is " + want);
    }
    due(what + ", digest behind it", x.digest(), before);
  }

  static void feed(BucketBrigade x, String text) {
    int[] row = new int[(text.length() + 19) / 20 * 5];
    for (int i = 0; i < row.length * 4; i++) {
      int sign = i < text.length() ? text.charAt(i) : 'X';
      row[i / 4] |= (sign & 255) << (24 - i % 4 * 8);
    }
    int start = x.count(12);
    for (int i = 0; i < row.length; i += 5) x.feed(row[i], row[i + 1], row[i + 2], row[i + 3], row[i + 4]);
    x.trim(start + text.length());
  }

  static int teach(BucketBrigade x, String text) {
    feed(x, text);
    return x.teach();
  }

  static BucketBrigade taught(String text) {
    BucketBrigade x = new BucketBrigade();
    due("teach of <" + text + ">", teach(x, text), 0);
    due("errorAt behind <" + text + ">", x.errorAt(), -1);
    return x;
  }

  static void end() {
    System.out.println(looked + " answers looked at, " + wrong + " wrong");
    if (wrong != 0) System.exit(1);
  }
}
