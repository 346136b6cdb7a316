import java.util.ArrayList;
import java.util.List;
import java.util.function.Consumer;
import java.util.function.Supplier;

/** What the tests by hand share: feeding texts, and telling answers that are not due. */
final class Bench {
  private static int wrong;
  private static int looked;
  private static int sentences;
  private static String sentence = "";

  private Bench() {}

  interface Call {
    void run();
  }

  /** The sentence of the document that the answers from here on belong to. */
  static void sentence(String words) {
    sentences++;
    sentence = "<" + words + "> ";
  }

  static void due(String what, long got, long want) {
    tell(what, got == want, got, want);
  }

  static void dueMean(String what, double got, double want) {
    tell(what, got == want, got, want);
  }

  private static void tell(String what, boolean right, Object got, Object want) {
    looked++;
    if (!right) {
      wrong++;
      System.out.println(sentence + what + ": answered " + got + ", due is " + want);
    }
  }

  /** The call must throw this very class, and leave the digest as it was. */
  static void refused(String what, BucketBrigade x, Class<?> want, Call call) {
    long before = x.digest();
    Object got = "nothing";
    try {
      call.run();
    } catch (RuntimeException e) {
      got = e.getClass();
    }
    tell(what + " throws", got == want, got, want);
    due(what + ", digest behind it", x.digest(), before);
  }

  /** The call must throw this very class, and all that the object answers later must be as without it. */
  static void refusedAsIfNever(String what, Supplier<BucketBrigade> make, Class<?> want, Consumer<BucketBrigade> call) {
    BucketBrigade x = make.get();
    refused(what, x, want, () -> call.accept(x));
    sameEver(what, x, make.get());
  }

  /** The call must be answered, and all that the object answers later must be as without it. */
  static void answeredAsIfNever(String what, Supplier<BucketBrigade> make, Consumer<BucketBrigade> call) {
    BucketBrigade x = make.get();
    call.accept(x);
    sameEver(what, x, make.get());
  }

  private static void sameEver(String what, BucketBrigade x, BucketBrigade y) {
    List<Object> got = everAfter(x);
    List<Object> want = everAfter(y);
    tell("all answers behind " + what, got.equals(want), got, want);
  }

  /** What an object tells now, what would be and what is behind some minutes, and what its tape says. */
  private static List<Object> everAfter(BucketBrigade x) {
    List<Object> all = new ArrayList<>();
    allNow(x, all);
    for (int round = 0; round < 3; round++) {
      all.add(x.pass(round + 1));
      allNow(x, all);
    }
    all.add(x.teach());
    allNow(x, all);
    all.add(x.pass(3));
    allNow(x, all);
    return all;
  }

  private static void allNow(BucketBrigade x, List<Object> all) {
    all.add(x.digest());
    all.add(x.errorAt());
    all.add(x.mean());
    all.add(x.eldest());
    all.add(x.advise(9));
    for (int what = 5; what <= 11; what++) all.add(x.foresee(5, what));
    for (int lane = 0; lane < x.count(2); lane++) {
      all.add(x.until(lane));
      all.add(x.common(lane, 0));
    }
  }

  /** Answers how many calls it took. */
  static int feed(BucketBrigade x, String text) {
    int[] row = new int[(text.length() + 19) / 20 * 5];
    for (int i = 0; i < row.length * 4; i++) {
      int sign = i < text.length() ? text.charAt(i) : 'X';
      row[i / 4] |= (sign & 255) << (24 - i % 4 * 8);
    }
    int start = x.count(12);
    for (int i = 0; i < row.length; i += 5) x.feed(row[i], row[i + 1], row[i + 2], row[i + 3], row[i + 4]);
    x.trim(start + text.length());
    return row.length / 5 + 2;
  }

  static int teach(BucketBrigade x, String text) {
    feed(x, text);
    return x.teach();
  }

  static BucketBrigade taught(String text) {
    BucketBrigade x = new BucketBrigade();
    due("teach of <" + text + ">", teach(x, text), 0);
    due("errorAt behind <" + text + ">", x.errorAt(), -1);
    return x;
  }

  static void end() {
    if (sentences > 0) System.out.println(sentences + " sentences of the document");
    System.out.println(looked + " answers looked at, " + wrong + " wrong");
    if (wrong != 0) System.exit(1);
  }
}
