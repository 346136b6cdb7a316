import java.util.ArrayList;
import java.util.List;
import java.util.Random;

/** Runs of calls drawn by fixed seeds, on the class and on PlainModel: each answer must be the same. */
public final class RandomRunsTest {
  private static final String[] LANES = {"a", "b", "c2", "dd", "e", "f", "g7"};
  private static final String[] FOLK = {"a", "p", "q", "r", "s", "t", "u", "v", "w"};

  private static int wrong;
  private static long calls;
  private static int errors;

  private final Random random;
  private final BucketBrigade real = new BucketBrigade();
  private final PlainModel plain = new PlainModel();
  private final int seed;
  private int used;

  private RandomRunsTest(int seed) {
    this.seed = seed;
    random = new Random(seed);
  }

  public static void main(String[] args) {
    int runs = args.length > 0 ? Integer.parseInt(args[0]) : 600;
    for (int seed = 0; seed < runs && wrong < 20; seed++) new RandomRunsTest(seed).run();
    System.out.println(calls + " calls, " + errors + " lists with errors, " + wrong + " answers wrong");
    if (wrong != 0) System.exit(1);
  }

  private interface Call {
    Object on(boolean real);
  }

  private static Object answer(Call call, boolean real) {
    try {
      return call.on(real);
    } catch (IllegalArgumentException | IllegalStateException e) {
      return e.getClass().getName();
    } catch (IndexOutOfBoundsException e) {
      // Own throws are of this very class; the machine's own are of a class below it.
      return real ? e.getClass().getName() : IndexOutOfBoundsException.class.getName();
    } catch (RuntimeException e) {
      return "machine: " + e;
    }
  }

  private Object same(String name, Call call) {
    calls++;
    used++;
    Object got = answer(call, true);
    Object want = answer(call, false);
    if (!got.equals(want)) {
      wrong++;
      System.out.println("seed " + seed + ": " + name + " answered " + got + ", due is " + want);
    }
    return got;
  }

  private void run() {
    int steps = 40 + random.nextInt(60);
    if (random.nextInt(8) != 0) teach();
    // What an object answers behind 512 calls is free: a list takes some 105, a step and its digest two.
    for (int i = 0; i < steps && wrong < 20 && used <= 400; i++) {
      if (random.nextInt(25) == 0) teach();
      step();
      same("digest()", r -> r ? real.digest() : plain.digest());
    }
  }

  private int lane() { return random.nextInt(30) == 0 ? pick(-1, 7, Integer.MIN_VALUE, Integer.MAX_VALUE) : random.nextInt(6); }

  private int number(int greatest) {
    return random.nextInt(12) == 0 ? pick(-1, 0, greatest, greatest + 1, Integer.MIN_VALUE, Integer.MAX_VALUE) : random.nextInt(greatest + 1);
  }

  private int pick(int... of) { return of[random.nextInt(of.length)]; }

  private void step() {
    int a = lane();
    int b = lane();
    int what = number(12);
    switch (random.nextInt(19)) {
      case 0: { int n = number(5); same("pail(" + a + ", " + n + ")", r -> r ? real.pail(a, n) : plain.pail(a, n)); break; }
      case 1: same("lane(" + a + ", " + what + ")", r -> r ? real.lane(a, what) : plain.lane(a, what)); break;
      case 2: { int n = number(4); same("folk(" + a + ", " + n + ")", r -> r ? real.folk(a, n) : plain.folk(a, n)); break; }
      case 3: same("lender(" + a + ")", r -> r ? real.lender(a) : plain.lender(a)); break;
      case 4: same("common(" + a + ", " + b + ")", r -> r ? real.common(a, b) : plain.common(a, b)); break;
      case 5: same("eldest()", r -> r ? real.eldest() : plain.eldest()); break;
      case 6: { int n = number(30); same("bring(" + a + ", " + n + ")", r -> r ? real.bring(a, n) : plain.bring(a, n)); break; }
      case 7: { int n = number(99); same("give(" + a + ", " + n + ")", r -> r ? real.give(a, n) : plain.give(a, n)); break; }
      case 8: { int n = number(30); same("setRate(" + a + ", " + n + ")", r -> r ? real.setRate(a, n) : plain.setRate(a, n)); break; }
      case 9: { int n = number(30); same("setMost(" + a + ", " + n + ")", r -> r ? real.setMost(a, n) : plain.setMost(a, n)); break; }
      case 10: { int n = number(30); same("setWell(" + n + ")", r -> r ? real.setWell(n) : plain.setWell(n)); break; }
      case 11: same("until(" + a + ")", r -> r ? real.until(a) : plain.until(a)); break;
      case 12: { int n = number(100); same("foresee(" + n + ", " + what + ")", r -> r ? real.foresee(n, what) : plain.foresee(n, what)); break; }
      case 13: { int n = number(20); same("advise(" + n + ")", r -> r ? real.advise(n) : plain.advise(n)); break; }
      case 14: same("mean()", r -> r ? real.mean() : plain.mean()); break;
      case 15: { int n = number(100); same("pass(" + n + ")", r -> r ? real.pass(n) : plain.pass(n)); break; }
      case 16: same("count(" + what + ")", r -> r ? real.count(what) : plain.count(what)); break;
      default: { int n = 1 + random.nextInt(4); same("pass(" + n + ")", r -> r ? real.pass(n) : plain.pass(n)); break; }
    }
  }

  private void teach() {
    String text = random.nextInt(3) == 0 ? damaged(list()) : list();
    if (text.length() > 2000) text = text.substring(0, 2000);
    byte[] bytes = new byte[(text.length() + 19) / 20 * 20];
    for (int i = 0; i < text.length(); i++) bytes[i] = (byte) text.charAt(i);
    for (int i = 0; i < bytes.length; i += 20) {
      int a = four(bytes, i), b = four(bytes, i + 4), c = four(bytes, i + 8), d = four(bytes, i + 12), e = four(bytes, i + 16);
      same("feed", r -> r ? real.feed(a, b, c, d, e) : plain.feed(a, b, c, d, e));
    }
    int length = text.length();
    if (random.nextInt(4) == 0) same("feed", r -> r ? real.feed(0, 0, 0, 0, 0) : plain.feed(0, 0, 0, 0, 0));
    if (random.nextInt(4) == 0) same("trim", r -> r ? real.trim(2001) : plain.trim(2001));
    same("trim", r -> r ? real.trim(length) : plain.trim(length));
    Object told = same("teach() of <" + text + ">", r -> r ? real.teach() : plain.teach());
    if (!told.equals(0)) errors++;
    same("errorAt() of <" + text + ">", r -> r ? real.errorAt() : plain.errorAt());
  }

  private static int four(byte[] b, int i) {
    return (b[i] & 255) << 24 | (b[i + 1] & 255) << 16 | (b[i + 2] & 255) << 8 | b[i + 3] & 255;
  }

  private String list() {
    List<String> known = new ArrayList<>();
    StringBuilder text = new StringBuilder();
    boolean rough = random.nextInt(6) == 0;
    int lanes = rough ? random.nextInt(8) : 1 + random.nextInt(6);
    if (random.nextInt(3) != 0) text.append("well " + bound(0, 30, rough) + ";");
    for (int i = 0; i < Math.min(lanes, LANES.length); i++) {
      String name = rough && random.nextInt(9) == 0 ? LANES[random.nextInt(7)] : LANES[i];
      text.append("lane " + name);
      if (!known.isEmpty() && random.nextInt(3) != 0) text.append(" under " + known.get(random.nextInt(known.size())));
      text.append(" rate " + bound(0, random.nextBoolean() ? 4 : 30, rough) + " most " + bound(0, 30, rough)
          + " burst " + bound(0, random.nextBoolean() ? 5 : 99, rough) + " rank " + bound(0, random.nextBoolean() ? 2 : 9, rough)
          + " holds " + bound(1, random.nextBoolean() ? 6 : 60, rough) + " drops " + (random.nextBoolean() ? "old" : "new") + ";" + space());
      known.add(name);
    }
    if (rough || known.isEmpty()) known.add(LANES[random.nextInt(7)]);
    int folk = random.nextInt(rough ? 10 : 9);
    for (int i = 0; i < Math.min(folk, FOLK.length); i++) {
      text.append("folk " + FOLK[rough && random.nextInt(9) == 0 ? 0 : i] + " to " + known.get(random.nextInt(known.size())) + " brings "
          + bound(1, random.nextBoolean() ? 5 : 30, rough) + " every " + bound(1, random.nextBoolean() ? 3 : 30, rough)
          + " from " + bound(0, random.nextBoolean() ? 5 : 99, rough) + ";" + space());
    }
    int orders = random.nextInt(6) == 0 ? 18 + random.nextInt(4) : random.nextInt(7);
    for (int i = 0; i < orders; i++) {
      String name = known.get(random.nextInt(known.size()));
      int deep = orders > 10 ? 1 : 1 + random.nextInt(8);
      switch (random.nextInt(3)) {
        case 0: text.append("raise " + name + " to " + sum(known, deep) + " when " + test(known, deep) + ";"); break;
        case 1: text.append("cap " + name + " to " + sum(known, deep) + (random.nextBoolean() ? " when " + test(known, deep) : "") + ";"); break;
        default: text.append("shut " + name + " when " + test(known, deep) + ";"); break;
      }
      text.append(space());
    }
    return text.toString();
  }

  private String space() { return random.nextInt(3) == 0 ? " \n" : ""; }

  private int bound(int least, int greatest, boolean rough) {
    if (rough && random.nextInt(25) == 0) return pick(0, 31, 61, 100, 10, 999999);
    return random.nextInt(6) == 0 ? pick(least, greatest) : least + random.nextInt(greatest - least + 1);
  }

  private String name(List<String> known) { return known.get(random.nextInt(known.size())); }

  private String test(List<String> known, int deep) {
    int kind = deep <= 0 ? 3 + random.nextInt(3) : random.nextInt(8);
    switch (kind) {
      case 0: return "not " + test(known, deep - 1);
      case 1: return "[" + test(known, deep - 1) + "]";
      case 2: return test(known, deep - 2) + " or " + test(known, deep - 2);
      case 3: return "full " + name(known);
      case 4: return "dry " + name(known);
      case 6: return test(known, deep - 2) + " and " + test(known, deep - 2);
      default: return sum(known, deep - 1) + new String[] {"<", ">", "=", "<=", ">="}[random.nextInt(5)] + sum(known, deep - 1);
    }
  }

  private String sum(List<String> known, int deep) {
    int kind = deep <= 0 ? random.nextInt(4) : random.nextInt(11);
    switch (kind) {
      case 0: return "minute";
      case 1: return random.nextInt(3) == 0 ? "spare" : "" + random.nextInt(40);
      case 2: return "" + pick(0, 1, 2, 3, 5, 30, 31, 999999, 65536);
      case 3: return new String[] {"tokens ", "waits ", "sent ", "lost ", "lent "}[random.nextInt(5)] + name(known) + " ";
      case 4: return "-" + sum(known, deep - 2);
      case 5: return "(" + sum(known, deep - 1) + ")";
      case 6: return "min(" + sum(known, deep - 2) + "," + sum(known, deep - 2) + ")";
      case 7: return "max (" + sum(known, deep - 2) + " , " + sum(known, deep - 2) + ")";
      default: return sum(known, deep - 2) + "+-*/".charAt(random.nextInt(4)) + sum(known, deep - 2);
    }
  }

  private String damaged(String text) {
    StringBuilder t = new StringBuilder(text);
    String[] pieces = {"(", ")", "[", "]", ";", ",", "+", "-", "<", "=", " ", "\n", "not ", "min(", "abcdefghij", "abcdefghijk", "123456",
        "1234567", "A", "\t", "\u0000", "\u00e4", "lane", "a", "1", " when ", "lane a", "old", "and ", ">=", "------", "(((((("};
    int many = 1 + random.nextInt(2);
    for (int i = 0; i < many && t.length() > 0; i++) {
      int at = random.nextInt(t.length());
      switch (random.nextInt(5)) {
        case 0: t.deleteCharAt(at); break;
        case 1: t.setLength(at); break;
        case 2: t.delete(at, Math.min(t.length(), at + 1 + random.nextInt(12))); break;
        default: t.insert(at, pieces[random.nextInt(pieces.length)]); break;
      }
    }
    return t.toString();
  }
}
