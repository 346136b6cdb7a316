/** Promises 7 to 17: what there is, and what is done by hand. */
public final class LanesTest {
  private static final Class<?> INDEX = IndexOutOfBoundsException.class;
  private static final Class<?> ARGUMENT = IllegalArgumentException.class;

  public static void main(String[] args) {
    lane();
    pail();
    folk();
    lender();
    common();
    eldest();
    bring();
    give();
    setRate();
    setMost();
    setWell();
    Bench.end();
  }

  private static BucketBrigade three() {
    return Bench.taught("well 6;lane a rate 2 most 7 burst 4 rank 3 holds 5 drops old;lane b under a rate 1 most 6 burst 2 rank 0 holds 3 drops new;"
        + "lane c rate 0 most 3 burst 0 rank 9 holds 60 drops old;folk f to b brings 4 every 2 from 1;folk g to a brings 1 every 30 from 99;");
  }

  private static void facts(String what, BucketBrigade x, int lane, int... want) {
    for (int i = 0; i < want.length; i++) Bench.due(what + ", fact " + i + " of lane " + lane, x.lane(lane, i), want[i]);
  }

  private static void lane() {
    BucketBrigade x = three();
    facts("at first", x, 0, -1, 2, 7, 4, 3, 4, 0, 5, 0, 0, 0, 0, 0);
    facts("at first", x, 1, 0, 1, 6, 2, 0, 2, 0, 3, 0, 0, 0, 0, 0);
    facts("at first", x, 2, -1, 0, 3, 0, 9, 0, 0, 60, 0, 0, 0, 0, 0);
    x.setWell(0);
    x.bring(1, 4);
    x.pass(2);
    x.setWell(6);
    // 3 pails of minute 0 wait, 4 more of minute 1 were lost; b sends them in minute 2, one by a token of a.
    x.pass(1);
    facts("behind minute 2", x, 0, -1, 2, 7, 4, 3, 3, 0, 5, 0, 0, 1, 0, 0);
    facts("behind minute 2", x, 1, 0, 1, 6, 2, 0, 0, 0, 3, 3, 5, 0, 1, 6);
    for (int lane : new int[] {-1, 3, 6, Integer.MAX_VALUE, Integer.MIN_VALUE}) {
      Bench.refused("lane(" + lane + ", 0)", x, INDEX, () -> x.lane(lane, 0));
    }
    for (int what : new int[] {-1, 13, Integer.MAX_VALUE, Integer.MIN_VALUE}) {
      Bench.refused("lane(0, " + what + ")", x, INDEX, () -> x.lane(0, what));
    }
  }

  private static void pail() {
    BucketBrigade x = three();
    x.setWell(0);
    x.bring(0, 2);
    x.pass(1);
    x.bring(0, 2);
    x.pass(1);
    x.bring(0, 2);
    // The first one of minute 0 is lost.
    int[] want = {0, 1, 1, 2, 2};
    for (int i = 0; i < 5; i++) Bench.due("pail " + i, x.pail(0, i), want[i]);
    Bench.refused("pail(0, 5)", x, INDEX, () -> x.pail(0, 5));
    Bench.refused("pail(0, -1)", x, INDEX, () -> x.pail(0, -1));
    Bench.refused("pail(0, max)", x, INDEX, () -> x.pail(0, Integer.MAX_VALUE));
    Bench.refused("pail(2, 0)", x, INDEX, () -> x.pail(2, 0));
    Bench.refused("pail(3, 0)", x, INDEX, () -> x.pail(3, 0));
    Bench.refused("pail(-1, 0)", x, INDEX, () -> x.pail(-1, 0));
    for (int round = 0; round < 5; round++) {
      x.bring(2, 30);
      x.pass(1);
    }
    // Of minutes 2 to 6 the latest 60 pails are those of 5 and 6.
    Bench.due("front of a long queue", x.pail(2, 0), 5);
    Bench.due("place 29", x.pail(2, 29), 5);
    Bench.due("place 30", x.pail(2, 30), 6);
    Bench.due("place 59", x.pail(2, 59), 6);
    Bench.refused("pail(2, 60)", x, INDEX, () -> x.pail(2, 60));
  }

  private static void folk() {
    BucketBrigade x = three();
    int[][] want = {{1, 4, 2, 1, 0}, {0, 1, 30, 99, 0}};
    for (int f = 0; f < 2; f++) for (int i = 0; i < 5; i++) Bench.due("folk " + f + ", " + i, x.folk(f, i), want[f][i]);
    x.pass(1);
    Bench.due("none ahead of minute 1", x.folk(0, 4), 0);
    x.pass(1);
    Bench.due("four in minute 1, the lost one too", x.folk(0, 4), 4);
    Bench.due("one of them is lost", x.lane(1, 9), 1);
    x.pass(2);
    Bench.due("eight up to minute 3", x.folk(0, 4), 8);
    x.pass(95);
    Bench.due("none ahead of minute 99", x.folk(1, 4), 0);
    x.pass(1);
    Bench.due("in minute 99", x.folk(1, 4), 1);
    x.pass(29);
    Bench.due("up to minute 128", x.folk(1, 4), 1);
    x.pass(1);
    Bench.due("up to minute 129", x.folk(1, 4), 2);
    for (int folk : new int[] {-1, 2, 8, Integer.MAX_VALUE, Integer.MIN_VALUE}) {
      Bench.refused("folk(" + folk + ", 0)", x, INDEX, () -> x.folk(folk, 0));
    }
    for (int what : new int[] {-1, 5, Integer.MAX_VALUE, Integer.MIN_VALUE}) {
      Bench.refused("folk(0, " + what + ")", x, INDEX, () -> x.folk(0, what));
    }
  }

  private static void lender() {
    BucketBrigade x = Bench.taught("lane a rate 0 most 9 burst 1 rank 0 holds 9 drops old;lane b under a rate 0 most 9 burst 0 rank 0 holds 9 drops old;"
        + "lane c under b rate 0 most 9 burst 2 rank 0 holds 9 drops old;lane d rate 0 most 9 burst 0 rank 0 holds 9 drops old;shut c when minute=0;");
    int[] want = {0, 0, 2, -1};
    for (int i = 0; i < 4; i++) Bench.due("lender of " + i, x.lender(i), want[i]);
    x.bring(2, 4);
    x.pass(1);
    Bench.due("c was shut, and is no more", x.lender(2), 2);
    x.pass(1);
    Bench.due("c sent three", x.lane(2, 8), 3);
    for (int i = 0; i < 4; i++) Bench.due("lender of " + i + " without tokens", x.lender(i), -1);
    for (int lane : new int[] {-1, 4, Integer.MAX_VALUE}) Bench.refused("lender(" + lane + ")", x, INDEX, () -> x.lender(lane));
  }

  private static void common() {
    String rest = " rate 0 most 9 burst 1 rank 0 holds 9 drops old;";
    BucketBrigade x = Bench.taught("lane a" + rest + "lane b under a" + rest + "lane c under b" + rest + "lane d under b" + rest
        + "lane e" + rest + "lane f under a" + rest);
    int[][] want = {{0, 0, 0, 0, -1, 0}, {0, 1, 1, 1, -1, 0}, {0, 1, 2, 1, -1, 0}, {0, 1, 1, 3, -1, 0}, {-1, -1, -1, -1, 4, -1}, {0, 0, 0, 0, -1, 5}};
    for (int a = 0; a < 6; a++) for (int b = 0; b < 6; b++) Bench.due("common(" + a + ", " + b + ")", x.common(a, b), want[a][b]);
    Bench.refused("common(6, 0)", x, INDEX, () -> x.common(6, 0));
    Bench.refused("common(0, 6)", x, INDEX, () -> x.common(0, 6));
    Bench.refused("common(-1, 0)", x, INDEX, () -> x.common(-1, 0));
    Bench.refused("common(0, -1)", x, INDEX, () -> x.common(0, -1));
  }

  private static void eldest() {
    BucketBrigade x = three();
    x.setWell(0);
    Bench.due("none waits", x.eldest(), -1);
    x.bring(2, 1);
    Bench.due("only c", x.eldest(), 2);
    x.bring(1, 1);
    Bench.due("b as early as c", x.eldest(), 1);
    x.pass(1);
    x.bring(0, 1);
    Bench.due("a is later", x.eldest(), 1);
    x.setWell(1);
    x.pass(1);
    Bench.due("b sent its first, and has later ones", x.eldest(), 2);
    BucketBrigade y = three();
    y.setWell(0);
    y.bring(0, 1);
    y.bring(1, 1);
    Bench.due("a as early as b", y.eldest(), 0);
    y.pass(1);
    y.bring(2, 1);
    Bench.due("a and b ahead of c", y.eldest(), 0);
  }

  private static void bring() {
    BucketBrigade x = three();
    Bench.due("old ones are lost", x.bring(0, 6), 1);
    Bench.due("as many as it holds are there", x.lane(0, 6), 5);
    Bench.due("new ones are lost", x.bring(1, 30), 27);
    Bench.due("again", x.bring(1, 1), 1);
    Bench.due("none is lost", x.bring(2, 30), 0);
    Bench.due("came in all", x.count(6), 67);
    Bench.due("lost in all", x.count(8), 29);
    Bench.due("wait in all", x.count(5), 38);
    Bench.due("no folk brought them", x.folk(0, 4), 0);
    x.pass(1);
    Bench.due("sent in the same minute", x.lane(0, 12), 0);
    Bench.refused("bring(3, 1)", x, INDEX, () -> x.bring(3, 1));
    Bench.refused("bring(-1, 0)", x, INDEX, () -> x.bring(-1, 0));
    for (int many : new int[] {0, -1, 31, Integer.MAX_VALUE, Integer.MIN_VALUE}) {
      Bench.refused("bring(0, " + many + ")", x, ARGUMENT, () -> x.bring(0, many));
    }
  }

  private static void give() {
    BucketBrigade x = three();
    Bench.due("it has its burst", x.give(0, 99), 4);
    x.setRate(0, 0);
    x.bring(0, 4);
    x.pass(1);
    Bench.due("it has none", x.lane(0, 5), 0);
    Bench.due("one", x.give(0, 1), 1);
    Bench.due("two more", x.give(0, 2), 3);
    Bench.due("at most its burst", x.give(0, 2), 4);
    Bench.due("without a burst", x.give(2, 99), 0);
    Bench.refused("give(3, 1)", x, INDEX, () -> x.give(3, 1));
    Bench.refused("give(-1, 0)", x, INDEX, () -> x.give(-1, 0));
    for (int many : new int[] {0, -1, 100, Integer.MAX_VALUE, Integer.MIN_VALUE}) {
      Bench.refused("give(0, " + many + ")", x, ARGUMENT, () -> x.give(0, many));
    }
  }

  private static void setRate() {
    BucketBrigade x = three();
    Bench.due("the rate before", x.setRate(0, 30), 2);
    Bench.due("and then", x.setRate(0, 0), 30);
    Bench.due("now", x.lane(0, 1), 0);
    Bench.due("of c", x.setRate(2, 5), 0);
    Bench.refused("setRate(3, 1)", x, INDEX, () -> x.setRate(3, 1));
    Bench.refused("setRate(-1, 31)", x, INDEX, () -> x.setRate(-1, 31));
    for (int rate : new int[] {-1, 31, Integer.MAX_VALUE, Integer.MIN_VALUE}) {
      Bench.refused("setRate(0, " + rate + ")", x, ARGUMENT, () -> x.setRate(0, rate));
    }
  }

  private static void setMost() {
    BucketBrigade x = three();
    Bench.due("the most before", x.setMost(0, 30), 7);
    Bench.due("and then", x.setMost(0, 0), 30);
    Bench.due("now", x.lane(0, 2), 0);
    x.bring(1, 3);
    Bench.due("b can send no more than a may", x.pass(1), 0);
    Bench.refused("setMost(3, 1)", x, INDEX, () -> x.setMost(3, 1));
    Bench.refused("setMost(-1, 31)", x, INDEX, () -> x.setMost(-1, 31));
    for (int most : new int[] {-1, 31, Integer.MAX_VALUE, Integer.MIN_VALUE}) {
      Bench.refused("setMost(0, " + most + ")", x, ARGUMENT, () -> x.setMost(0, most));
    }
  }

  private static void setWell() {
    BucketBrigade x = three();
    Bench.due("the well before", x.setWell(30), 6);
    Bench.due("and then", x.setWell(1), 30);
    x.bring(0, 5);
    Bench.due("the well gives one", x.pass(1), 1);
    Bench.due("and then", x.setWell(0), 1);
    Bench.due("the well gives none", x.pass(1), 0);
    for (int pails : new int[] {-1, 31, Integer.MAX_VALUE, Integer.MIN_VALUE}) {
      Bench.refused("setWell(" + pails + ")", x, ARGUMENT, () -> x.setWell(pails));
    }
  }
}
