import java.util.ArrayDeque;
import java.util.ArrayList;
import java.util.Arrays;
import java.util.Deque;
import java.util.HashSet;
import java.util.LinkedHashMap;
import java.util.LinkedHashSet;
import java.util.List;
import java.util.Map;
import java.util.Set;
import java.util.regex.Matcher;
import java.util.regex.Pattern;

/**
 * The document once more, told in another way and without regard to speed: the grammar is a table
 * that is followed with all its choices at once, and sums and tests are read anew each time.
 */
final class PlainModel {
  private static final Set<String> KEYWORDS = new HashSet<>(Arrays.asList(
      ("well lane under rate most burst rank holds drops old new folk to brings every from raise cap "
      + "shut when minute spare tokens waits sent lost lent full dry not and or min max").split(" ")));
  private static final Pattern TOKEN =
      Pattern.compile("[a-z][a-z0-9]*|[0-9]+|<=|>=|[-()\\[\\];,+*/<>=]");
  private static final Map<String, String[]> GRAMMAR = new LinkedHashMap<>();

  private static void rule(String head, String... bodies) {
    GRAMMAR.put(head, bodies);
  }

  // UP stands ahead of a token that makes the depth greater, DOWN makes it smaller again.
  static {
    rule("List", "Line ; List", "");
    rule("Line", "well NUMBER", "lane NAME Under rate NUMBER most NUMBER burst NUMBER rank NUMBER holds NUMBER drops Old",
        "folk NAME to NAME brings NUMBER every NUMBER from NUMBER", "raise NAME to Sum when Test",
        "cap NAME to Sum When", "shut NAME when Test");
    rule("Under", "under NAME", "");
    rule("Old", "old", "new");
    rule("When", "when Test", "");
    rule("Test", "Both Ors");
    rule("Ors", "or Both Ors", "");
    rule("Both", "Single Ands");
    rule("Ands", "and Single Ands", "");
    rule("Single", "UP not Single DOWN", "UP [ Test ] DOWN", "full NAME", "dry NAME", "Sum Compare Sum");
    rule("Compare", "<", ">", "=", "<=", ">=");
    rule("Sum", "Product Adds");
    rule("Adds", "+ Product Adds", "- Product Adds", "");
    rule("Product", "Value Muls");
    rule("Muls", "* Value Muls", "/ Value Muls", "");
    rule("Value", "NUMBER", "minute", "spare", "tokens NAME", "waits NAME", "sent NAME", "lost NAME", "lent NAME",
        "UP - Value DOWN", "UP ( Sum ) DOWN", "min Pair", "max Pair");
    rule("Pair", "UP ( Sum , Sum ) DOWN");
  }

  static final class L {
    int over, rate, most, burst, rank, tokens, holds, sent, lost, lent, borrowed, waited, own, all;
    boolean old, shut;
    ArrayList<Integer> queue = new ArrayList<>();
  }

  static final class F {
    int lane, many, every, from, brought;
  }

  /** All that changes as minutes go by. */
  static final class State {
    int minute, well = 20, spare, came, carried;
    List<L> lanes = new ArrayList<>();
    List<F> folk = new ArrayList<>();
    List<List<String>> orders = new ArrayList<>();
    List<String> names = new ArrayList<>();

    State copy() {
      State c = new State();
      c.minute = minute; c.well = well; c.spare = spare; c.came = came; c.carried = carried;
      c.orders = orders; c.names = names;
      for (L l : lanes) {
        L m = new L();
        m.over = l.over; m.rate = l.rate; m.most = l.most; m.burst = l.burst; m.rank = l.rank;
        m.tokens = l.tokens; m.holds = l.holds; m.sent = l.sent; m.lost = l.lost; m.lent = l.lent;
        m.borrowed = l.borrowed; m.waited = l.waited; m.old = l.old; m.queue.addAll(l.queue);
        c.lanes.add(m);
      }
      for (F f : folk) {
        F g = new F();
        g.lane = f.lane; g.many = f.many; g.every = f.every; g.from = f.from; g.brought = f.brought;
        c.folk.add(g);
      }
      return c;
    }
  }

  private final StringBuilder tape = new StringBuilder();
  private State s = new State();
  private int errorPlace = -1;

  int feed(int a, int b, int c, int d, int e) {
    if (tape.length() + 20 > 2000) throw new IllegalStateException();
    for (int x : new int[] {a, b, c, d, e}) {
      tape.append((char) (x >>> 24)).append((char) (x >>> 16 & 255)).append((char) (x >>> 8 & 255)).append((char) (x & 255));
    }
    return tape.length();
  }

  int trim(int n) {
    if (n < 0 || n > tape.length()) throw new IllegalArgumentException();
    tape.setLength(n);
    return n;
  }

  private final List<String> tokens = new ArrayList<>();
  private final List<Integer> places = new ArrayList<>();

  int teach() {
    String text = tape.toString();
    tape.setLength(0);
    int place = syntaxError(text);
    if (place >= 0) {
      errorPlace = place;
      return 1;
    }
    int[] error = meaningError();
    errorPlace = error[1];
    if (error[0] == 0) build();
    return error[0];
  }

  private int syntaxError(String text) {
    tokens.clear();
    places.clear();
    Set<List<String>> open = new LinkedHashSet<>();
    open.add(Arrays.asList("List"));
    Matcher m = TOKEN.matcher(text);
    int at = 0;
    while (true) {
      while (at < text.length() && (text.charAt(at) == ' ' || text.charAt(at) == '\n')) at++;
      if (at == text.length()) break;
      m.region(at, text.length());
      if (!m.lookingAt()) return at;
      String token = m.group();
      boolean digit = Character.isDigit(token.charAt(0));
      boolean letter = Character.isLetter(token.charAt(0));
      if (letter && token.length() > 10 || digit && token.length() > 6 || tokens.size() == 400) return at;
      open = behind(open, digit ? "NUMBER" : letter && !KEYWORDS.contains(token) ? "NAME" : token);
      if (open.isEmpty()) return at;
      tokens.add(token);
      places.add(at);
      at = m.end();
    }
    for (List<String> stack : closure(open)) if (stack.isEmpty()) return -1;
    return text.length();
  }

  private static Set<List<String>> closure(Set<List<String>> open) {
    Set<List<String>> all = new LinkedHashSet<>();
    Deque<List<String>> todo = new ArrayDeque<>(open);
    while (!todo.isEmpty()) {
      List<String> stack = todo.poll();
      if (!stack.isEmpty() && GRAMMAR.containsKey(stack.get(0))) {
        for (String body : GRAMMAR.get(stack.get(0))) {
          List<String> next = new ArrayList<>();
          if (!body.isEmpty()) next.addAll(Arrays.asList(body.split(" ")));
          next.addAll(stack.subList(1, stack.size()));
          todo.add(next);
        }
      } else if (!stack.isEmpty() && stack.get(0).equals("DOWN")) {
        todo.add(new ArrayList<>(stack.subList(1, stack.size())));
      } else {
        all.add(stack);
      }
    }
    return all;
  }

  private static Set<List<String>> behind(Set<List<String>> open, String token) {
    Set<List<String>> next = new LinkedHashSet<>();
    for (List<String> stack : closure(open)) {
      int first = 0;
      // The depth is the number of DOWNs that are still to come.
      if (!stack.isEmpty() && stack.get(0).equals("UP")) {
        int depth = 0;
        for (String x : stack) if (x.equals("DOWN")) depth++;
        if (depth > 8) continue;
        first = 1;
      }
      if (first < stack.size() && stack.get(first).equals(token)) next.add(new ArrayList<>(stack.subList(first + 1, stack.size())));
    }
    return next;
  }

  private int[] meaningError() {
    List<String> lanes = new ArrayList<>();
    List<String> folk = new ArrayList<>();
    String laneOfLine = null;
    String first = "";
    int orders = 0;
    Map<String, int[]> ranges = new LinkedHashMap<>();
    String[] names = {"well", "rate", "most", "burst", "rank", "holds", "brings", "every", "from"};
    int[][] bounds = {{0, 30}, {0, 30}, {0, 30}, {0, 99}, {0, 9}, {1, 60}, {1, 30}, {1, 30}, {0, 99}};
    for (int i = 0; i < names.length; i++) ranges.put(names[i], bounds[i]);
    for (int i = 0; i < tokens.size(); i++) {
      String token = tokens.get(i);
      String before = i == 0 ? ";" : tokens.get(i - 1);
      int error = 0;
      if (before.equals(";")) {
        first = token;
        if (token.equals("raise") || token.equals("cap") || token.equals("shut")) {
          if (++orders > 20) error = 4;
        }
      } else if (token.equals(";")) {
        if (laneOfLine != null) lanes.add(laneOfLine);
        laneOfLine = null;
      } else if (before.equals("lane")) {
        error = lanes.contains(token) ? 2 : lanes.size() >= 6 ? 4 : 0;
        laneOfLine = token;
      } else if (before.equals("folk")) {
        error = folk.contains(token) ? 2 : folk.size() >= 8 ? 4 : 0;
        folk.add(token);
      } else if (Character.isLetter(token.charAt(0)) && !KEYWORDS.contains(token)) {
        error = lanes.contains(token) ? 0 : 3;
      } else if (Character.isDigit(token.charAt(0)) && ranges.containsKey(before)
          && !first.equals("raise") && !first.equals("cap") && !first.equals("shut")) {
        int number = Integer.parseInt(token);
        error = number < ranges.get(before)[0] || number > ranges.get(before)[1] ? 5 : 0;
      }
      if (error != 0) return new int[] {error, places.get(i)};
    }
    return new int[] {0, -1};
  }

  private void build() {
    State t = new State();
    t.minute = s.minute;
    List<String> line = new ArrayList<>();
    for (String token : tokens) {
      if (!token.equals(";")) {
        line.add(token);
        continue;
      }
      String first = line.get(0);
      if (first.equals("well")) {
        t.well = Integer.parseInt(line.get(1));
      } else if (first.equals("lane")) {
        L l = new L();
        l.over = line.get(2).equals("under") ? t.names.indexOf(line.get(3)) : -1;
        l.rate = after(line, "rate"); l.most = after(line, "most"); l.burst = after(line, "burst");
        l.rank = after(line, "rank"); l.holds = after(line, "holds"); l.tokens = l.burst;
        l.old = line.get(line.size() - 1).equals("old");
        t.lanes.add(l);
        t.names.add(line.get(1));
      } else if (first.equals("folk")) {
        F f = new F();
        f.lane = t.names.indexOf(line.get(3));
        f.many = after(line, "brings"); f.every = after(line, "every"); f.from = after(line, "from");
        t.folk.add(f);
      } else {
        t.orders.add(new ArrayList<>(line));
      }
      line.clear();
    }
    s = t;
  }

  private static int after(List<String> line, String word) {
    return Integer.parseInt(line.get(line.indexOf(word) + 1));
  }

  int errorAt() { return errorPlace; }

  private L of(State t, int lane) {
    if (lane < 0 || lane >= t.lanes.size()) throw new IndexOutOfBoundsException();
    return t.lanes.get(lane);
  }

  int count(int what) {
    if (what == 12) return tape.length();
    return tell(s, what);
  }

  private static int tell(State t, int what) {
    int wait = 0, sent = 0, lost = 0, lent = 0;
    for (L l : t.lanes) { wait += l.queue.size(); sent += l.sent; lost += l.lost; lent += l.lent; }
    int[] all = {t.minute, t.well, t.lanes.size(), t.folk.size(), t.orders.size(), wait, t.came, sent, lost, lent, t.carried, t.spare};
    if (what < 0 || what >= all.length) throw new IndexOutOfBoundsException();
    return all[what];
  }

  int lane(int lane, int what) {
    L l = of(s, lane);
    int[] all = {l.over, l.rate, l.most, l.burst, l.rank, l.tokens, l.queue.size(), l.holds, l.sent, l.lost, l.lent, l.borrowed, l.waited};
    if (what < 0 || what >= all.length) throw new IndexOutOfBoundsException();
    return all[what];
  }

  int pail(int lane, int place) {
    return of(s, lane).queue.get(place);
  }

  int folk(int folk, int what) {
    F f = s.folk.get(folk);
    int[] all = {f.lane, f.many, f.every, f.from, f.brought};
    if (what < 0 || what >= all.length) throw new IndexOutOfBoundsException();
    return all[what];
  }

  private static int lends(State t, int lane) {
    for (int i = lane; i >= 0; i = t.lanes.get(i).over) {
      if (t.lanes.get(i).tokens > 0 && !t.lanes.get(i).shut) return i;
    }
    return -1;
  }

  int lender(int lane) {
    of(s, lane);
    return lends(s, lane);
  }

  int common(int a, int b) {
    of(s, a);
    of(s, b);
    Set<Integer> overB = new HashSet<>();
    for (int i = b; i >= 0; i = s.lanes.get(i).over) overB.add(i);
    int i = a;
    while (i >= 0 && !overB.contains(i)) i = s.lanes.get(i).over;
    return i;
  }

  int eldest() {
    int best = -1;
    for (int i = s.lanes.size() - 1; i >= 0; i--) {
      for (int came : s.lanes.get(i).queue) {
        int least = Integer.MAX_VALUE;
        for (L l : s.lanes) for (int x : l.queue) least = Math.min(least, x);
        if (came == least) best = i;
      }
    }
    return best;
  }

  private static int come(State t, L l, int many) {
    int lost = 0;
    for (int i = 0; i < many; i++) {
      t.came++;
      if (l.queue.size() < l.holds) {
        l.queue.add(t.minute);
      } else {
        lost++;
        if (l.old) {
          l.queue.remove(0);
          l.queue.add(t.minute);
        }
      }
    }
    l.lost += lost;
    return lost;
  }

  private static void range(int x, int least, int greatest) {
    if (x < least || x > greatest) throw new IllegalArgumentException();
  }

  int bring(int lane, int many) {
    L l = of(s, lane);
    range(many, 1, 30);
    return come(s, l, many);
  }

  int give(int lane, int many) {
    L l = of(s, lane);
    range(many, 1, 99);
    return l.tokens = Math.min(l.burst, l.tokens + many);
  }

  int setRate(int lane, int rate) {
    L l = of(s, lane);
    range(rate, 0, 30);
    int before = l.rate;
    l.rate = rate;
    return before;
  }

  int setMost(int lane, int most) {
    L l = of(s, lane);
    range(most, 0, 30);
    int before = l.most;
    l.most = most;
    return before;
  }

  int setWell(int pails) {
    range(pails, 0, 30);
    int before = s.well;
    s.well = pails;
    return before;
  }

  int pass(int minutes) {
    range(minutes, 1, 100);
    int before = tell(s, 7);
    for (int i = 0; i < minutes; i++) go(s);
    return tell(s, 7) - before;
  }

  int until(int lane) {
    of(s, lane);
    State t = s.copy();
    for (int i = 0; i <= 80; i++) {
      if (t.lanes.get(lane).queue.isEmpty()) return i;
      go(t);
    }
    return -1;
  }

  int foresee(int minutes, int what) {
    range(minutes, 1, 100);
    if (what < 5 || what > 11) throw new IndexOutOfBoundsException();
    State t = s.copy();
    for (int i = 0; i < minutes; i++) go(t);
    return tell(t, what);
  }

  int advise(int minutes) {
    range(minutes, 1, 20);
    int[] lost = new int[s.lanes.size() + 1];
    for (int i = 0; i <= s.lanes.size(); i++) {
      State t = s.copy();
      if (i > 0) t.lanes.get(i - 1).rate = Math.min(30, t.lanes.get(i - 1).rate + 5);
      for (int k = 0; k < minutes; k++) go(t);
      lost[i] = tell(t, 8);
    }
    int least = Arrays.stream(lost).min().getAsInt();
    for (int i = 0; i < lost.length; i++) if (lost[i] == least) return i - 1;
    throw new AssertionError();
  }

  double mean() {
    double sent = 0, waited = 0;
    for (L l : s.lanes) { sent += l.sent; waited += l.waited; }
    return sent == 0 ? 0 : waited / sent;
  }

  long digest() {
    List<Integer> all = new ArrayList<>();
    for (int i = 0; i < 13; i++) all.add(count(i));
    for (int l = 0; l < s.lanes.size(); l++) {
      for (int i = 0; i < 13; i++) all.add(lane(l, i));
      all.add(lender(l));
      all.addAll(s.lanes.get(l).queue);
    }
    for (int f = 0; f < s.folk.size(); f++) for (int i = 0; i < 5; i++) all.add(folk(f, i));
    long d = 1693;
    for (int x : all) d = d * 31 + x;
    return d;
  }

  private static void go(State t) {
    for (List<String> order : t.orders) obey(t, order);
    for (F f : t.folk) {
      for (int m = f.from; m <= t.minute; m += f.every) {
        if (m == t.minute) {
          come(t, t.lanes.get(f.lane), f.many);
          f.brought += f.many;
        }
      }
    }
    for (L l : t.lanes) l.tokens = Math.min(l.burst, l.tokens + l.rate);
    t.spare = t.well;
    while (t.spare > 0) {
      int best = -1;
      for (int i = 0; i < t.lanes.size(); i++) {
        if (can(t, i) && (best < 0 || Arrays.compare(key(t, i), key(t, best)) < 0)) best = i;
      }
      if (best < 0) break;
      send(t, best);
      t.spare--;
    }
    t.minute++;
    for (L l : t.lanes) { l.shut = false; l.own = 0; l.all = 0; }
  }

  private static boolean can(State t, int lane) {
    L l = t.lanes.get(lane);
    if (l.queue.isEmpty() || l.shut || lends(t, lane) < 0) return false;
    for (int i = lane; i >= 0; i = t.lanes.get(i).over) if (t.lanes.get(i).all >= t.lanes.get(i).most) return false;
    return true;
  }

  private static int[] key(State t, int lane) {
    L l = t.lanes.get(lane);
    return new int[] {lends(t, lane) == lane ? 0 : 1, l.rank, l.own, lane};
  }

  private static void send(State t, int lane) {
    L l = t.lanes.get(lane);
    int from = lends(t, lane);
    t.lanes.get(from).tokens--;
    if (from != lane) {
      l.borrowed++;
      t.lanes.get(from).lent++;
    }
    l.waited += t.minute - l.queue.remove(0);
    l.sent++;
    l.own++;
    for (int i = lane; i >= 0; i = t.lanes.get(i).over) t.lanes.get(i).all++;
  }

  private static void obey(State t, List<String> order) {
    Reading r = new Reading(t, order);
    L l = t.lanes.get(t.names.indexOf(order.get(1)));
    int sum = 0;
    if (!order.get(0).equals("shut")) {
      r.at = 3;
      sum = Math.max(0, Math.min(30, r.sum()));
    } else {
      r.at = 2;
    }
    if (r.at < order.size()) {
      r.at++;
      if (!r.test()) return;
    }
    if (order.get(0).equals("raise")) {
      if (l.rate != sum) t.carried++;
      l.rate = sum;
    } else if (order.get(0).equals("cap")) {
      if (l.most != sum) t.carried++;
      l.most = sum;
    } else {
      if (!l.shut) t.carried++;
      l.shut = true;
    }
  }

  /** Reads a sum or a test and reckons it at once. */
  private static final class Reading {
    final State t;
    final List<String> x;
    int at;

    Reading(State state, List<String> tokens) {
      t = state;
      x = tokens;
    }

    boolean is(String token) {
      if (at < x.size() && x.get(at).equals(token)) {
        at++;
        return true;
      }
      return false;
    }

    L laneHere() { return t.lanes.get(t.names.indexOf(x.get(at++))); }

    boolean test() {
      boolean v = both();
      while (is("or")) v |= both();
      return v;
    }

    boolean both() {
      boolean v = single();
      while (is("and")) v &= single();
      return v;
    }

    boolean single() {
      if (is("not")) return !single();
      if (is("[")) {
        boolean v = test();
        at++;
        return v;
      }
      if (is("full")) {
        L l = laneHere();
        return l.queue.size() == l.holds;
      }
      if (is("dry")) return laneHere().tokens == 0;
      int left = sum();
      String sign = x.get(at++);
      int right = sum();
      switch (sign) {
        case "<": return left < right;
        case ">": return left > right;
        case "=": return left == right;
        case "<=": return left <= right;
        default: return left >= right;
      }
    }

    int sum() {
      int v = product();
      while (true) {
        if (is("+")) v += product();
        else if (is("-")) v -= product();
        else return v;
      }
    }

    int product() {
      int v = value();
      while (true) {
        if (is("*")) {
          v *= value();
        } else if (is("/")) {
          int by = value();
          v = by == 0 ? 0 : (int) ((long) v / by);
        } else {
          return v;
        }
      }
    }

    int value() {
      String token = x.get(at++);
      switch (token) {
        case "minute": return t.minute;
        case "spare": return t.spare;
        case "tokens": return laneHere().tokens;
        case "waits": return laneHere().queue.size();
        case "sent": return laneHere().sent;
        case "lost": return laneHere().lost;
        case "lent": return laneHere().lent;
        case "-": return -value();
        case "(": {
          int v = sum();
          at++;
          return v;
        }
        case "min":
        case "max": {
          at++;
          int a = sum();
          at++;
          int b = sum();
          at++;
          return token.equals("min") ? Math.min(a, b) : Math.max(a, b);
        }
        default: return Integer.parseInt(token);
      }
    }
  }
}
