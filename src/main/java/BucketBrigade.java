/** A bucket brigade at a well: lanes that send pails by tokens, told in a small language. */
public final class BucketBrigade {
  private static final int TAPE_ROOM = 2000;
  private static final int FEED_BYTES = 20;
  private static final int MOST_TOKENS = 400;
  private static final int WORD_BYTES = 10;
  private static final int NUMBER_BYTES = 6;
  private static final int MOST_DEPTH = 8;
  private static final int MOST_LANES = 6;
  private static final int MOST_FOLK = 8;
  private static final int MOST_ORDERS = 20;

  private static final int MOST_PAILS = 30;
  private static final int MOST_BURST = 99;
  private static final int MOST_RANK = 9;
  private static final int MOST_HELD = 60;
  private static final int MOST_EVERY = 30;
  private static final int MOST_FROM = 99;
  private static final int USUAL_WELL = 20;

  private static final int MOST_MINUTES = 100;
  private static final int MOST_UNTIL = 80;
  private static final int MOST_ADVISED = 20;
  private static final int MORE_RATE = 5;

  private static final int COUNTS = 13;
  private static final int LANE_FACTS = 13;
  private static final int FOLK_FACTS = 5;
  private static final int FIRST_FORESEEN = 5;
  private static final int LAST_FORESEEN = 11;
  private static final int COUNT_OF_LOST = 8;
  private static final int COUNT_OF_TAPE = 12;

  private static final int NONE = -1;

  // The kind of a keyword is its place in this row, which is why each word ends with a blank.
  private static final String KEYWORDS = "well lane under rate most burst rank holds drops old new folk to brings every from raise cap shut when minute spare tokens waits sent lost lent full dry not and or min max ";
  private static final int WELL = 0;
  private static final int LANE = 1;
  private static final int UNDER = 2;
  private static final int RATE = 3;
  private static final int MOST = 4;
  private static final int BURST = 5;
  private static final int RANK = 6;
  private static final int HOLDS = 7;
  private static final int DROPS = 8;
  private static final int OLD = 9;
  private static final int NEW = 10;
  private static final int FOLK = 11;
  private static final int TO = 12;
  private static final int BRINGS = 13;
  private static final int EVERY = 14;
  private static final int FROM = 15;
  private static final int RAISE = 16;
  private static final int CAP = 17;
  private static final int SHUT = 18;
  private static final int WHEN = 19;
  private static final int MINUTE = 20;
  private static final int SPARE = 21;
  private static final int TOKENS = 22;
  private static final int WAITS = 23;
  private static final int SENT = 24;
  private static final int LOST = 25;
  private static final int LENT = 26;
  private static final int FULL = 27;
  private static final int DRY = 28;
  private static final int NOT = 29;
  private static final int AND = 30;
  private static final int OR = 31;
  private static final int MIN = 32;
  private static final int MAX = 33;
  private static final int KEYWORD_COUNT = 34;

  // The kind of a symbol of one byte is that byte, 40 or greater: all others stay below.
  private static final int NAME = 34;
  private static final int NUMBER = 35;
  private static final int AT_MOST = 36;
  private static final int AT_LEAST = 37;
  private static final int END = 38;
  private static final int BAD = 39;
  // No token is of this kind: in reckoning it is the - in front of a value.
  private static final int TURN = 100;

  private final Tape tape;
  private final Reader reader;
  private final Site now;
  private final Site ahead;
  private int errorPlace;

  public BucketBrigade() {
    tape = new Tape();
    reader = new Reader();
    Book book = new Book();
    now = new Site(book);
    ahead = new Site(book);
    errorPlace = NONE;
  }

  // ---- the language

  public int feed(int a, int b, int c, int d, int e) throws IllegalStateException {
    if (tape.length > TAPE_ROOM - FEED_BYTES) {
      throw new IllegalStateException("the tape is full");
    }
    tape.append(a);
    tape.append(b);
    tape.append(c);
    tape.append(d);
    tape.append(e);
    return tape.length;
  }

  public int trim(int n) throws IllegalArgumentException {
    if (n < 0 || n > tape.length) {
      throw new IllegalArgumentException("the tape is not that long");
    }
    tape.length = n;
    return n;
  }

  public int teach() {
    int error = reader.read(tape, now.minute);
    errorPlace = reader.errorPlace;
    tape.length = 0;
    if (error == 0) {
      now.copyFrom(reader.draft);
      now.book.copyFrom(reader.draft.book);
    }
    return error;
  }

  public int errorAt() {
    return errorPlace;
  }

  public int count(int what) throws IndexOutOfBoundsException {
    if (what < 0 || what >= COUNTS) {
      throw new IndexOutOfBoundsException("there is no such count");
    }
    return countNow(what);
  }

  // ---- what there is

  public int lane(int lane, int what) throws IndexOutOfBoundsException {
    Lane found = now.laneAt(lane);
    if (found == null || what < 0 || what >= LANE_FACTS) {
      throw new IndexOutOfBoundsException("there is no such lane, or no such fact of it");
    }
    return found.fact(what);
  }

  public int pail(int lane, int place) throws IndexOutOfBoundsException {
    Lane found = now.laneAt(lane);
    if (found == null || place < 0 || place >= found.queue.size) {
      throw new IndexOutOfBoundsException("there is no such lane or pail");
    }
    return found.queue.at(place);
  }

  public int folk(int folk, int what) throws IndexOutOfBoundsException {
    Folk found = now.folkAt(folk);
    if (found == null || what < 0 || what >= FOLK_FACTS) {
      throw new IndexOutOfBoundsException("there are no such folk, or no such fact of them");
    }
    return found.fact(what);
  }

  public int lender(int lane) throws IndexOutOfBoundsException {
    Lane found = now.laneAt(lane);
    if (found == null) {
      throw new IndexOutOfBoundsException("there is no such lane");
    }
    return numberOf(found.whoLends());
  }

  public int common(int a, int b) throws IndexOutOfBoundsException {
    Lane one = now.laneAt(a);
    Lane other = now.laneAt(b);
    if (one == null || other == null) {
      throw new IndexOutOfBoundsException("there is no such lane");
    }
    for (Lane up = one; up != null; up = up.over) {
      if (other.isOrIsUnder(up)) {
        return up.number;
      }
    }
    return NONE;
  }

  public int eldest() {
    int best = NONE;
    int earliest = 0;
    for (int i = 0; i < now.laneCount; i++) {
      Lane lane = now.laneAt(i);
      if (lane != null && lane.queue.size > 0) {
        int came = lane.queue.at(0);
        if (best == NONE || came < earliest) {
          best = i;
          earliest = came;
        }
      }
    }
    return best;
  }

  // ---- by hand

  public int bring(int lane, int many) throws IndexOutOfBoundsException, IllegalArgumentException {
    Lane found = now.laneAt(lane);
    if (found == null) {
      throw new IndexOutOfBoundsException("there is no such lane");
    }
    if (many < 1 || many > MOST_PAILS) {
      throw new IllegalArgumentException("so many pails can't be brought");
    }
    int lostBefore = found.lost;
    now.takeIn(found, many);
    return found.lost - lostBefore;
  }

  public int give(int lane, int many) throws IndexOutOfBoundsException, IllegalArgumentException {
    Lane found = now.laneAt(lane);
    if (found == null) {
      throw new IndexOutOfBoundsException("there is no such lane");
    }
    if (many < 1 || many > MOST_BURST) {
      throw new IllegalArgumentException("so many tokens can't be given");
    }
    found.getTokens(many);
    return found.tokens;
  }

  public int setRate(int lane, int rate) throws IndexOutOfBoundsException, IllegalArgumentException {
    Lane found = now.laneAt(lane);
    if (found == null) {
      throw new IndexOutOfBoundsException("there is no such lane");
    }
    if (rate < 0 || rate > MOST_PAILS) {
      throw new IllegalArgumentException("no lane has such a rate");
    }
    int before = found.rate;
    found.rate = rate;
    return before;
  }

  public int setMost(int lane, int most) throws IndexOutOfBoundsException, IllegalArgumentException {
    Lane found = now.laneAt(lane);
    if (found == null) {
      throw new IndexOutOfBoundsException("there is no such lane");
    }
    if (most < 0 || most > MOST_PAILS) {
      throw new IllegalArgumentException("no lane may send so many");
    }
    int before = found.most;
    found.most = most;
    return before;
  }

  public int setWell(int pails) throws IllegalArgumentException {
    if (pails < 0 || pails > MOST_PAILS) {
      throw new IllegalArgumentException("the well can't give so many");
    }
    int before = now.well;
    now.well = pails;
    return before;
  }

  // ---- minutes

  public int pass(int minutes) throws IllegalArgumentException {
    if (minutes < 1 || minutes > MOST_MINUTES) {
      throw new IllegalArgumentException("so many minutes can't pass");
    }
    int sent = 0;
    for (int i = 0; i < minutes; i++) {
      sent += now.goOneMinute();
    }
    return sent;
  }

  // ---- what would be

  public int until(int lane) throws IndexOutOfBoundsException {
    if (now.laneAt(lane) == null) {
      throw new IndexOutOfBoundsException("there is no such lane");
    }
    ahead.copyFrom(now);
    Lane watched = ahead.laneAt(lane);
    for (int minutes = 0; watched != null && minutes <= MOST_UNTIL; minutes++) {
      if (watched.queue.size == 0) {
        return minutes;
      }
      ahead.goOneMinute();
    }
    return NONE;
  }

  public int foresee(int minutes, int what) throws IllegalArgumentException, IndexOutOfBoundsException {
    if (minutes < 1 || minutes > MOST_MINUTES) {
      throw new IllegalArgumentException("so many minutes can't be foreseen");
    }
    if (what < FIRST_FORESEEN || what > LAST_FORESEEN) {
      throw new IndexOutOfBoundsException("this can't be foreseen");
    }
    ahead.copyFrom(now);
    for (int i = 0; i < minutes; i++) {
      ahead.goOneMinute();
    }
    return ahead.tally(what);
  }

  public int advise(int minutes) throws IllegalArgumentException {
    if (minutes < 1 || minutes > MOST_ADVISED) {
      throw new IllegalArgumentException("there is no advice for so many minutes");
    }
    int best = NONE;
    int fewest = lostAhead(minutes, NONE);
    for (int i = 0; i < now.laneCount; i++) {
      int lost = lostAhead(minutes, i);
      if (lost < fewest) {
        best = i;
        fewest = lost;
      }
    }
    return best;
  }

  public double mean() {
    int sent = 0;
    int waited = 0;
    for (int i = 0; i < now.laneCount; i++) {
      Lane lane = now.laneAt(i);
      if (lane != null) {
        sent += lane.sent;
        waited += lane.waited;
      }
    }
    return sent == 0 ? 0.0 : (double) waited / (double) sent;
  }

  public long digest() {
    long d = 1693;
    for (int what = 0; what < COUNTS; what++) {
      d = d * 31 + countNow(what);
    }
    for (int i = 0; i < now.laneCount; i++) {
      Lane lane = now.laneAt(i);
      if (lane != null) {
        d = digestOfLane(d, lane);
      }
    }
    for (int i = 0; i < now.folkCount; i++) {
      Folk folk = now.folkAt(i);
      for (int what = 0; folk != null && what < FOLK_FACTS; what++) {
        d = d * 31 + folk.fact(what);
      }
    }
    return d;
  }

  private static long digestOfLane(long before, Lane lane) {
    long d = before;
    for (int what = 0; what < LANE_FACTS; what++) {
      d = d * 31 + lane.fact(what);
    }
    d = d * 31 + numberOf(lane.whoLends());
    for (int place = 0; place < lane.queue.size; place++) {
      d = d * 31 + lane.queue.at(place);
    }
    return d;
  }

  private int countNow(int what) {
    return what == COUNT_OF_TAPE ? tape.length : now.tally(what);
  }

  private int lostAhead(int minutes, int raisedLane) {
    ahead.copyFrom(now);
    Lane raised = ahead.laneAt(raisedLane);
    if (raised != null) {
      raised.rate = Math.min(MOST_PAILS, raised.rate + MORE_RATE);
    }
    for (int i = 0; i < minutes; i++) {
      ahead.goOneMinute();
    }
    return ahead.tally(COUNT_OF_LOST);
  }

  private static int numberOf(Lane lane) {
    return lane == null ? NONE : lane.number;
  }

  /** The bytes that are fed. */
  private static final class Tape {
    final byte[] bytes = new byte[TAPE_ROOM];
    int length;

    void append(int number) {
      for (int shift = 24; shift >= 0; shift -= 8) {
        if (length >= 0 && length < bytes.length) {
          bytes[length] = (byte) (number >> shift);
          length++;
        }
      }
    }

    int at(int place) {
      boolean there = place >= 0 && place < length && place < bytes.length;
      return there ? bytes[place] & 255 : NONE;
    }
  }

  /** The tokens of a tape, up to its end or the first one that can be none. */
  private static final class Tokens {
    private final long[] keywords = new long[KEYWORD_COUNT];
    private final int[] kinds = new int[MOST_TOKENS + 1];
    private final int[] starts = new int[MOST_TOKENS + 1];
    private final long[] values = new long[MOST_TOKENS + 1];
    private int size;

    Tokens() {
      int keyword = 0;
      long word = 0;
      for (int i = 0; i < KEYWORDS.length() && keyword < keywords.length; i++) {
        char sign = KEYWORDS.charAt(i);
        if (sign == ' ') {
          keywords[keyword] = word;
          keyword++;
          word = 0;
        } else {
          word = longer(word, sign);
        }
      }
    }

    int kindOf(int token) {
      return token >= 0 && token < size && token < kinds.length ? kinds[token] : BAD;
    }

    int startOf(int token) {
      return token >= 0 && token < size && token < starts.length ? starts[token] : 0;
    }

    long valueOf(int token) {
      return token >= 0 && token < size && token < values.length ? values[token] : 0;
    }

    void scan(Tape tape) {
      size = 0;
      int place = 0;
      boolean more = true;
      for (int i = 0; more && i <= MOST_TOKENS; i++) {
        int start = behindBlanks(tape, place);
        place = scanToken(tape, start);
        int kind = kindOf(i);
        more = kind != END && kind != BAD;
      }
    }

    private static int behindBlanks(Tape tape, int from) {
      int place = from;
      while (place < tape.length && (tape.at(place) == 32 || tape.at(place) == 10)) {
        place++;
      }
      return place;
    }

    private int scanToken(Tape tape, int start) {
      int sign = tape.at(start);
      if (sign == NONE) {
        add(END, start, 0);
        return start;
      }
      if (size >= MOST_TOKENS) {
        add(BAD, start, 0);
        return start;
      }
      if (isLetter(sign)) {
        return scanWord(tape, start);
      }
      return isDigit(sign) ? scanNumber(tape, start) : scanSymbol(tape, start);
    }

    private int scanWord(Tape tape, int start) {
      long word = 0;
      int place = start;
      while (place < tape.length && (isLetter(tape.at(place)) || isDigit(tape.at(place)))) {
        word = longer(word, tape.at(place));
        place++;
      }
      add(place - start > WORD_BYTES ? BAD : kindOfWord(word), start, word);
      return place;
    }

    private int scanNumber(Tape tape, int start) {
      long number = 0;
      int place = start;
      while (place < tape.length && isDigit(tape.at(place))) {
        number = number * 10 + (tape.at(place) - '0');
        place++;
      }
      add(place - start > NUMBER_BYTES ? BAD : NUMBER, start, number);
      return place;
    }

    private int scanSymbol(Tape tape, int start) {
      int sign = tape.at(start);
      if ((sign == '<' || sign == '>') && tape.at(start + 1) == '=') {
        add(sign == '<' ? AT_MOST : AT_LEAST, start, 0);
        return start + 2;
      }
      add(isSymbol(sign) ? sign : BAD, start, 0);
      return start + 1;
    }

    private void add(int kind, int start, long value) {
      if (size >= 0 && size < kinds.length && size < starts.length && size < values.length) {
        kinds[size] = kind;
        starts[size] = start;
        values[size] = value;
        size++;
      }
    }

    private int kindOfWord(long word) {
      for (int i = 0; i < keywords.length; i++) {
        if (keywords[i] == word) {
          return i;
        }
      }
      return NAME;
    }

    // Six bits a sign, none of them 0, so that up to ten signs make a number of their own.
    private static long longer(long word, int sign) {
      return word * 64 + (isDigit(sign) ? sign - '0' + 1 : sign - 'a' + 11);
    }

    private static boolean isLetter(int sign) {
      return sign >= 'a' && sign <= 'z';
    }

    private static boolean isDigit(int sign) {
      return sign >= '0' && sign <= '9';
    }

    private static boolean isSymbol(int sign) {
      switch (sign) {
        case '(':
        case ')':
        case '[':
        case ']':
        case ';':
        case ',':
        case '+':
        case '-':
        case '*':
        case '/':
        case '<':
        case '>':
        case '=':
          return true;
        default:
          return false;
      }
    }
  }

  /** Reads a tape as a list into a draft; behind error 1 no token fits any more. */
  private static final class Reader {
    final Site draft = new Site(new Book());
    int errorPlace;
    private final Tokens tokens = new Tokens();
    private final long[] laneNames = new long[MOST_LANES];
    private final long[] folkNames = new long[MOST_FOLK];
    private int next;
    private int error;

    int read(Tape tape, int minute) {
      tokens.scan(tape);
      draft.begin(minute);
      draft.book.clear();
      next = 0;
      error = 0;
      errorPlace = NONE;
      for (int lines = 0; lines < MOST_TOKENS && error != 1 && kind() != END; lines++) {
        int kind = kind();
        switch (kind) {
          case WELL:
            next++;
            draft.well = number(0, MOST_PAILS);
            break;
          case LANE:
            readLane();
            break;
          case FOLK:
            readFolk();
            break;
          case RAISE:
          case CAP:
          case SHUT:
            readOrder(kind);
            break;
          default:
            fail();
            break;
        }
        need(';');
      }
      return error;
    }

    private void readLane() {
      next++;
      long name = newName(laneNames, draft.laneCount);
      int over = takes(UNDER) ? toldLane() : NONE;
      need(RATE);
      int rate = number(0, MOST_PAILS);
      need(MOST);
      int most = number(0, MOST_PAILS);
      need(BURST);
      int burst = number(0, MOST_BURST);
      need(RANK);
      int rank = number(0, MOST_RANK);
      need(HOLDS);
      int holds = number(1, MOST_HELD);
      need(DROPS);
      boolean dropsOld = takes(OLD);
      if (!dropsOld) {
        need(NEW);
      }
      Lane lane = draft.addLane();
      if (lane != null) {
        keepName(laneNames, lane.number, name);
        lane.tell(draft.laneAt(over), rate, most, burst, rank, holds, dropsOld);
      }
    }

    private void readFolk() {
      next++;
      long name = newName(folkNames, draft.folkCount);
      need(TO);
      int lane = toldLane();
      need(BRINGS);
      int many = number(1, MOST_PAILS);
      need(EVERY);
      int every = number(1, MOST_EVERY);
      need(FROM);
      int from = number(0, MOST_FROM);
      keepName(folkNames, draft.folkCount, name);
      Folk folk = draft.addFolk();
      if (folk != null) {
        folk.tell(lane, many, every, from);
      }
    }

    private void readOrder(int kind) {
      Book book = draft.book;
      if (book.orderCount >= MOST_ORDERS) {
        blame(4);
      }
      next++;
      int lane = toldLane();
      int sumFrom = book.length;
      if (kind != SHUT) {
        need(TO);
        sum(0);
      }
      int testFrom = book.length;
      if (kind != CAP || kind() == WHEN) {
        need(WHEN);
        test(0);
      }
      Order order = book.addOrder();
      if (order != null) {
        order.tell(kind, lane, sumFrom, testFrom, book.length);
      }
    }

    private void test(int depth) {
      both(depth);
      for (int i = 0; i < MOST_TOKENS && takes(OR); i++) {
        both(depth);
        draft.book.add(OR, 0);
      }
    }

    private void both(int depth) {
      single(depth);
      for (int i = 0; i < MOST_TOKENS && takes(AND); i++) {
        single(depth);
        draft.book.add(AND, 0);
      }
    }

    private void single(int depth) {
      int kind = kind();
      if (kind == NOT) {
        if (enters(depth)) {
          single(depth + 1);
          draft.book.add(NOT, 0);
        }
      } else if (kind == '[') {
        if (enters(depth)) {
          test(depth + 1);
          need(']');
        }
      } else if (kind == FULL || kind == DRY) {
        next++;
        draft.book.add(kind, toldLane());
      } else {
        sum(depth);
        int sign = kind();
        if (compares(sign)) {
          next++;
          sum(depth);
          draft.book.add(sign, 0);
        } else {
          fail();
        }
      }
    }

    private static boolean compares(int kind) {
      return kind == '<' || kind == '>' || kind == '=' || kind == AT_MOST || kind == AT_LEAST;
    }

    private void sum(int depth) {
      product(depth);
      for (int i = 0; i < MOST_TOKENS && (kind() == '+' || kind() == '-'); i++) {
        int kind = kind();
        next++;
        product(depth);
        draft.book.add(kind, 0);
      }
    }

    private void product(int depth) {
      value(depth);
      for (int i = 0; i < MOST_TOKENS && (kind() == '*' || kind() == '/'); i++) {
        int kind = kind();
        next++;
        value(depth);
        draft.book.add(kind, 0);
      }
    }

    private void value(int depth) {
      int kind = kind();
      switch (kind) {
        case NUMBER:
          draft.book.add(NUMBER, (int) tokens.valueOf(next));
          next++;
          break;
        case MINUTE:
        case SPARE:
          draft.book.add(kind, 0);
          next++;
          break;
        case TOKENS:
        case WAITS:
        case SENT:
        case LOST:
        case LENT:
          next++;
          draft.book.add(kind, toldLane());
          break;
        case '-':
          if (enters(depth)) {
            value(depth + 1);
            draft.book.add(TURN, 0);
          }
          break;
        case '(':
          if (enters(depth)) {
            sum(depth + 1);
            need(')');
          }
          break;
        case MIN:
        case MAX:
          next++;
          pair(kind, depth);
          break;
        default:
          fail();
          break;
      }
    }

    private void pair(int kind, int depth) {
      if (kind() != '(') {
        fail();
      } else if (enters(depth)) {
        sum(depth + 1);
        need(',');
        sum(depth + 1);
        need(')');
        draft.book.add(kind, 0);
      }
    }

    private int kind() {
      return error == 1 ? BAD : tokens.kindOf(next);
    }

    private boolean takes(int kind) {
      if (kind() != kind) {
        return false;
      }
      next++;
      return true;
    }

    private void need(int kind) {
      if (kind() == kind) {
        next++;
      } else {
        fail();
      }
    }

    private boolean enters(int depth) {
      if (depth >= MOST_DEPTH) {
        fail();
        return false;
      }
      next++;
      return true;
    }

    private int number(int least, int greatest) {
      if (kind() != NUMBER) {
        fail();
        return least;
      }
      int number = (int) tokens.valueOf(next);
      if (number < least || number > greatest) {
        blame(5);
      }
      next++;
      return number;
    }

    private long newName(long[] names, int told) {
      if (kind() != NAME) {
        fail();
        return 0;
      }
      long name = tokens.valueOf(next);
      if (placeOf(name, names, told) != NONE) {
        blame(2);
      } else if (told >= names.length) {
        blame(4);
      }
      next++;
      return name;
    }

    private int toldLane() {
      if (kind() != NAME) {
        fail();
        return NONE;
      }
      int lane = placeOf(tokens.valueOf(next), laneNames, draft.laneCount);
      if (lane == NONE) {
        blame(3);
      }
      next++;
      return lane;
    }

    private static int placeOf(long name, long[] names, int told) {
      for (int i = 0; i < told && i < names.length; i++) {
        if (names[i] == name) {
          return i;
        }
      }
      return NONE;
    }

    private static void keepName(long[] names, int place, long name) {
      if (place >= 0 && place < names.length) {
        names[place] = name;
      }
    }

    // Error 1 is told ahead of all others, wherever they are.
    private void fail() {
      if (error != 1) {
        error = 1;
        errorPlace = tokens.startOf(next);
      }
    }

    // Tokens are taken from left to right, so the first blame is the one to tell.
    private void blame(int kindOfError) {
      if (error == 0) {
        error = kindOfError;
        errorPlace = tokens.startOf(next);
      }
    }
  }

  /** The orders, and their sums and tests with each sign behind what it reckons with. */
  private static final class Book {
    final int[] signs = new int[MOST_TOKENS];
    final int[] details = new int[MOST_TOKENS];
    int length;
    int orderCount;
    private final Order[] orders = new Order[MOST_ORDERS];

    Book() {
      for (int i = 0; i < orders.length; i++) {
        orders[i] = new Order();
      }
    }

    void clear() {
      length = 0;
      orderCount = 0;
    }

    void add(int sign, int detail) {
      if (length >= 0 && length < signs.length && length < details.length) {
        signs[length] = sign;
        details[length] = detail;
        length++;
      }
    }

    Order addOrder() {
      if (orderCount >= orders.length) {
        return null;
      }
      orderCount++;
      return orderAt(orderCount - 1);
    }

    Order orderAt(int order) {
      return order >= 0 && order < orderCount && order < orders.length ? orders[order] : null;
    }

    void copyFrom(Book other) {
      clear();
      for (int i = 0; i < other.length && i < other.signs.length && i < other.details.length; i++) {
        add(other.signs[i], other.details[i]);
      }
      for (int i = 0; i < other.orderCount; i++) {
        Order told = other.orderAt(i);
        Order mine = addOrder();
        if (told != null && mine != null) {
          mine.tell(told.kind, told.lane, told.sumFrom, told.testFrom, told.end);
        }
      }
    }
  }

  /** A line with raise, cap or shut; its sum goes up to its test, which is empty if there is none. */
  private static final class Order {
    int kind;
    int lane;
    int sumFrom;
    int testFrom;
    int end;

    void tell(int toldKind, int toldLane, int toldSumFrom, int toldTestFrom, int toldEnd) {
      kind = toldKind;
      lane = toldLane;
      sumFrom = toldSumFrom;
      testFrom = toldTestFrom;
      end = toldEnd;
    }
  }

  /** The minutes in which the pails of a lane came, from the front on, in a ring. */
  private static final class Queue {
    int size;
    private final int[] minutes = new int[MOST_HELD];
    private int front;

    void clear() {
      size = 0;
      front = 0;
    }

    void add(int minute) {
      int slot = slotOf(size);
      if (size < minutes.length && slot >= 0 && slot < minutes.length) {
        minutes[slot] = minute;
        size++;
      }
    }

    int at(int place) {
      int slot = slotOf(place);
      return slot >= 0 && slot < minutes.length ? minutes[slot] : 0;
    }

    void dropFront() {
      if (size > 0) {
        front = slotOf(1);
        size--;
      }
    }

    void copyFrom(Queue other) {
      clear();
      for (int place = 0; place < other.size; place++) {
        add(other.at(place));
      }
    }

    private int slotOf(int place) {
      int slot = front + place;
      return slot >= minutes.length ? slot - minutes.length : slot;
    }
  }

  /** A lane, with its queue. */
  private static final class Lane {
    final int number;
    final Queue queue = new Queue();
    Lane over;
    int rate;
    int most;
    int tokens;
    int sent;
    int lost;
    int borrowed;
    int waited;
    boolean shut;
    private int burst;
    private int rank;
    private int holds;
    private boolean dropsOld;
    private int lent;
    private int ownInMinute;
    private int allInMinute;

    Lane(int itsNumber) {
      number = itsNumber;
    }

    void tell(Lane toldOver, int toldRate, int toldMost, int toldBurst, int toldRank, int toldHolds, boolean old) {
      over = toldOver;
      rate = toldRate;
      most = toldMost;
      burst = toldBurst;
      rank = toldRank;
      holds = toldHolds;
      dropsOld = old;
      tokens = burst;
      sent = 0;
      lost = 0;
      lent = 0;
      borrowed = 0;
      waited = 0;
      beginMinute();
      queue.clear();
    }

    // Between minutes none is shut and nothing is sent, so that this need not be copied.
    void copyFrom(Lane other, Lane itsOver) {
      tell(itsOver, other.rate, other.most, other.burst, other.rank, other.holds, other.dropsOld);
      tokens = other.tokens;
      sent = other.sent;
      lost = other.lost;
      lent = other.lent;
      borrowed = other.borrowed;
      waited = other.waited;
      queue.copyFrom(other.queue);
    }

    void beginMinute() {
      shut = false;
      ownInMinute = 0;
      allInMinute = 0;
    }

    boolean isFull() {
      return queue.size >= holds;
    }

    void takePail(int minute) {
      if (isFull()) {
        lost++;
        if (!dropsOld) {
          return;
        }
        queue.dropFront();
      }
      queue.add(minute);
    }

    void getTokens(int many) {
      tokens = Math.min(burst, tokens + many);
    }

    boolean isOrIsUnder(Lane other) {
      for (Lane up = this; up != null; up = up.over) {
        if (up == other) {
          return true;
        }
      }
      return false;
    }

    Lane whoLends() {
      for (Lane up = this; up != null; up = up.over) {
        if (up.tokens > 0 && !up.shut) {
          return up;
        }
      }
      return null;
    }

    boolean canSend() {
      return queue.size > 0 && !shut && isLetSend() && whoLends() != null;
    }

    private boolean isLetSend() {
      for (Lane up = this; up != null; up = up.over) {
        if (up.allInMinute >= up.most) {
          return false;
        }
      }
      return true;
    }

    // Both can send, and the other one has the smaller number.
    boolean goesAheadOf(Lane other) {
      boolean own = tokens > 0;
      if (own != other.tokens > 0) {
        return own;
      }
      if (rank != other.rank) {
        return rank < other.rank;
      }
      return ownInMinute < other.ownInMinute;
    }

    void sendPail(int minute) {
      Lane lends = whoLends();
      if (lends == null) {
        return;
      }
      waited += minute - queue.at(0);
      queue.dropFront();
      lends.tokens--;
      if (lends != this) {
        borrowed++;
        lends.lent++;
      }
      sent++;
      ownInMinute++;
      for (Lane up = this; up != null; up = up.over) {
        up.allInMinute++;
      }
    }

    int fact(int what) {
      switch (what) {
        case 0:
          return over == null ? NONE : over.number;
        case 1:
          return rate;
        case 2:
          return most;
        case 3:
          return burst;
        case 4:
          return rank;
        case 5:
          return tokens;
        case 6:
          return queue.size;
        case 7:
          return holds;
        case 8:
          return sent;
        case 9:
          return lost;
        case 10:
          return lent;
        case 11:
          return borrowed;
        default:
          return waited;
      }
    }

    int known(int sign) {
      switch (sign) {
        case TOKENS:
          return tokens;
        case WAITS:
          return queue.size;
        case SENT:
          return sent;
        case LOST:
          return lost;
        case LENT:
          return lent;
        case FULL:
          return isFull() ? 1 : 0;
        default:
          return tokens == 0 ? 1 : 0;
      }
    }
  }

  /** Folk that bring pails to a lane. */
  private static final class Folk {
    int lane;
    int many;
    int brought;
    private int every;
    private int from;

    void tell(int toldLane, int toldMany, int toldEvery, int toldFrom) {
      lane = toldLane;
      many = toldMany;
      every = toldEvery;
      from = toldFrom;
      brought = 0;
    }

    void copyFrom(Folk other) {
      tell(other.lane, other.many, other.every, other.from);
      brought = other.brought;
    }

    boolean comeIn(int minute) {
      return minute >= from && every > 0 && (minute - from) % every == 0;
    }

    int fact(int what) {
      switch (what) {
        case 0:
          return lane;
        case 1:
          return many;
        case 2:
          return every;
        case 3:
          return from;
        default:
          return brought;
      }
    }
  }

  /** The numbers that a sum or a test has yet to reckon with; a test is 1 if it holds, or 0. */
  private static final class Stack {
    private final int[] numbers = new int[MOST_TOKENS];
    private int height;

    void clear() {
      height = 0;
    }

    void push(int number) {
      if (height >= 0 && height < numbers.length) {
        numbers[height] = number;
        height++;
      }
    }

    int pop() {
      if (height < 1 || height > numbers.length) {
        return 0;
      }
      height--;
      return numbers[height];
    }
  }

  /** The well with its lanes and folk, as they are in one minute. */
  private static final class Site {
    final Book book;
    int minute;
    int well;
    int laneCount;
    int folkCount;
    private final Lane[] lanes = new Lane[MOST_LANES];
    private final Folk[] folks = new Folk[MOST_FOLK];
    private final Stack stack = new Stack();
    private int spare;
    private int came;
    private int carriedOut;

    Site(Book itsBook) {
      book = itsBook;
      well = USUAL_WELL;
      for (int i = 0; i < lanes.length; i++) {
        lanes[i] = new Lane(i);
      }
      for (int i = 0; i < folks.length; i++) {
        folks[i] = new Folk();
      }
    }

    void begin(int firstMinute) {
      minute = firstMinute;
      well = USUAL_WELL;
      laneCount = 0;
      folkCount = 0;
      spare = 0;
      came = 0;
      carriedOut = 0;
    }

    void copyFrom(Site other) {
      begin(other.minute);
      well = other.well;
      spare = other.spare;
      came = other.came;
      carriedOut = other.carriedOut;
      for (int i = 0; i < other.laneCount; i++) {
        Lane told = other.laneAt(i);
        Lane mine = addLane();
        if (told != null && mine != null) {
          mine.copyFrom(told, laneAt(told.over == null ? NONE : told.over.number));
        }
      }
      for (int i = 0; i < other.folkCount; i++) {
        Folk told = other.folkAt(i);
        Folk mine = addFolk();
        if (told != null && mine != null) {
          mine.copyFrom(told);
        }
      }
    }

    Lane addLane() {
      if (laneCount >= lanes.length) {
        return null;
      }
      laneCount++;
      return laneAt(laneCount - 1);
    }

    Lane laneAt(int lane) {
      return lane >= 0 && lane < laneCount && lane < lanes.length ? lanes[lane] : null;
    }

    Folk addFolk() {
      if (folkCount >= folks.length) {
        return null;
      }
      folkCount++;
      return folkAt(folkCount - 1);
    }

    Folk folkAt(int folk) {
      return folk >= 0 && folk < folkCount && folk < folks.length ? folks[folk] : null;
    }

    void takeIn(Lane lane, int many) {
      for (int i = 0; i < many; i++) {
        lane.takePail(minute);
      }
      came += many;
    }

    int goOneMinute() {
      for (int i = 0; i < book.orderCount; i++) {
        Order order = book.orderAt(i);
        if (order != null) {
          obey(order);
        }
      }
      letFolkCome();
      for (int i = 0; i < laneCount; i++) {
        Lane lane = laneAt(i);
        if (lane != null) {
          lane.getTokens(lane.rate);
        }
      }
      int sent = sendPails();
      spare = well - sent;
      minute++;
      for (int i = 0; i < laneCount; i++) {
        Lane lane = laneAt(i);
        if (lane != null) {
          lane.beginMinute();
        }
      }
      return sent;
    }

    private void obey(Order order) {
      Lane lane = laneAt(order.lane);
      boolean always = order.testFrom == order.end;
      if (lane == null || !always && reckon(order.testFrom, order.end) == 0) {
        return;
      }
      boolean changes;
      if (order.kind == SHUT) {
        changes = !lane.shut;
        lane.shut = true;
      } else {
        int sum = Math.max(0, Math.min(MOST_PAILS, reckon(order.sumFrom, order.testFrom)));
        if (order.kind == RAISE) {
          changes = lane.rate != sum;
          lane.rate = sum;
        } else {
          changes = lane.most != sum;
          lane.most = sum;
        }
      }
      if (changes) {
        carriedOut++;
      }
    }

    private int reckon(int from, int end) {
      stack.clear();
      for (int i = Math.max(0, from); i < end && i < book.signs.length && i < book.details.length; i++) {
        step(book.signs[i], book.details[i]);
      }
      return stack.pop();
    }

    private void step(int sign, int detail) {
      switch (sign) {
        case NUMBER:
          stack.push(detail);
          break;
        case MINUTE:
          stack.push(minute);
          break;
        case SPARE:
          stack.push(spare);
          break;
        case TURN:
          stack.push(-stack.pop());
          break;
        case NOT:
          stack.push(1 - stack.pop());
          break;
        case TOKENS:
        case WAITS:
        case SENT:
        case LOST:
        case LENT:
        case FULL:
        case DRY:
          Lane lane = laneAt(detail);
          stack.push(lane == null ? 0 : lane.known(sign));
          break;
        default:
          int right = stack.pop();
          int left = stack.pop();
          stack.push(combined(sign, left, right));
          break;
      }
    }

    private static int combined(int sign, int left, int right) {
      switch (sign) {
        case '+':
          return left + right;
        case '-':
          return left - right;
        case '*':
          return left * right;
        case '/':
          return right == 0 ? 0 : left / right;
        case MIN:
          return Math.min(left, right);
        case MAX:
          return Math.max(left, right);
        case '<':
          return left < right ? 1 : 0;
        case '>':
          return left > right ? 1 : 0;
        case '=':
          return left == right ? 1 : 0;
        case AT_MOST:
          return left <= right ? 1 : 0;
        case AT_LEAST:
          return left >= right ? 1 : 0;
        case AND:
          return left & right;
        default:
          return left | right;
      }
    }

    private void letFolkCome() {
      for (int i = 0; i < folkCount; i++) {
        Folk folk = folkAt(i);
        if (folk != null && folk.comeIn(minute)) {
          Lane lane = laneAt(folk.lane);
          if (lane != null) {
            takeIn(lane, folk.many);
            folk.brought += folk.many;
          }
        }
      }
    }

    private int sendPails() {
      int sent = 0;
      Lane sender = well > 0 ? whoSends() : null;
      while (sender != null && sent < well) {
        sender.sendPail(minute);
        sent++;
        sender = sent < well ? whoSends() : null;
      }
      return sent;
    }

    private Lane whoSends() {
      Lane first = null;
      for (int i = 0; i < laneCount; i++) {
        Lane lane = laneAt(i);
        if (lane != null && lane.canSend() && (first == null || lane.goesAheadOf(first))) {
          first = lane;
        }
      }
      return first;
    }

    int tally(int what) {
      switch (what) {
        case 0:
          return minute;
        case 1:
          return well;
        case 2:
          return laneCount;
        case 3:
          return folkCount;
        case 4:
          return book.orderCount;
        case 6:
          return came;
        case 10:
          return carriedOut;
        case 11:
          return spare;
        default:
          return sumOverLanes(what);
      }
    }

    private int sumOverLanes(int what) {
      int sum = 0;
      for (int i = 0; i < laneCount; i++) {
        Lane lane = laneAt(i);
        if (lane != null) {
          sum += shareOf(lane, what);
        }
      }
      return sum;
    }

    private static int shareOf(Lane lane, int what) {
      switch (what) {
        case 5:
          return lane.queue.size;
        case 7:
          return lane.sent;
        case COUNT_OF_LOST:
          return lane.lost;
        default:
          return lane.borrowed;
      }
    }
  }
}
