import java.util.NoSuchElementException;

/**
 * A town whose street lamps burn only for pardons. The numbered promises stand in DOC.md; words in
 * capitals are its terms.
 */
public final class PardonLamps {
  /** None. */
  public static final int NONE = -1;

  private static final int OTHERS = -2;

  private static final int MOST_PEOPLE = 6;
  private static final int MOST_WRONGS = 8;
  private static final int MOST_WALKS = 4;
  private static final int MOST_LINES = 30;
  private static final int MOST_SIGHTS = 8;
  private static final int MOST_UNDONE = 16;
  private static final int MOST_MARKS = 4;
  private static final int MOST_ASKS = 3;
  private static final int LAMP_SETS = 64;
  private static final int SEEN_NIGHTS = 10;

  private static final int MOST_SORE = 99;
  private static final int MOST_BURNING = 99;
  private static final int MOST_GIVEN = 99;
  private static final int HARM_OF_NO_WAY = 100;

  private static final int SULKY = 1;
  private static final int SAINT = 2;
  private static final int PRIEST = 3;

  private static final int SAY = 0;
  private static final int GIVE = 1;
  private static final int ASK = 2;
  private static final int NIGHT = 3;

  private final Teller teller = new Teller();
  private final State now = new State();
  private final Past past = new Past();
  private final Sights sights = new Sights();
  private final Forecast forecast = new Forecast();
  private final Lighter lighter = new Lighter();
  // What is read goes to the second one of each pair first, so that a FAULT leaves the first alone.
  private Town current = new Town();
  private Town nextTown = new Town();
  private Year plan = new Year();
  private Year nextPlan = new Year();

  /** Promise 1: nobody. */
  public PardonLamps() {
  }

  /** Promise 2: signs come behind the TAPE. */
  public int feed(long a, long b, long c) {
    teller.tape.append(a);
    teller.tape.append(b);
    teller.tape.append(c);
    return teller.tape.length;
  }

  /** Promise 3: the TAPE is read as a TOWN. */
  public int town() {
    int fault = teller.readTown(nextTown);
    if (fault == 0) {
      Town old = current;
      current = nextTown;
      nextTown = old;
      plan.lines = 0;
      now.begin(current);
      past.forget();
      sights.held = 0;
    }
    return fault;
  }

  /** Promise 4: the TAPE is read as a YEAR. */
  public int year() {
    int fault = teller.readYear(nextPlan, current.wrongs);
    if (fault == 0) {
      Year old = plan;
      plan = nextPlan;
      nextPlan = old;
    }
    return fault;
  }

  /** Promise 5: of a PERSON. */
  public int person(int person, int what) {
    if (!current.hasPerson(person)) {
      return NONE;
    }
    switch (what) {
      case 0:
        return current.kind[person];
      case 1:
        return now.coins[person];
      case 2:
        return now.lamp[person];
      default:
        return NONE;
    }
  }

  /** Promise 6: of a WRONG. */
  public int wrong(int wrong, int what) {
    if (!current.hasWrong(wrong)) {
      return NONE;
    }
    switch (what) {
      case 0:
        return current.by[wrong];
      case 1:
        return current.to[wrong];
      case 2:
        return current.size[wrong];
      case 3:
        return now.sore[wrong];
      case 4:
        return now.isForgiven(wrong) ? 1 : 0;
      case 5:
        return now.isSaid(wrong) ? 1 : 0;
      case 6:
        return current.barOf(wrong);
      default:
        return NONE;
    }
  }

  /** Promise 7: LAMPS that burn. */
  public int lamps() {
    return now.burningBehind(0);
  }

  /** Promise 8: the least DARK from a door to another one. */
  public int dark(int from, int to, int what) {
    if (!current.hasTwoDoors(from, to) || !isWithin(what, 0, 2)) {
      return NONE;
    }
    int burning = now.burningBehind(0);
    if (!current.ways.isThere(burning, from, to)) {
      return NONE;
    }
    switch (what) {
      case 0:
        return current.ways.darkOf(burning, from, to);
      case 1:
        return current.ways.minutesOf(burning, from, to);
      default:
        return current.ways.firstDoor(burning, from, to);
    }
  }

  /** Promise 9: HARM this NIGHT would do. */
  public int harm() {
    return current.ways.harmBy(now.burningBehind(0));
  }

  /** Promise 10: SAY. */
  public int say(int wrong) {
    return current.hasWrong(wrong) && doByHand(SAY, wrong, 0) ? now.sore[wrong] : NONE;
  }

  /** Promise 11: GIVE. */
  public int give(int wrong, int coins) {
    if (!current.hasWrong(wrong) || !isWithin(coins, 1, MOST_GIVEN)) {
      return NONE;
    }
    return doByHand(GIVE, wrong, coins) ? now.sore[wrong] : NONE;
  }

  /** Promise 12: ASK. */
  public int ask(int wrong) {
    if (!current.hasWrong(wrong) || !doByHand(ASK, wrong, 0)) {
      return NONE;
    }
    return now.isForgiven(wrong) ? 1 : 0;
  }

  /** Promise 13: NIGHT. */
  public int night() {
    int before = now.harm;
    past.keep(now);
    now.sleep(current);
    return now.harm - before;
  }

  /** Does what can be done, so that it can be undone; false: it can't be. */
  private boolean doByHand(int deed, int wrong, int coins) {
    if (!now.may(current, deed, wrong, coins)) {
      return false;
    }
    past.keep(now);
    now.act(current, deed, wrong, coins);
    return true;
  }

  /** Promise 14: UNDO. */
  public boolean undo() {
    return past.stepBack(now);
  }

  /** Promise 15: JUDGED. */
  public int judged(int what) {
    return isWithin(what, 0, 2) ? forecast.judge(current, plan, what) : OTHERS;
  }

  /** Promise 16: PAY. */
  public int pay(int from, int to, int what) {
    if (!current.hasTwoDoors(from, to) || !isWithin(what, 0, 1)) {
      return NONE;
    }
    return lighter.fewestCoins(current, now, from, to, what);
  }

  /** Promise 17: WHEN. */
  public int when(int nights, int what) {
    if (!isWithin(nights, 1, MOST_ASKS) || !isWithin(what, 0, nights)) {
      return OTHERS;
    }
    return forecast.bestAsks(current, now, nights, what);
  }

  /** Promise 18: GRUDGES. */
  public int grudges(int person, boolean by) {
    if (!current.hasPerson(person)) {
      return NONE;
    }
    int found = 0;
    for (int w = 0; w < current.wrongs; w++) {
      int whose = by ? current.by[w] : current.to[w];
      if (whose == person && !now.isForgiven(w)) {
        found |= 1 << w;
      }
    }
    return found;
  }

  /** Promise 19: RIPE. */
  public int ripe(int wrong) {
    if (!current.hasWrong(wrong) || now.isForgiven(wrong)) {
      return NONE;
    }
    return forecast.nightsUntilRipe(current, now, wrong);
  }

  /** Promise 20: PRICE. */
  public int price(int wrong, int nights) {
    if (!current.hasWrong(wrong) || now.isForgiven(wrong) || !isWithin(nights, 0, 30)) {
      return NONE;
    }
    return forecast.priceBehindWords(current, now, wrong, nights);
  }

  /** Promise 21: STAYS. */
  public int stays(int from, int to) {
    return current.hasTwoDoors(from, to) ? lighter.nightsLit(current, now, from, to) : NONE;
  }

  /** Promise 22: MIDDLE. */
  public int middle() {
    return current.ways.leastDarkDoor(now.burningBehind(0), current.people);
  }

  /** Promise 23: ROUND. */
  public int round(int from, int minutes, int what) {
    if (!current.hasPerson(from) || !isWithin(minutes, 0, 200) || !isWithin(what, 0, 2)) {
      return NONE;
    }
    return lighter.bestRound(current, now, from, minutes, what);
  }

  /** Promise 24: CIRCLE. */
  public int circle() {
    return lighter.leastCircle(current, now);
  }

  /** Promise 25: LAMPS walks need. */
  public int need() {
    return current.ways.fewestLamps(current.people);
  }

  /** Promise 26: WIND. */
  public int wind(int from, int to) {
    return current.hasTwoDoors(from, to) ? lighter.chanceInWind(current, now, from, to) : NONE;
  }

  /** Promise 27: a SIGHT. */
  public boolean see(int lamp, int nights, boolean burns) {
    if (!current.hasPerson(lamp) || !isWithin(nights, 0, SEEN_NIGHTS - 1)) {
      return false;
    }
    return sights.add(lamp, nights, burns);
  }

  /** Promise 28: SETS. */
  public int sets(int what) {
    return isWithin(what, 0, 2) ? lighter.setsSeen(current, now, sights, what) : NONE;
  }

  /** Promise 29: LOOK. */
  public int look() {
    return lighter.bestLook(current, now, sights);
  }

  /** Promise 30: LAW. */
  public int law(int nights, int more) {
    if (!isWithin(nights, 1, 30) || !isWithin(more, 0, 9)) {
      return NONE;
    }
    return forecast.harmByLaw(current, now, nights, more);
  }

  /** Promise 31: RESTS. */
  public int rests(int dark, int pride, int what) throws NoSuchElementException {
    if (!isWithin(dark, 0, 9) || !isWithin(pride, 0, 9)) {
      throw new NoSuchElementException();
    }
    int found = 0;
    for (int choices = 0; choices < 4; choices++) {
      if (isRest(dark, pride, choices)) {
        if (found == what) {
          return choices;
        }
        found++;
      }
    }
    if (what != NONE) {
      throw new NoSuchElementException();
    }
    return found;
  }

  private static boolean isRest(int dark, int pride, int choices) {
    int first = choices / 2;
    int other = choices % 2;
    return loss(dark, pride, first, other) <= loss(dark, pride, 1 - first, other)
        && loss(dark, pride, other, first) <= loss(dark, pride, 1 - other, first);
  }

  /** What one loses by his own choice and the other one's (1 forgives). */
  private static int loss(int dark, int pride, int own, int others) {
    if (own == 1) {
      return pride;
    }
    return others == 1 ? 0 : dark;
  }

  /** Promise 32: YEARS. */
  public int years(int seed, int nights, int what) {
    if (!isWithin(seed, 0, 9999) || !isWithin(nights, 1, 100) || !isWithin(what, 0, 2)) {
      return NONE;
    }
    return forecast.yearsByDraws(current, now, seed, nights, what);
  }

  /** Promise 33: a MARK is laid or gone back to. */
  public boolean mark(int mark, boolean back) {
    if (!isWithin(mark, 0, MOST_MARKS - 1)) {
      return false;
    }
    if (back) {
      return past.goBack(mark, now, sights);
    }
    past.lay(mark, now, sights);
    return true;
  }

  /** Promise 34: how many there are. */
  public int count(int what) {
    switch (what) {
      case 0:
        return current.people;
      case 1:
        return current.ways.lanes;
      case 2:
        return current.wrongs;
      case 3:
        return current.ways.walks;
      case 4:
        return now.night;
      case 5:
        return now.forgiven;
      case 6:
        return now.harm;
      case 7:
        return now.coinsOfAll();
      case 8:
        return plan.lines;
      case 9:
        return sights.held;
      case 10:
        return past.held;
      case 11:
        return teller.tape.length;
      default:
        return NONE;
    }
  }

  private static boolean isWithin(int value, int least, int most) {
    return value >= least && value <= most;
  }

  private static int clamp(int value, int least, int most) {
    return Math.max(least, Math.min(most, value));
  }

  private static boolean holds(int set, int member) {
    return (set >> member & 1) != 0;
  }

  private static boolean isPartOf(int set, int whole) {
    return (set & ~whole) == 0;
  }

  /** The signs that were fed, and the TOKEN that is looked at. */
  private static final class Tape {
    static final int MOST = 1000;
    static final int END = 0;
    static final int NOTHING = 1;
    static final int WORD = 2;
    static final int NUMBER = 3;
    static final int SIGN = 4;

    private static final String SIGNS = "()<=+-*;";
    private static final int LONGEST_WORD = 8;
    private static final int LONGEST_NUMBER = 4;
    private static final int BASE = 32;
    /** So that no letter counts 0, and words of other lengths are other numbers. */
    private static final int BEFORE_A = 'a' - 1;

    int length;
    int kind;
    int place;
    /** Of a NUMBER what it is, of a SIGN which it is. */
    int value;
    /** The letters of a WORD as the digits of one number, so that no text is made of them. */
    long word;
    private final byte[] signs = new byte[MOST];
    private int next;

    void append(long eight) {
      for (int shift = 56; shift >= 0; shift -= 8) {
        int sign = (int) (eight >>> shift & 255);
        if ((sign == 10 || isWithin(sign, 32, 126)) && length < signs.length) {
          signs[length] = (byte) sign;
          length++;
        }
      }
    }

    void rewind() {
      next = 0;
      advance();
    }

    void advance() {
      int at = next;
      while (at < length && (signs[at] == 10 || signs[at] == 32)) {
        at++;
      }
      place = at;
      next = at;
      value = 0;
      word = 0;
      if (at >= length) {
        kind = END;
      } else if (isWithin(signs[at], 'a', 'z')) {
        takeWord();
      } else if (isWithin(signs[at], '0', '9')) {
        takeNumber();
      } else {
        value = signs[at];
        kind = SIGNS.indexOf((char) value) >= 0 ? SIGN : NOTHING;
        next = at + 1;
      }
    }

    private void takeWord() {
      int at = place;
      while (at < length && signs[at] >= 'a' && signs[at] <= 'z') {
        word = word * BASE + signs[at] - BEFORE_A;
        at++;
      }
      kind = at - place <= LONGEST_WORD ? WORD : NOTHING;
      next = at;
    }

    private void takeNumber() {
      int at = place;
      while (at < length && signs[at] >= '0' && signs[at] <= '9') {
        value = value * 10 + signs[at] - '0';
        at++;
      }
      kind = at - place <= LONGEST_NUMBER ? NUMBER : NOTHING;
      next = at;
    }

    /** Which one of the words of a list, blanks between, the TOKEN is; NONE: none. */
    int among(String words) {
      if (kind != WORD) {
        return NONE;
      }
      int which = 0;
      long one = 0;
      for (int i = 0; i < words.length(); i++) {
        if (words.charAt(i) != ' ') {
          one = one * BASE + words.charAt(i) - BEFORE_A;
        } else if (one == word) {
          return which;
        } else {
          which++;
          one = 0;
        }
      }
      return one == word ? which : NONE;
    }

    boolean isSign(char sign) {
      return kind == SIGN && value == sign;
    }
  }

  /** The E of words, heals and burns, each as a row of steps on a stack. */
  private static final class Laws {
    static final int WORDS = 0;
    static final int HEALS = 1;
    static final int BURNS = 2;

    // Steps of 0 and more are NUMBERS.
    static final int LARGE = -1;
    static final int SORE = -2;
    static final int NIGHTS = -3;
    static final int NOT = -4;
    static final int AND = -5;
    static final int OR = -6;
    static final int LESS = -7;
    static final int SAME = -8;
    static final int PLUS = -9;
    static final int MINUS = -10;
    static final int TIMES = -11;

    private static final int LAWS = 3;
    /** Each PART that is open leaves at most four numbers waiting, and five can be. */
    private static final int DEEPEST = 40;

    private final int[] steps = new int[LAWS + Tape.MOST];
    private final int[] first = new int[LAWS];
    private final int[] behind = new int[LAWS];
    private final int[] stack = new int[DEEPEST];
    private int used;

    void clear() {
      used = 0;
      begin(WORDS);
      put(2);
      end(WORDS);
      begin(HEALS);
      put(1);
      end(HEALS);
      begin(BURNS);
      put(LARGE);
      end(BURNS);
    }

    void begin(int law) {
      first[law] = used;
    }

    void put(int step) {
      if (used < steps.length) {
        steps[used] = step;
        used++;
      }
    }

    void end(int law) {
      behind[law] = used;
    }

    int worth(int law, int large, int sore, int nights) {
      int height = 0;
      for (int at = first[law]; at < behind[law]; at++) {
        int step = steps[at];
        if (step >= NIGHTS) {
          if (height < stack.length) {
            stack[height] = fact(step, large, sore, nights);
            height++;
          }
        } else if (step == NOT) {
          if (height >= 1) {
            stack[height - 1] = truth(stack[height - 1] == 0);
          }
        } else if (height >= 2) {
          height--;
          stack[height - 1] = joined(step, stack[height - 1], stack[height]);
        }
      }
      return height > 0 ? stack[0] : 0;
    }

    private static int fact(int step, int large, int sore, int nights) {
      switch (step) {
        case LARGE:
          return large;
        case SORE:
          return sore;
        case NIGHTS:
          return nights;
        default:
          return step;
      }
    }

    private static int joined(int step, int left, int right) {
      switch (step) {
        case AND:
          return truth(left != 0 && right != 0);
        case OR:
          return truth(left != 0 || right != 0);
        case LESS:
          return truth(left < right);
        case SAME:
          return truth(left == right);
        case PLUS:
          return left + right;
        case MINUS:
          return left - right;
        default:
          return left * right;
      }
    }

    private static int truth(boolean so) {
      return so ? 1 : 0;
    }
  }

  /** LANES and walks, and the least DARK of all WAYS for each set of LAMPS that burn. */
  private static final class Ways {
    /** More than any WAY costs. */
    private static final int FAR = 1 << 20;
    /** A DARK minute is dearer than all minutes of a WAY, so that the least DARK comes first. */
    private static final int DARKER = 1024;
    private static final int PAIRS = MOST_PEOPLE * MOST_PEOPLE;

    int lanes;
    int walks;
    private final int[][] minutes = new int[MOST_PEOPLE][MOST_PEOPLE];
    private final int[] walkFrom = new int[MOST_WALKS];
    private final int[] walkTo = new int[MOST_WALKS];
    private final int[] cost = new int[LAMP_SETS * PAIRS];
    /** Sets of LAMPS whose costs are known, one bit each. */
    private long known;

    void clear() {
      lanes = 0;
      walks = 0;
      known = 0;
      for (int from = 0; from < MOST_PEOPLE; from++) {
        for (int to = 0; to < MOST_PEOPLE; to++) {
          minutes[from][to] = 0;
        }
      }
    }

    void addLane(int from, int to, int takes) {
      minutes[from][to] = takes;
      minutes[to][from] = takes;
      lanes++;
    }

    boolean hasLane(int from, int to) {
      return minutes[from][to] != 0;
    }

    void addWalk(int from, int to) {
      if (walks < MOST_WALKS) {
        walkFrom[walks] = from;
        walkTo[walks] = to;
        walks++;
      }
    }

    boolean isThere(int burning, int from, int to) {
      return costOf(burning, from, to) < FAR;
    }

    boolean isLit(int burning, int from, int to) {
      return costOf(burning, from, to) < DARKER;
    }

    int darkOf(int burning, int from, int to) {
      return costOf(burning, from, to) / DARKER;
    }

    int minutesOf(int burning, int from, int to) {
      return costOf(burning, from, to) % DARKER;
    }

    int firstDoor(int burning, int from, int to) {
      int least = costOf(burning, from, to);
      for (int door = 0; door < MOST_PEOPLE; door++) {
        if (laneCost(burning, from, door) + costOf(burning, door, to) == least) {
          return door;
        }
      }
      return NONE;
    }

    int harmBy(int burning) {
      int harm = 0;
      for (int w = 0; w < walks; w++) {
        harm += darkOrHarm(costOf(burning, walkFrom[w], walkTo[w]));
      }
      return harm;
    }

    int leastDarkDoor(int burning, int doors) {
      int best = NONE;
      int least = 0;
      for (int from = 0; from < doors; from++) {
        int dark = 0;
        for (int to = 0; to < doors; to++) {
          dark += darkOrHarm(costOf(burning, from, to));
        }
        if (best == NONE || dark < least) {
          best = from;
          least = dark;
        }
      }
      return best;
    }

    private static int darkOrHarm(int costs) {
      return costs < FAR ? costs / DARKER : HARM_OF_NO_WAY;
    }

    int fewestLamps(int doors) {
      int best = (1 << doors) - 1;
      for (int set = 0; set < 1 << doors; set++) {
        if (Integer.bitCount(set) < Integer.bitCount(best) && leavesNoWalkDark(set)) {
          best = set;
        }
      }
      return best;
    }

    private boolean leavesNoWalkDark(int burning) {
      for (int w = 0; w < walks; w++) {
        int least = costOf(burning, walkFrom[w], walkTo[w]);
        if (least >= DARKER && least < FAR) {
          return false;
        }
      }
      return true;
    }

    private int costOf(int burning, int from, int to) {
      if ((known >>> burning & 1) == 0) {
        measure(burning);
        known |= 1L << burning;
      }
      return cost[burning * PAIRS + from * MOST_PEOPLE + to];
    }

    private void measure(int burning) {
      int base = burning * PAIRS;
      for (int from = 0; from < MOST_PEOPLE; from++) {
        for (int to = 0; to < MOST_PEOPLE; to++) {
          cost[base + from * MOST_PEOPLE + to] = from == to ? 0 : laneCost(burning, from, to);
        }
      }
      for (int by = 0; by < MOST_PEOPLE; by++) {
        for (int from = 0; from < MOST_PEOPLE; from++) {
          int toBy = cost[base + from * MOST_PEOPLE + by];
          for (int to = 0; to < MOST_PEOPLE; to++) {
            int pair = base + from * MOST_PEOPLE + to;
            cost[pair] = Math.min(cost[pair], toBy + cost[base + by * MOST_PEOPLE + to]);
          }
        }
      }
    }

    private int laneCost(int burning, int from, int to) {
      int takes = minutes[from][to];
      if (takes == 0) {
        return FAR;
      }
      boolean lit = (burning & (1 << from | 1 << to)) != 0;
      return lit ? takes : takes * (DARKER + 1);
    }
  }

  /** A TOWN as it was told. */
  private static final class Town {
    int people;
    int wrongs;
    int bar;
    int wind;
    /** Which of bar, wind, words, heals, burns were told, as bits. */
    int toldOnce;
    final long[] name = new long[MOST_PEOPLE];
    final int[] kind = new int[MOST_PEOPLE];
    final int[] coins = new int[MOST_PEOPLE];
    final int[] by = new int[MOST_WRONGS];
    final int[] to = new int[MOST_WRONGS];
    final int[] size = new int[MOST_WRONGS];
    final Laws laws = new Laws();
    final Ways ways = new Ways();

    void clear() {
      people = 0;
      wrongs = 0;
      bar = 3;
      wind = 0;
      toldOnce = 0;
      laws.clear();
      ways.clear();
    }

    void addPerson(long named, int ofKind, int has) {
      if (people < MOST_PEOPLE) {
        name[people] = named;
        kind[people] = ofKind;
        coins[people] = has;
        people++;
      }
    }

    void addWrong(int doer, int sufferer, int large) {
      if (wrongs < MOST_WRONGS) {
        by[wrongs] = doer;
        to[wrongs] = sufferer;
        size[wrongs] = large;
        wrongs++;
      }
    }

    int personNamed(long named) {
      for (int p = 0; p < people; p++) {
        if (name[p] == named) {
          return p;
        }
      }
      return NONE;
    }

    boolean hasPerson(int person) {
      return isWithin(person, 0, people - 1);
    }

    boolean hasTwoDoors(int from, int where) {
      return hasPerson(from) && hasPerson(where) && from != where;
    }

    boolean hasWrong(int wrong) {
      return isWithin(wrong, 0, wrongs - 1);
    }

    int barOf(int wrong) {
      return kind[to[wrong]] == SAINT ? bar + 3 : bar;
    }

    int soreBehindWords(int wrong, int sore, int night) {
      int less = clamp(laws.worth(Laws.WORDS, size[wrong], sore, night), 0, 99);
      return Math.max(0, sore - less);
    }

    int soreBehindNight(int wrong, int sore, int night) {
      int less = clamp(laws.worth(Laws.HEALS, size[wrong], sore, night), -9, 9);
      return clamp(sore - less, 0, MOST_SORE);
    }

    int soreBehindRefusal(int wrong, int sore) {
      int more = kind[to[wrong]] == SULKY ? 2 : 1;
      return Math.min(MOST_SORE, sore + more);
    }

    /** How many NIGHTS longer a LAMP burns by a pardon. */
    int burnsLonger(int wrong, int sore, int night) {
      int nights = clamp(laws.worth(Laws.BURNS, size[wrong], sore, night), 0, 30);
      return kind[to[wrong]] == PRIEST ? 2 * nights : nights;
    }
  }

  /** A YEAR as it was told. */
  private static final class Year {
    int lines;
    final int[] deed = new int[MOST_LINES];
    final int[] wrong = new int[MOST_LINES];
    final int[] coins = new int[MOST_LINES];

    void add(int done, int about, int given) {
      if (lines < MOST_LINES) {
        deed[lines] = done;
        wrong[lines] = about;
        coins[lines] = given;
        lines++;
      }
    }
  }

  /** Reads the TAPE as a TOWN or as a YEAR, up to the first TOKEN that is wrong. */
  private static final class Teller {
    private static final int UNFIT = 1;
    private static final int UNKNOWN = 2;
    private static final int AGAIN = 3;
    private static final int OUT_OF_RANGE = 4;
    private static final int TOO_MANY = 5;

    private static final String TOWN_LINES = "person lane wrong walk bar wind words heals burns";
    private static final String YEAR_LINES = "say give ask night";
    private static final String KINDS = "plain sulky saint priest";
    private static final String WORDS_OF_LINES = "coins to size";
    private static final String WORDS_OF_LAWS = "not and or";
    private static final String FACTS = "large sore nights";
    private static final int FIRST_TOLD_ONCE = 4;
    private static final int MOST_WITHIN = 5;

    final Tape tape = new Tape();
    private int fault;

    int readTown(Town town) {
      town.clear();
      fault = 0;
      tape.rewind();
      boolean read = true;
      for (int i = 0; i < Tape.MOST && read && tape.kind != Tape.END; i++) {
        int line = tape.among(TOWN_LINES);
        switch (line) {
          case NONE:
            read = fail(UNFIT);
            break;
          case 0:
            read = readPerson(town);
            break;
          case 1:
            read = readLane(town);
            break;
          case 2:
            read = readWrong(town);
            break;
          case 3:
            read = readWalk(town);
            break;
          default:
            read = readOnce(town, line - FIRST_TOLD_ONCE);
            break;
        }
      }
      tape.length = 0;
      return fault;
    }

    int readYear(Year year, int wrongs) {
      year.lines = 0;
      fault = 0;
      tape.rewind();
      boolean read = true;
      for (int i = 0; i < Tape.MOST && read && tape.kind != Tape.END; i++) {
        read = readYearLine(year, wrongs);
      }
      tape.length = 0;
      return fault;
    }

    private boolean readPerson(Town town) {
      if (town.people >= MOST_PEOPLE) {
        return fail(TOO_MANY);
      }
      tape.advance();
      if (!isName()) {
        return fail(UNFIT);
      }
      if (town.personNamed(tape.word) != NONE) {
        return fail(AGAIN);
      }
      long name = tape.word;
      tape.advance();
      int kind = tape.among(KINDS);
      if (kind == NONE) {
        return fail(UNFIT);
      }
      tape.advance();
      if (!pass("coins")) {
        return false;
      }
      int coins = tape.value;
      if (!passNumber(0, 999)) {
        return false;
      }
      town.addPerson(name, kind, coins);
      return passSign(';');
    }

    private boolean readLane(Town town) {
      tape.advance();
      int from = town.personNamed(tape.word);
      if (!passDoor(town, NONE)) {
        return false;
      }
      int to = town.personNamed(tape.word);
      if (isName() && to != NONE && town.ways.hasLane(from, to)) {
        return fail(AGAIN);
      }
      if (!passDoor(town, from)) {
        return false;
      }
      int minutes = tape.value;
      if (!passNumber(1, 30)) {
        return false;
      }
      town.ways.addLane(from, to, minutes);
      return passSign(';');
    }

    private boolean readWrong(Town town) {
      if (town.wrongs >= MOST_WRONGS) {
        return fail(TOO_MANY);
      }
      tape.advance();
      int by = town.personNamed(tape.word);
      if (!passDoor(town, NONE) || !pass("to")) {
        return false;
      }
      int to = town.personNamed(tape.word);
      if (!passDoor(town, by) || !pass("size")) {
        return false;
      }
      int size = tape.value;
      if (!passNumber(1, 9)) {
        return false;
      }
      town.addWrong(by, to, size);
      return passSign(';');
    }

    private boolean readWalk(Town town) {
      if (town.ways.walks >= MOST_WALKS) {
        return fail(TOO_MANY);
      }
      tape.advance();
      int from = town.personNamed(tape.word);
      if (!passDoor(town, NONE) || !pass("to")) {
        return false;
      }
      int to = town.personNamed(tape.word);
      if (!passDoor(town, from)) {
        return false;
      }
      town.ways.addWalk(from, to);
      return passSign(';');
    }

    /** Reads what is told once: 0 bar, 1 wind, then the laws. */
    private boolean readOnce(Town town, int which) {
      if (holds(town.toldOnce, which)) {
        return fail(AGAIN);
      }
      town.toldOnce |= 1 << which;
      tape.advance();
      int number = tape.value;
      if (which == 0) {
        town.bar = number;
        return passNumber(0, 30) && passSign(';');
      }
      if (which == 1) {
        town.wind = number;
        return passNumber(0, 10) && passSign(';');
      }
      town.laws.begin(which - 2);
      boolean read = readTerm(town.laws, 0, 0);
      town.laws.end(which - 2);
      return read && passSign(';');
    }

    /** Reads a TERM by rank: 0 of and, or; 1 of <, =; 2 of +, -; 3 of *; 4 a PART. */
    private boolean readTerm(Laws laws, int rank, int within) {
      if (rank > 3) {
        return readPart(laws, within);
      }
      if (!readTerm(laws, rank + 1, within)) {
        return false;
      }
      // A second < or = in one TEST can't stand there: it is left to who waits for what follows.
      int most = rank == 1 ? 1 : Tape.MOST;
      for (int i = 0; i < most; i++) {
        int step = joiner(rank);
        if (step == 0) {
          return true;
        }
        tape.advance();
        if (!readTerm(laws, rank + 1, within)) {
          return false;
        }
        laws.put(step);
      }
      return true;
    }

    private boolean readPart(Laws laws, int within) {
      boolean not = tape.among("not") == 0;
      boolean open = tape.isSign('(');
      int fact = tape.among(FACTS);
      if (!not && !open && fact == NONE && tape.kind != Tape.NUMBER) {
        return fail(UNFIT);
      }
      if (within >= MOST_WITHIN) {
        return fail(TOO_MANY);
      }
      int number = tape.value;
      tape.advance();
      if (not) {
        boolean read = readPart(laws, within + 1);
        laws.put(Laws.NOT);
        return read;
      }
      if (open) {
        return readTerm(laws, 0, within + 1) && passSign(')');
      }
      laws.put(fact == NONE ? number : Laws.LARGE - fact);
      return true;
    }

    /** The step of the TOKEN if it joins at this rank; 0: it does not. */
    private int joiner(int rank) {
      switch (rank) {
        case 0:
          int which = tape.among("and or");
          return which == NONE ? 0 : Laws.AND - which;
        case 1:
          return tape.isSign('<') ? Laws.LESS : tape.isSign('=') ? Laws.SAME : 0;
        case 2:
          return tape.isSign('+') ? Laws.PLUS : tape.isSign('-') ? Laws.MINUS : 0;
        default:
          return tape.isSign('*') ? Laws.TIMES : 0;
      }
    }

    private boolean readYearLine(Year year, int wrongs) {
      int deed = tape.among(YEAR_LINES);
      if (deed == NONE) {
        return fail(UNFIT);
      }
      if (year.lines >= MOST_LINES) {
        return fail(TOO_MANY);
      }
      tape.advance();
      int wrong = deed == NIGHT ? 0 : tape.value;
      if (deed != NIGHT && !passNumber(0, wrongs - 1)) {
        return false;
      }
      int coins = deed == GIVE ? tape.value : 0;
      if (deed == GIVE && !passNumber(1, MOST_GIVEN)) {
        return false;
      }
      year.add(deed, wrong, coins);
      return passSign(';');
    }

    private boolean isName() {
      return tape.kind == Tape.WORD
          && tape.among(TOWN_LINES) == NONE
          && tape.among(YEAR_LINES) == NONE
          && tape.among(KINDS) == NONE
          && tape.among(WORDS_OF_LINES) == NONE
          && tape.among(WORDS_OF_LAWS) == NONE;
    }

    /** Takes the NAME of a PERSON told, another one than the first of its line. */
    private boolean passDoor(Town town, int first) {
      if (!isName()) {
        return fail(UNFIT);
      }
      int door = town.personNamed(tape.word);
      if (door == NONE) {
        return fail(UNKNOWN);
      }
      if (door == first) {
        return fail(AGAIN);
      }
      tape.advance();
      return true;
    }

    private boolean pass(String word) {
      if (tape.among(word) == NONE) {
        return fail(UNFIT);
      }
      tape.advance();
      return true;
    }

    private boolean passSign(char sign) {
      if (!tape.isSign(sign)) {
        return fail(UNFIT);
      }
      tape.advance();
      return true;
    }

    private boolean passNumber(int least, int most) {
      if (tape.kind != Tape.NUMBER) {
        return fail(UNFIT);
      }
      if (!isWithin(tape.value, least, most)) {
        return fail(OUT_OF_RANGE);
      }
      tape.advance();
      return true;
    }

    private boolean fail(int kind) {
      fault = kind + 16 * tape.place;
      return false;
    }
  }

  /** How all stands on one night. */
  private static final class State {
    int night;
    int harm;
    /** WRONGS that are forgiven, as bits. */
    int forgiven;
    private int said;
    final int[] sore = new int[MOST_WRONGS];
    final int[] lamp = new int[MOST_PEOPLE];
    final int[] coins = new int[MOST_PEOPLE];

    void begin(Town town) {
      night = 0;
      harm = 0;
      forgiven = 0;
      said = 0;
      for (int w = 0; w < MOST_WRONGS; w++) {
        sore[w] = w < town.wrongs ? 3 * town.size[w] : 0;
      }
      for (int p = 0; p < MOST_PEOPLE; p++) {
        lamp[p] = 0;
        coins[p] = p < town.people ? town.coins[p] : 0;
      }
    }

    void become(State other) {
      night = other.night;
      harm = other.harm;
      forgiven = other.forgiven;
      said = other.said;
      System.arraycopy(other.sore, 0, sore, 0, MOST_WRONGS);
      System.arraycopy(other.lamp, 0, lamp, 0, MOST_PEOPLE);
      System.arraycopy(other.coins, 0, coins, 0, MOST_PEOPLE);
    }

    boolean isForgiven(int wrong) {
      return holds(forgiven, wrong);
    }

    boolean isSaid(int wrong) {
      return holds(said, wrong);
    }

    /** Whether it is not forgiven and, asked for, would be. */
    boolean isRipe(Town town, int wrong) {
      return !isForgiven(wrong) && sore[wrong] <= town.barOf(wrong);
    }

    /** LAMPS that burn yet behind so many NIGHTS, if nothing is done, as bits. */
    int burningBehind(int nights) {
      int burning = 0;
      for (int p = 0; p < MOST_PEOPLE; p++) {
        if (lamp[p] > nights) {
          burning |= 1 << p;
        }
      }
      return burning;
    }

    int coinsOfAll() {
      int sum = 0;
      for (int p = 0; p < MOST_PEOPLE; p++) {
        sum += coins[p];
      }
      return sum;
    }

    int lampNights() {
      int sum = 0;
      for (int p = 0; p < MOST_PEOPLE; p++) {
        sum += lamp[p];
      }
      return sum;
    }

    boolean may(Town town, int deed, int wrong, int given) {
      switch (deed) {
        case SAY:
          return !isForgiven(wrong) && !isSaid(wrong);
        case GIVE:
          return !isForgiven(wrong) && coins[town.by[wrong]] >= given;
        case ASK:
          return !isForgiven(wrong);
        default:
          return true;
      }
    }

    void act(Town town, int deed, int wrong, int given) {
      switch (deed) {
        case SAY:
          sore[wrong] = town.soreBehindWords(wrong, sore[wrong], night);
          said |= 1 << wrong;
          break;
        case GIVE:
          coins[town.by[wrong]] -= given;
          coins[town.to[wrong]] += given;
          sore[wrong] = Math.max(0, sore[wrong] - given);
          break;
        case ASK:
          beg(town, wrong, 0);
          break;
        default:
          sleep(town);
          break;
      }
    }

    /** Asks for a WRONG that is not forgiven; a pardon burns so many NIGHTS more than told. */
    void beg(Town town, int wrong, int more) {
      if (isRipe(town, wrong)) {
        int longer = town.burnsLonger(wrong, sore[wrong], night) + more;
        int whose = town.to[wrong];
        lamp[whose] = Math.min(MOST_BURNING, lamp[whose] + longer);
        forgiven |= 1 << wrong;
      } else {
        sore[wrong] = town.soreBehindRefusal(wrong, sore[wrong]);
      }
    }

    void sleep(Town town) {
      harm += town.ways.harmBy(burningBehind(0));
      for (int p = 0; p < MOST_PEOPLE; p++) {
        lamp[p] = Math.max(0, lamp[p] - 1);
      }
      for (int w = 0; w < town.wrongs; w++) {
        if (!isForgiven(w)) {
          sore[w] = town.soreBehindNight(w, sore[w], night);
        }
      }
      said = 0;
      night++;
    }
  }

  /** LAMPS that were seen. */
  private static final class Sights {
    int held;
    private final int[] lamp = new int[MOST_SIGHTS];
    private final int[] nights = new int[MOST_SIGHTS];
    private final boolean[] burns = new boolean[MOST_SIGHTS];

    boolean add(int which, int behind, boolean burning) {
      if (held >= MOST_SIGHTS) {
        return false;
      }
      lamp[held] = which;
      nights[held] = behind;
      burns[held] = burning;
      held++;
      return true;
    }

    void become(Sights other) {
      held = other.held;
      for (int s = 0; s < MOST_SIGHTS; s++) {
        lamp[s] = other.lamp[s];
        nights[s] = other.nights[s];
        burns[s] = other.burns[s];
      }
    }

    /** Whether all would be seen so if the LAMPS burnt for these NIGHTS. */
    boolean agreeWith(int[] burning) {
      for (int s = 0; s < held; s++) {
        if (burning[lamp[s]] > nights[s] != burns[s]) {
          return false;
        }
      }
      return true;
    }
  }

  /** What can be undone, and the MARKS. */
  private static final class Past {
    int held;
    private int next;
    /** MARKS that something is on, as bits. */
    private int laid;
    private final State[] before = new State[MOST_UNDONE];
    private final State[] marked = new State[MOST_MARKS];
    private final Sights[] seen = new Sights[MOST_MARKS];

    Past() {
      for (int i = 0; i < MOST_UNDONE; i++) {
        before[i] = new State();
      }
      for (int i = 0; i < MOST_MARKS; i++) {
        marked[i] = new State();
        seen[i] = new Sights();
      }
    }

    void forget() {
      held = 0;
      laid = 0;
    }

    void keep(State now) {
      before[next].become(now);
      next = (next + 1) % MOST_UNDONE;
      held = Math.min(MOST_UNDONE, held + 1);
    }

    boolean stepBack(State now) {
      if (held == 0) {
        return false;
      }
      next = (next + MOST_UNDONE - 1) % MOST_UNDONE;
      held--;
      now.become(before[next]);
      return true;
    }

    void lay(int at, State now, Sights sights) {
      marked[at].become(now);
      seen[at].become(sights);
      laid |= 1 << at;
    }

    boolean goBack(int at, State now, Sights sights) {
      if (!holds(laid, at)) {
        return false;
      }
      now.become(marked[at]);
      sights.become(seen[at]);
      held = 0;
      return true;
    }
  }

  /** What would come, tried on states of its own. */
  private static final class Forecast {
    /** Four walks of three NIGHTS do 1,800 at most. */
    private static final int MORE_THAN_ANY_HARM = 1 << 20;

    private final State trial = new State();
    private final State[] ahead = new State[MOST_ASKS + 1];
    private final int[] asks = new int[MOST_ASKS];
    private final int[] leastAsks = new int[MOST_ASKS];
    private int leastHarm;

    Forecast() {
      for (int i = 0; i <= MOST_ASKS; i++) {
        ahead[i] = new State();
      }
    }

    int judge(Town town, Year year, int what) {
      int firstBad = NONE;
      trial.begin(town);
      for (int i = 0; i < year.lines; i++) {
        if (trial.may(town, year.deed[i], year.wrong[i], year.coins[i])) {
          trial.act(town, year.deed[i], year.wrong[i], year.coins[i]);
        } else if (firstBad == NONE) {
          firstBad = i;
        }
      }
      if (what == 0) {
        return firstBad;
      }
      return what == 1 ? Integer.bitCount(trial.forgiven) : trial.harm;
    }

    int bestAsks(Town town, State now, int nights, int what) {
      leastHarm = MORE_THAN_ANY_HARM;
      ahead[0].become(now);
      ahead[0].harm = 0;
      tryAsks(town, 0, nights);
      return what == 0 ? leastHarm : leastAsks[what - 1];
    }

    private void tryAsks(Town town, int depth, int nights) {
      if (depth >= nights || depth >= MOST_ASKS) {
        leastHarm = ahead[depth].harm;
        System.arraycopy(asks, 0, leastAsks, 0, MOST_ASKS);
        return;
      }
      State here = ahead[depth];
      State next = ahead[depth + 1];
      for (int w = 0; w <= town.wrongs; w++) {
        boolean asked = w < town.wrongs;
        if (asked && here.isForgiven(w)) {
          continue;
        }
        next.become(here);
        if (asked) {
          next.beg(town, w, 0);
        }
        next.sleep(town);
        asks[depth] = asked ? w : NONE;
        // HARM never shrinks, so a row that has as much already is no better.
        if (next.harm < leastHarm) {
          tryAsks(town, depth + 1, nights);
        }
      }
    }

    int nightsUntilRipe(Town town, State now, int wrong) {
      int sore = now.sore[wrong];
      for (int nights = 0; nights <= 60; nights++) {
        if (sore <= town.barOf(wrong)) {
          return nights;
        }
        sore = town.soreBehindNight(wrong, sore, now.night + nights);
      }
      return NONE;
    }

    int priceBehindWords(Town town, State now, int wrong, int nights) {
      int sore = now.sore[wrong];
      for (int i = 0; i < nights; i++) {
        if (i > 0 || !now.isSaid(wrong)) {
          sore = town.soreBehindWords(wrong, sore, now.night + i);
        }
        sore = town.soreBehindNight(wrong, sore, now.night + i);
      }
      return Math.max(0, sore - town.barOf(wrong));
    }

    int harmByLaw(Town town, State now, int nights, int more) {
      trial.become(now);
      trial.harm = 0;
      for (int i = 0; i < nights; i++) {
        for (int w = 0; w < town.wrongs; w++) {
          if (trial.isRipe(town, w)) {
            trial.beg(town, w, more);
          }
        }
        trial.sleep(town);
      }
      return trial.harm;
    }

    int yearsByDraws(Town town, State now, int seed, int nights, int what) {
      trial.become(now);
      trial.harm = 0;
      long g = seed;
      for (int i = 0; i < nights; i++) {
        if (town.wrongs > 0) {
          g = nextDraw(g);
          int wrong = drawBelow(g, town.wrongs);
          g = nextDraw(g);
          int deed = drawBelow(g, 3);
          if (trial.may(town, deed, wrong, 1)) {
            trial.act(town, deed, wrong, 1);
          }
        }
        trial.sleep(town);
      }
      if (what == 0) {
        return trial.harm;
      }
      return what == 1 ? Integer.bitCount(trial.forgiven) : trial.lampNights();
    }

    private static long nextDraw(long g) {
      return (g * 1103515245L + 12345L) % 2147483648L;
    }

    private static int drawBelow(long g, int most) {
      return most > 0 ? (int) (g / 65536L % most) : 0;
    }
  }

  /** What the lighter reckons from how all stands now: coins, rounds, circles, wind, sets. */
  private static final class Lighter {
    private static final int NOT_REACHED = 1 << 20;
    private static final int ALL_BURN = LAMP_SETS - 1;

    private final int[] price = new int[MOST_WRONGS];
    private final int[] longer = new int[MOST_WRONGS];
    private final int[] spent = new int[MOST_PEOPLE];
    private final int[] lamp = new int[MOST_PEOPLE];
    private final int[] ripe = new int[MOST_PEOPLE];
    private final int[] walked = new int[LAMP_SETS * MOST_PEOPLE];
    private final int[] burnBy = new int[MOST_PEOPLE * SEEN_NIGHTS];
    private final int[] answer = new int[3];

    int fewestCoins(Town town, State now, int from, int to, int what) {
      weighPardons(town, now);
      answer[0] = NONE;
      answer[1] = NONE;
      for (int set = 0; set < 1 << town.wrongs; set++) {
        if ((set & now.forgiven) != 0 || !areAfforded(town, now, set)) {
          continue;
        }
        int coins = coinsFor(town, set);
        if ((answer[0] == NONE || coins < answer[0])
            && town.ways.isLit(burningBy(town, now, set), from, to)) {
          answer[0] = coins;
          answer[1] = set;
        }
      }
      return answer[what];
    }

    /** For each WRONG the coins that a pardon takes now, and the NIGHTS that it gives. */
    private void weighPardons(Town town, State now) {
      for (int w = 0; w < town.wrongs; w++) {
        price[w] = Math.max(0, now.sore[w] - town.barOf(w));
        longer[w] = town.burnsLonger(w, now.sore[w] - price[w], now.night);
      }
    }

    private boolean areAfforded(Town town, State now, int set) {
      for (int p = 0; p < town.people; p++) {
        spent[p] = 0;
      }
      for (int w = 0; w < town.wrongs; w++) {
        if (holds(set, w)) {
          spent[town.by[w]] += price[w];
        }
      }
      for (int p = 0; p < town.people; p++) {
        if (spent[p] > now.coins[p]) {
          return false;
        }
      }
      return true;
    }

    private int coinsFor(Town town, int set) {
      int coins = 0;
      for (int w = 0; w < town.wrongs; w++) {
        if (holds(set, w)) {
          coins += price[w];
        }
      }
      return coins;
    }

    private int burningBy(Town town, State now, int set) {
      int burning = now.burningBehind(0);
      for (int w = 0; w < town.wrongs; w++) {
        if (holds(set, w) && longer[w] > 0) {
          burning |= 1 << town.to[w];
        }
      }
      return burning;
    }

    int nightsLit(Town town, State now, int from, int to) {
      for (int nights = 0; nights < MOST_BURNING; nights++) {
        if (!town.ways.isLit(now.burningBehind(nights), from, to)) {
          return nights;
        }
      }
      return MOST_BURNING;
    }

    int chanceInWind(Town town, State now, int from, int to) {
      int burning = now.burningBehind(0);
      int chance = 0;
      for (int left = 0; left < LAMP_SETS; left++) {
        if (isPartOf(left, burning) && town.ways.isLit(left, from, to)) {
          chance += chanceOf(town.wind, burning, left);
        }
      }
      return chance;
    }

    /** In millionths: a factor of ten for each of six LAMPS, whether it burns or not. */
    private static int chanceOf(int wind, int burning, int left) {
      int chance = 1;
      for (int p = 0; p < MOST_PEOPLE; p++) {
        if (!holds(burning, p)) {
          chance *= 10;
        } else {
          chance *= holds(left, p) ? 10 - wind : wind;
        }
      }
      return chance;
    }

    int leastCircle(Town town, State now) {
      int best = NONE;
      for (int set = 1; set < 1 << town.wrongs; set++) {
        if ((set & now.forgiven) == 0
            && (best == NONE || Integer.bitCount(set) < Integer.bitCount(best))
            && goesRound(town, set)) {
          best = set;
        }
      }
      return best;
    }

    /** Whether a walk by all WRONGS of a set, none twice, ends where it began. */
    private static boolean goesRound(Town town, int set) {
      int start = NONE;
      int at = NONE;
      int left = set;
      for (int i = 0; i < MOST_WRONGS && left != 0; i++) {
        int w = firstBy(town, left, at);
        if (w == NONE) {
          return false;
        }
        if (start == NONE) {
          start = town.by[w];
        }
        at = town.to[w];
        left &= ~(1 << w);
      }
      return left == 0 && at == start;
    }

    /** The first WRONG of a set that somebody did (NONE: anybody). */
    private static int firstBy(Town town, int set, int whom) {
      for (int w = 0; w < town.wrongs; w++) {
        if (holds(set, w) && (whom == NONE || town.by[w] == whom)) {
          return w;
        }
      }
      return NONE;
    }

    int bestRound(Town town, State now, int from, int minutes, int what) {
      countRipe(town, now);
      walkRounds(town, from, minutes);
      answer[0] = NONE;
      for (int set = 0; set < LAMP_SETS; set++) {
        int least = leastWalked(set);
        int found = ripeOf(set);
        if (least < NOT_REACHED
            && (found > answer[0] || found == answer[0] && least < answer[1])) {
          answer[0] = found;
          answer[1] = least;
          answer[2] = set;
        }
      }
      return answer[what];
    }

    private void countRipe(Town town, State now) {
      for (int p = 0; p < MOST_PEOPLE; p++) {
        ripe[p] = 0;
      }
      for (int w = 0; w < town.wrongs; w++) {
        if (now.isRipe(town, w)) {
          ripe[town.to[w]]++;
        }
      }
    }

    /** The least minutes for each set of doors that were sought, by the door that was the last. */
    private void walkRounds(Town town, int from, int most) {
      for (int i = 0; i < walked.length; i++) {
        walked[i] = NOT_REACHED;
      }
      int first = ripe[from] > 0 ? 1 << from : 0;
      walked[first * MOST_PEOPLE + from] = 0;
      for (int set = first; set < LAMP_SETS; set++) {
        for (int at = 0; at < town.people; at++) {
          if (walked[set * MOST_PEOPLE + at] < NOT_REACHED) {
            walkOn(town, set, at, most);
          }
        }
      }
    }

    private void walkOn(Town town, int set, int at, int most) {
      for (int door = 0; door < town.people; door++) {
        if (ripe[door] == 0 || holds(set, door) || !town.ways.isThere(ALL_BURN, at, door)) {
          continue;
        }
        int minutes = walked[set * MOST_PEOPLE + at] + town.ways.minutesOf(ALL_BURN, at, door);
        int then = (set | 1 << door) * MOST_PEOPLE + door;
        if (minutes <= most) {
          walked[then] = Math.min(walked[then], minutes);
        }
      }
    }

    private int leastWalked(int set) {
      int least = NOT_REACHED;
      for (int at = 0; at < MOST_PEOPLE; at++) {
        least = Math.min(least, walked[set * MOST_PEOPLE + at]);
      }
      return least;
    }

    private int ripeOf(int set) {
      int found = 0;
      for (int p = 0; p < MOST_PEOPLE; p++) {
        if (holds(set, p)) {
          found += ripe[p];
        }
      }
      return found;
    }

    int setsSeen(Town town, State now, Sights sights, int what) {
      sortSets(town, now, sights);
      return what == 0 || answer[0] > 0 ? answer[what] : NONE;
    }

    int bestLook(Town town, State now, Sights sights) {
      sortSets(town, now, sights);
      int best = NONE;
      int least = answer[0];
      for (int look = 0; look < town.people * SEEN_NIGHTS; look++) {
        int greater = Math.max(burnBy[look], answer[0] - burnBy[look]);
        if (greater < least) {
          best = look;
          least = greater;
        }
      }
      return best;
    }

    /** Which sets all SIGHTS leave: how many, in all, in some; and by how many each LAMP burns. */
    private void sortSets(Town town, State now, Sights sights) {
      weighPardons(town, now);
      int could = ripeWrongs(town, now);
      for (int look = 0; look < burnBy.length; look++) {
        burnBy[look] = 0;
      }
      answer[0] = 0;
      answer[1] = could;
      answer[2] = 0;
      for (int set = 0; set < 1 << town.wrongs; set++) {
        if (isPartOf(set, could)) {
          lightBy(town, now, set);
          if (sights.agreeWith(lamp)) {
            answer[0]++;
            answer[1] &= set;
            answer[2] |= set;
            countBurning();
          }
        }
      }
    }

    private static int ripeWrongs(Town town, State now) {
      int found = 0;
      for (int w = 0; w < town.wrongs; w++) {
        if (now.isRipe(town, w)) {
          found |= 1 << w;
        }
      }
      return found;
    }

    private void lightBy(Town town, State now, int set) {
      System.arraycopy(now.lamp, 0, lamp, 0, MOST_PEOPLE);
      for (int w = 0; w < town.wrongs; w++) {
        if (holds(set, w)) {
          int whose = town.to[w];
          lamp[whose] = Math.min(MOST_BURNING, lamp[whose] + longer[w]);
        }
      }
    }

    private void countBurning() {
      for (int p = 0; p < MOST_PEOPLE; p++) {
        for (int nights = 0; nights < SEEN_NIGHTS && nights < lamp[p]; nights++) {
          burnBy[p * SEEN_NIGHTS + nights]++;
        }
      }
    }
  }
}
