/** Promises 30 to 32: laws compared, feuds at rest, years by draws. */
final class LawTest {
  private static final Check check = new Check("LawTest");
  private static final String ROW =
      "person aa plain coins 9; person bb priest coins 9; person cc plain coins 0; lane aa bb 5; lane bb cc 7; walk aa to cc;";

  public static void main(String[] args) {
    law();
    lawOfNothing();
    rests();
    years();
    yearsByOneWrong();
    check.end();
  }

  private static void law() {
    // bb's lamp lights both lanes, 2 nights by wrong 0 at once, 4 by wrong 1 behind 3 nights.
    PardonLamps x = Check.in(ROW + "wrong aa to bb size 1; wrong cc to bb size 2;");
    check.due("1", x.law(1, 0), 0);
    check.due("2", x.law(2, 0), 0);
    check.due("3: out", x.law(3, 0), 12);
    check.due("4 to 7", x.law(7, 0), 12);
    check.due("8", x.law(8, 0), 24);
    check.due("1 more each, not twice", x.law(3, 1), 0);
    check.due("3 + 5 nights without a gap", x.law(8, 1), 0);
    check.due("the ninth", x.law(9, 1), 12);
    check.due("9 more each: 2 + 4 + 18", x.law(24, 9), 0);
    check.due("9 more each: 2 + 4 + 18", x.law(25, 9), 12);
    check.due("30", x.law(30, 0), 24 * 12);
    check.due("others", x.law(0, 0), -1);
    check.due("others", x.law(31, 0), -1);
    check.due("others", x.law(1, -1), -1);
    check.due("others", x.law(1, 10), -1);
    check.due("nothing is done", x.count(10), 0);
    check.due("nothing is done", x.count(5), 0);
    x.night();
    check.due("harm so far does not count", x.law(1, 0), 0);
    x.ask(0);
    check.due("what burns already burns no longer", x.law(4, 9), 0);
    check.due("what is forgiven is not asked for", x.wrong(0, 4), 1);
  }

  private static void lawOfNothing() {
    PardonLamps x = Check.in(ROW + "wrong aa to bb size 1; burns 0;");
    check.due("a pardon of no night", x.law(2, 0), 24);
    check.due("a pardon of one more", x.law(2, 1), 12);
    // Refused ones are not asked for: they do not get sorer.
    x = Check.in("person aa plain coins 9; person bb sulky coins 9; lane aa bb 5; walk aa to bb; wrong aa to bb size 2;");
    check.due("6, 5, 4, 3", x.law(4, 0), 15);
    check.due("nobody", new PardonLamps().law(30, 9), 0);
    x = Check.in("person aa plain coins 0; person bb plain coins 0; walk aa to bb;");
    check.due("no way", x.law(30, 0), 3000);
  }

  private static void rests() {
    PardonLamps x = new PardonLamps();
    rest(x, 5, 3, 1, 2);
    rest(x, 3, 5, 0);
    rest(x, 4, 4, 0, 1, 2);
    rest(x, 0, 0, 0, 1, 2, 3);
    rest(x, 9, 0, 1, 2, 3);
    rest(x, 0, 9, 0);
    rest(x, 1, 0, 1, 2, 3);
    rest(x, 0, 1, 0);
    check.dueNone(x, -1, 0, -1);
    check.dueNone(x, 10, 0, -1);
    check.dueNone(x, 0, -1, 0);
    check.dueNone(x, 0, 10, 0);
    check.dueNone(x, 5, 3, -2);
    check.dueNone(x, 5, 3, Integer.MIN_VALUE);
    check.dueNone(x, 5, 3, Integer.MAX_VALUE);
  }

  private static void rest(PardonLamps x, int dark, int pride, int... want) {
    String call = "rests " + dark + " " + pride;
    check.due(call, x.rests(dark, pride, -1), want.length);
    for (int i = 0; i < want.length; i++) {
      check.due(call + " " + i, x.rests(dark, pride, i), want[i]);
    }
    check.dueNone(x, dark, pride, want.length);
  }

  private static void years() {
    String town = ROW + "wrong aa to bb size 1; wrong cc to bb size 2; wrong bb to aa size 9;";
    PardonLamps x = Check.in(town);
    check.due("others", x.years(-1, 1, 0), -1);
    check.due("others", x.years(10000, 1, 0), -1);
    check.due("others", x.years(0, 0, 0), -1);
    check.due("others", x.years(0, 101, 0), -1);
    check.due("others", x.years(0, 1, 3), -1);
    check.due("others", x.years(0, 1, -1), -1);
    // Draws by hand, from the document's words.
    for (int seed : new int[] {0, 1, 77, 5000, 9999}) {
      for (int nights : new int[] {1, 2, 9, 40, 100}) {
        // A new one each time: an object is used for 512 calls.
        x = Check.in(town);
        byHand(x, seed, nights, 3);
      }
    }
    check.due("all is as ahead", x.count(4), 0);
    check.due("all is as ahead", x.count(10), 0);
    check.due("all is as ahead", x.count(7), 18);
    x.ask(0);
    x.night();
    byHand(x, 3, 20, 3);
    check.due("nobody", new PardonLamps().years(1, 100, 2), 0);
    PardonLamps y = Check.in("person aa plain coins 0; person bb plain coins 0; walk aa to bb;");
    check.due("no wrongs", y.years(9999, 100, 0), 10000);
    check.due("no wrongs", y.years(9999, 100, 1), 0);
  }

  /** Does the same with a mark laid, and goes back. */
  private static void byHand(PardonLamps x, int seed, int nights, int people) {
    int[] got = new int[3];
    for (int what = 0; what < 3; what++) {
      got[what] = x.years(seed, nights, what);
    }
    x.mark(0, false);
    int before = x.count(6);
    long g = seed;
    for (int i = 0; i < nights; i++) {
      g = (g * 1103515245L + 12345L) % 2147483648L;
      int wrong = (int) (g / 65536 % x.count(2));
      g = (g * 1103515245L + 12345L) % 2147483648L;
      switch ((int) (g / 65536 % 3)) {
        case 0 -> x.say(wrong);
        case 1 -> x.give(wrong, 1);
        default -> x.ask(wrong);
      }
      x.night();
    }
    String call = "years " + seed + " " + nights + " ";
    check.due(call + 0, got[0], x.count(6) - before);
    check.due(call + 1, got[1], Integer.bitCount(x.count(5)));
    int lampNights = 0;
    for (int p = 0; p < people; p++) {
      lampNights += x.person(p, 2);
    }
    check.due(call + 2, got[2], lampNights);
    x.mark(0, true);
  }

  private static void yearsByOneWrong() {
    // Seed 0: g is 12345, / 65536 = 0: wrong 0. Then g is (12345 * 1103515245 + 12345) mod 2^31
    // = 1406932606, / 65536 = 21468, modulo 3 = 0: words. So it is not forgiven in the first night.
    PardonLamps x = Check.in("person aa plain coins 1; person bb plain coins 1; lane aa bb 5; walk aa to bb;"
        + "wrong aa to bb size 1; burns 30;");
    check.due("words only", x.years(0, 1, 1), 0);
    check.due("words only", x.years(0, 1, 0), 5);
    check.due("words only", x.years(0, 1, 2), 0);
    // By some seeds the one coin is given, by some the pardon is asked for.
    int[] found = new int[2];
    x = Check.in("person aa plain coins 1; person bb plain coins 1; lane aa bb 5; walk aa to bb;"
        + "wrong aa to bb size 4; bar 10; words 0; heals 0; burns 30;");
    for (int seed = 0; seed < 30; seed++) {
      byHand(x, seed, 2, 2);
      found[x.years(seed, 2, 1)]++;
    }
    // 12 sore, 11 behind the coin: never forgiven within two nights.
    check.due("not forgiven", found[0], 30);
    x = Check.in("person aa plain coins 1; person bb plain coins 1; lane aa bb 5; walk aa to bb;"
        + "wrong aa to bb size 4; bar 11; words 0; heals 0; burns 30;");
    for (int seed = 0; seed < 30; seed++) {
      byHand(x, seed, 2, 2);
      found[x.years(seed, 2, 1)]++;
    }
    check.due("forgiven by some", found[1] > 0, true);
  }
}
