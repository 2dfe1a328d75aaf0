/** The edges of promises 5 to 15, 33 and 34, sentence by sentence: what is, what is done by hand, undone, judged. */
final class HandEdgesTest {
  private static final Check check = new Check("HandEdgesTest");
  // 0 plain, 1 sulky, 2 saint, 3 priest, in a square.
  private static final String SQUARE =
      "person aa plain coins 10;person bb sulky coins 5;person cc saint coins 0;person dd priest coins 20;"
          + "lane aa bb 4;lane bb cc 3;lane aa dd 6;lane dd cc 2;"
          + "wrong aa to bb size 2;wrong bb to cc size 3;wrong cc to dd size 1;wrong dd to aa size 1;"
          + "walk aa to cc;walk bb to dd;";
  private static final String TWO = "person aa plain coins 99;person bb plain coins 99;lane aa bb 7;";
  private static final int[] NO_NUMBERS = {-1, -2, Integer.MIN_VALUE, Integer.MAX_VALUE, 256, 1 << 16, -256};

  public static void main(String[] args) {
    person();
    personNights();
    wrong();
    wrongSaid();
    lamps();
    darkOthers();
    darkLit();
    darkLeast();
    harm();
    sayOthers();
    sayLimits();
    giveOthers();
    givePurse();
    askOthers();
    askBar();
    askBurns();
    askRefused();
    night();
    heals();
    wordsAnew();
    undo();
    undoRing();
    undoWhat();
    judgedOthers();
    judgedLines();
    judgedBegin();
    marks();
    marksHold();
    marksHoldSights();
    counts();
    countsFull();
    check.end();
  }

  private static void person() {
    check.sentence(5, "NONE: others.");
    PardonLamps x = Check.in(SQUARE);
    for (int what = 0; what <= 2; what++) {
      check.due("the first", x.person(0, what) >= 0, true);
      check.due("the last", x.person(3, what) >= 0, true);
      check.due("behind the last", x.person(4, what), -1);
      for (int far : NO_NUMBERS) {
        check.due("person " + far, x.person(far, what), -1);
      }
    }
    check.due("what 3", x.person(0, 3), -1);
    for (int far : NO_NUMBERS) {
      check.due("what " + far, x.person(0, far), -1);
    }
    check.due("the sixth of six", Check.in(six()).person(5, 1), 5);
    check.due("the seventh of six", Check.in(six()).person(6, 1), -1);
    check.sentence(5, "KIND (0 plain, 1 sulky, 2 saint, 3 priest)");
    for (int p = 0; p < 4; p++) {
      check.due("kind of " + p, x.person(p, 0), p);
    }
  }

  private static String six() {
    StringBuilder b = new StringBuilder();
    for (int p = 0; p < 6; p++) {
      b.append("person p").append((char) ('a' + p)).append(" plain coins ").append(p).append(";");
    }
    return b.toString();
  }

  private static void personNights() {
    check.sentence(5, "2: how many NIGHTS his LAMP burns yet");
    PardonLamps x = Check.in(TWO + "wrong aa to bb size 1;burns 2;");
    int[] want = {2, 1, 0, 0};
    check.due("dark", x.person(1, 2), 0);
    x.ask(0);
    for (int nights : want) {
      check.due("nights", x.person(1, 2), nights);
      check.due("who did it has none", x.person(0, 2), 0);
      x.night();
    }
  }

  private static void wrong() {
    check.sentence(6, "NONE: others.");
    PardonLamps x = Check.in(SQUARE);
    for (int what = 0; what <= 6; what++) {
      check.due("the first", x.wrong(0, what) >= 0, true);
      check.due("the last", x.wrong(3, what) >= 0, true);
      check.due("behind the last", x.wrong(4, what), -1);
      for (int far : NO_NUMBERS) {
        check.due("wrong " + far, x.wrong(far, what), -1);
      }
    }
    check.due("what 7", x.wrong(0, 7), -1);
    for (int far : NO_NUMBERS) {
      check.due("what " + far, x.wrong(0, far), -1);
    }
    PardonLamps y = Check.in(TWO + "wrong aa to bb size 1;".repeat(8));
    check.due("the eighth", y.wrong(7, 2), 1);
    check.due("a ninth", y.wrong(8, 2), -1);
    check.sentence(6, "6: its bar");
    check.due("bar 3", x.wrong(0, 6), 3);
    check.due("a saint's", x.wrong(1, 6), 6);
    check.due("bar 0", Check.in(SQUARE + "bar 0;").wrong(2, 6), 0);
    check.due("bar 0, a saint's", Check.in(SQUARE + "bar 0;").wrong(1, 6), 3);
    check.due("bar 30, a saint's", Check.in(SQUARE + "bar 30;").wrong(1, 6), 33);
    check.sentence(6, "4: 1 forgiven");
    check.due("not yet", x.wrong(3, 4), 0);
    x.ask(3);
    check.due("forgiven", x.wrong(3, 4), 1);
    check.due("it alone", x.wrong(2, 4), 0);
  }

  private static void wrongSaid() {
    check.sentence(6, "5: 1 words were said since the last NIGHT");
    PardonLamps x = Check.in(SQUARE);
    check.due("at first", x.wrong(1, 5), 0);
    x.say(1);
    check.due("said", x.wrong(1, 5), 1);
    check.due("another one", x.wrong(0, 5), 0);
    x.night();
    check.due("a night since", x.wrong(1, 5), 0);
    x.say(3);
    x.ask(3);
    check.due("said, then forgiven", x.wrong(3, 5), 1);
    x.night();
    check.due("a night since", x.wrong(3, 5), 0);
  }

  private static void lamps() {
    check.sentence(7, "LAMPS that burn, as bits.");
    StringBuilder b = new StringBuilder(six());
    for (int p = 0; p < 6; p++) {
      b.append("wrong p").append((char) ('a' + (p + 1) % 6)).append(" to p").append((char) ('a' + p)).append(" size 1;");
    }
    PardonLamps x = Check.in(b + "burns 1;");
    check.due("none", x.lamps(), 0);
    int set = 0;
    for (int p = 5; p >= 0; p--) {
      x.ask(p);
      set |= 1 << p;
      check.due("down to " + p, x.lamps(), set);
    }
    x.night();
    check.due("all out", x.lamps(), 0);
    PardonLamps y = Check.in(TWO + "wrong aa to bb size 1;burns 0;");
    y.ask(0);
    check.due("a pardon of no night", y.lamps(), 0);
  }

  private static void darkOthers() {
    check.sentence(8, "NONE: others, the same, no WAY.");
    PardonLamps x = Check.in(SQUARE);
    for (int from = -1; from <= 4; from++) {
      for (int to = -1; to <= 4; to++) {
        boolean there = from >= 0 && from < 4 && to >= 0 && to < 4 && from != to;
        for (int what = -1; what <= 3; what++) {
          boolean due = there && what >= 0 && what <= 2;
          check.due("dark " + from + " " + to + " " + what, x.dark(from, to, what) >= 0, due);
          check.due("dark " + from + " " + to + " " + what, x.dark(from, to, what) == -1, !due);
        }
      }
    }
    x = Check.in(SQUARE);
    for (int far : NO_NUMBERS) {
      check.due("from " + far, x.dark(far, 0, 0), -1);
      check.due("to " + far, x.dark(0, far, 0), -1);
      check.due("what " + far, x.dark(0, 1, far), -1);
      check.due("the same " + far, x.dark(far, far, 0), -1);
    }
    PardonLamps y = Check.in(six() + "lane pa pb 1;lane pc pd 1;");
    for (int what = 0; what <= 2; what++) {
      check.due("no way", y.dark(0, 2, what), -1);
      check.due("no way", y.dark(5, 0, what), -1);
      check.due("a way", y.dark(2, 3, what) >= 0, true);
    }
  }

  private static void darkLit() {
    check.sentence(0, "A LANE is LIT if a LAMP burns at one of its ends.");
    PardonLamps x = Check.in("person aa plain coins 0;person bb plain coins 0;person cc plain coins 0;lane aa bb 4;lane bb cc 5;"
        + "wrong bb to aa size 1;wrong aa to bb size 1;wrong aa to cc size 1;burns 1;");
    check.due("none", x.dark(0, 2, 0), 9);
    x.ask(0);
    check.due("aa's", x.dark(0, 2, 0), 5);
    x.undo();
    x.ask(2);
    check.due("cc's", x.dark(0, 2, 0), 4);
    x.undo();
    x.ask(1);
    check.due("bb's at both", x.dark(0, 2, 0), 0);
    check.due("minutes of a lit way", x.dark(0, 2, 1), 9);
    x.night();
    check.due("out", x.dark(0, 2, 0), 9);
    check.sentence(0, "DARK of a WAY from one door to another: the minutes of its LANES that are not LIT");
    StringBuilder b = new StringBuilder(six());
    for (char p = 'a'; p < 'f'; p++) {
      b.append("lane p").append(p).append(" p").append((char) (p + 1)).append(" 30;");
    }
    PardonLamps y = Check.in(b.toString());
    check.due("the darkest of all", y.dark(0, 5, 0), 150);
    check.due("the longest of all", y.dark(5, 0, 1), 150);
    check.due("its first door", y.dark(5, 0, 2), 4);
  }

  private static void darkLeast() {
    String four = "person aa plain coins 0;person bb plain coins 0;person cc plain coins 0;person dd plain coins 0;";
    check.sentence(0, "the least DARK of all WAYS; of those the one of the fewest minutes");
    // By bb 1 dark of 31 minutes, by cc 2 dark of 2.
    PardonLamps x = Check.in(four + "lane aa bb 30;lane bb dd 1;lane aa cc 1;lane cc dd 1;wrong bb to aa size 1;burns 1;");
    check.due("2 dark", x.dark(0, 3, 0), 2);
    x.ask(0);
    check.due("aa lights one lane of each way: 1 dark", x.dark(0, 3, 0), 1);
    check.due("the shorter one", x.dark(0, 3, 1), 2);
    check.due("by cc", x.dark(0, 3, 2), 2);
    x = Check.in(four + "lane aa bb 30;lane bb dd 30;lane aa cc 1;lane cc dd 1;wrong aa to bb size 1;burns 1;");
    x.ask(0);
    check.due("the lit one", x.dark(0, 3, 0), 0);
    check.due("though it takes 60", x.dark(0, 3, 1), 60);
    check.due("by bb", x.dark(0, 3, 2), 1);
    check.sentence(0, "it leads from each door to the one with the least number by which it is so");
    x = Check.in(four + "lane aa cc 2;lane cc dd 2;lane aa bb 2;lane bb dd 2;lane aa dd 4;");
    check.due("bb, not cc, not dd itself", x.dark(0, 3, 2), 1);
    check.due("and back", x.dark(3, 0, 2), 0);
    x = Check.in(four + "lane aa cc 2;lane cc dd 2;lane aa bb 2;lane bb dd 3;lane aa dd 4;");
    check.due("bb is longer by one", x.dark(0, 3, 2), 2);
    x = Check.in(four + "lane aa cc 2;lane cc dd 3;lane aa bb 2;lane bb dd 3;lane aa dd 4;");
    check.due("dd itself", x.dark(0, 3, 2), 3);
  }

  private static void harm() {
    check.sentence(9, "HARM this NIGHT would do.");
    PardonLamps x = Check.in(SQUARE);
    check.due("7 + 5", x.harm(), 12);
    check.due("it is not done", x.count(6), 0);
    x.ask(3);
    check.due("with aa's last night", x.harm(), 2);
    x.night();
    check.due("without it", x.harm(), 12);
    check.sentence(0, "the least DARK of all walks together, 100 for one that has no WAY");
    check.due("no walk", Check.in(TWO).harm(), 0);
    check.due("no way", Check.in(six() + "walk pa to pb;").harm(), 100);
    check.due("four without a way", Check.in(six() + "walk pa to pb;walk pa to pc;walk pb to pa;walk pf to pa;").harm(), 400);
    check.due("one with, one without", Check.in(six() + "lane pa pb 9;walk pa to pb;walk pa to pc;").harm(), 109);
    StringBuilder b = new StringBuilder(six());
    for (char p = 'a'; p < 'f'; p++) {
      b.append("lane p").append(p).append(" p").append((char) (p + 1)).append(" 30;");
    }
    check.due("a way may be darker than none", Check.in(b + "walk pa to pf;walk pf to pa;").harm(), 300);
  }

  private static void sayOthers() {
    check.sentence(10, "NONE: others, it can't be.");
    PardonLamps x = Check.in(SQUARE);
    for (int far : NO_NUMBERS) {
      check.due("say " + far, x.say(far), -1);
    }
    check.due("behind the last", x.say(4), -1);
    check.due("nothing is done", x.count(10), 0);
    check.due("the last", x.say(3), 1);
    check.due("the first", x.say(0), 4);
    check.due("twice", x.say(0), -1);
    x.ask(2);
    String before = Picture.of(x);
    check.due("forgiven", x.say(2), -1);
    check.due("nothing is done", Picture.of(x), before);
    check.sentence(0, "words for a WRONG that is not forgiven, once each NIGHT");
    x = Check.in(SQUARE);
    check.due("once", x.say(1), 7);
    check.due("not twice", x.say(1), -1);
    check.due("not by a gift between", x.give(1, 1), 6);
    check.due("not twice", x.say(1), -1);
    x.night();
    check.due("the next night", x.say(1), 3);
  }

  private static void sayLimits() {
    check.sentence(0, "it is less SORE by the E of words (0 to 99; 0 at least)");
    String big = SQUARE + "wrong aa to bb size 9;";
    int[][] laws = {{0, 27}, {1, 26}, {26, 1}, {27, 0}, {28, 0}, {99, 0}, {100, 0}, {9999, 0}};
    for (int[] law : laws) {
      check.due("words " + law[0], Check.in(big + "words " + law[0] + ";").say(4), law[1]);
    }
    check.due("-1 is 0", Check.in(big + "words 0-1;").say(4), 27);
    check.due("-9999 is 0", Check.in(big + "words 0-9999;").say(4), 27);
    check.due("the least int is 0", Check.in(big + "words 4096*4096*128;").say(4), 27);
    check.due("the greatest int", Check.in(big + "words 4096*4096*128-1;").say(4), 0);
    PardonLamps x = Check.in(big + "words 99;heals 0-9;");
    for (int i = 0; i < 9; i++) {
      x.night();
    }
    check.due("99 sore", x.wrong(4, 3), 99);
    check.due("99 less", x.say(4), 0);
    x = Check.in(big + "words 98;heals 0-9;");
    for (int i = 0; i < 9; i++) {
      x.night();
    }
    check.due("98 less", x.say(4), 1);
    check.due("words of 0 are words", Check.in(big + "words 0;").say(0), 6);
  }

  private static void giveOthers() {
    check.sentence(11, "GIVE (1 to 99): likewise.");
    PardonLamps x = Check.in(TWO + "wrong aa to bb size 9;wrong bb to aa size 9;");
    check.due("0", x.give(0, 0), -1);
    check.due("100", x.give(0, 100), -1);
    for (int far : NO_NUMBERS) {
      check.due("coins " + far, x.give(0, far), -1);
      check.due("wrong " + far, x.give(far, 1), -1);
    }
    check.due("behind the last", x.give(2, 1), -1);
    check.due("nothing is done", x.count(10), 0);
    check.due("nothing is given", x.person(0, 1), 99);
    check.due("1", x.give(0, 1), 26);
    check.due("the last wrong", x.give(1, 2), 25);
    check.due("how sore it is then", x.give(0, 25), 1);
    x = Check.in("person aa plain coins 999;person bb plain coins 999;wrong aa to bb size 9;");
    check.due("100 of 999", x.give(0, 100), -1);
    check.due("99 of 999", x.give(0, 99), 0);
    check.due("900 are left", x.person(0, 1), 900);
    check.due("1098 are there", x.person(1, 1), 1098);
  }

  private static void givePurse() {
    check.sentence(0, "GIVE, if it is not forgiven and he has them");
    PardonLamps x = Check.in("person aa plain coins 5;person bb plain coins 0;wrong aa to bb size 4;wrong bb to aa size 1;");
    check.due("one too many", x.give(0, 6), -1);
    check.due("he has none", x.give(1, 1), -1);
    check.due("all of his", x.give(0, 5), 7);
    check.due("he has none", x.give(0, 1), -1);
    check.due("what he was given", x.give(1, 5), 0);
    check.due("and back again", x.give(0, 1), 6);
    x.ask(1);
    String before = Picture.of(x);
    check.due("forgiven", x.give(1, 1), -1);
    check.due("nothing is done", Picture.of(x), before);
    check.sentence(0, "it is as much less SORE (0 at least)");
    x = Check.in(TWO + "wrong aa to bb size 1;");
    check.due("just 0", x.give(0, 3), 0);
    check.due("0 stays", x.give(0, 1), 0);
    check.due("the coins are given", x.person(1, 1), 103);
    check.due("the coins are gone", x.person(0, 1), 95);
    x = Check.in(TWO + "wrong aa to bb size 1;");
    check.due("more than it is", x.give(0, 4), 0);
    x = Check.in(TWO + "wrong aa to bb size 1;");
    check.due("less than it is", x.give(0, 2), 1);
    check.due("gifts are no words", x.wrong(0, 5), 0);
  }

  private static void askOthers() {
    check.sentence(12, "NONE: others, it can't be.");
    PardonLamps x = Check.in(SQUARE);
    for (int far : NO_NUMBERS) {
      check.due("ask " + far, x.ask(far), -1);
    }
    check.due("behind the last", x.ask(4), -1);
    check.due("nothing is done", x.count(10), 0);
    check.due("the last", x.ask(3), 1);
    String before = Picture.of(x);
    check.due("forgiven already", x.ask(3), -1);
    check.due("nothing is done", Picture.of(x), before);
    check.due("the first", x.ask(0), 0);
    check.due("refused again", x.ask(0), 0);
    check.sentence(12, "1 it is forgiven, 0 refused");
    check.due("forgiven", x.ask(2), 1);
    check.due("refused", x.ask(1), 0);
  }

  private static void askBar() {
    check.sentence(0, "if it is no more SORE than the bar (a saint's is 3 more) it is forgiven");
    String kinds = "person aa plain coins 99;person bb plain coins 0;person cc sulky coins 0;person dd saint coins 0;"
        + "person ee priest coins 0;wrong aa to bb size 9;wrong aa to cc size 9;wrong aa to dd size 9;wrong aa to ee size 9;bar 10;";
    int[] bars = {10, 10, 13, 10};
    for (int w = 0; w < 4; w++) {
      PardonLamps x = Check.in(kinds);
      x.give(w, 27 - bars[w]);
      check.due("at the bar of " + w, x.ask(w), 1);
      check.due("it is as sore as before", x.wrong(w, 3), bars[w]);
      x = Check.in(kinds);
      x.give(w, 26 - bars[w]);
      check.due("one above the bar of " + w, x.ask(w), 0);
      x = Check.in(kinds);
      x.give(w, 28 - bars[w]);
      check.due("one below the bar of " + w, x.ask(w), 1);
    }
    String none = "person aa plain coins 99;person bb plain coins 0;person cc saint coins 0;wrong aa to bb size 1;"
        + "wrong aa to cc size 1;bar 0;";
    PardonLamps x = Check.in(none);
    check.due("3 above bar 0", x.ask(0), 0);
    check.due("3 at a saint's bar 3", x.ask(1), 1);
    x = Check.in(none);
    x.give(0, 2);
    check.due("1 above bar 0", x.ask(0), 0);
    x.give(0, 2);
    check.due("0 at bar 0", x.ask(0), 1);
    check.due("27 below bar 30", Check.in(TWO + "wrong aa to bb size 9;bar 30;").ask(0), 1);
  }

  private static int burning(String kind, String law) {
    PardonLamps x = Check.in("person aa plain coins 9;person bb " + kind + " coins 9;wrong aa to bb size 2;bar 30;burns " + law + ";");
    x.ask(0);
    return x.person(1, 2);
  }

  private static void askBurns() {
    check.sentence(0, "his LAMP burns by the E of burns (0 to 30; a priest's twice that) NIGHTS longer (99 at most)");
    int[][] laws = {{0, 0}, {1, 1}, {29, 29}, {30, 30}, {31, 30}, {99, 30}, {9999, 30}};
    for (int[] law : laws) {
      check.due("burns " + law[0], burning("plain", String.valueOf(law[0])), law[1]);
      check.due("a sulky one's " + law[0], burning("sulky", String.valueOf(law[0])), law[1]);
      check.due("a saint's " + law[0], burning("saint", String.valueOf(law[0])), law[1]);
      check.due("a priest's " + law[0], burning("priest", String.valueOf(law[0])), 2 * law[1]);
    }
    check.due("-1 is 0", burning("plain", "0-1"), 0);
    check.due("a priest's -1 is 0", burning("priest", "0-1"), 0);
    check.due("the least int is 0", burning("priest", "4096*4096*128"), 0);
    check.due("the greatest int is 30", burning("priest", "4096*4096*128-1"), 60);
    check.due("by how sore it is", burning("plain", "sore"), 6);
    // 30, 60, 90, 99, 99.
    PardonLamps x = Check.in(TWO + "wrong aa to bb size 1;".repeat(6) + "bar 30;burns 30;");
    int[] longer = {30, 60, 90, 99, 99};
    for (int w = 0; w < 5; w++) {
      x.ask(w);
      check.due("lamp behind " + w, x.person(1, 2), longer[w]);
    }
    x.night();
    check.due("98", x.person(1, 2), 98);
    check.due("asked", x.ask(5), 1);
    check.due("99 again", x.person(1, 2), 99);
    // 99 just: 3 * 30 + 9.
    x = Check.in(TWO + "wrong aa to bb size 9;wrong aa to bb size 8;wrong aa to bb size 8;wrong aa to bb size 8;bar 30;"
        + "burns (large=9)*9+(large=8)*30;");
    for (int w = 0; w < 4; w++) {
      x.ask(w);
    }
    check.due("99 just", x.person(1, 2), 99);
  }

  private static void askRefused() {
    check.sentence(0, "else it is one more SORE (a sulky one's two more), 99 at most");
    String[] kinds = {"plain", "sulky", "saint", "priest"};
    for (int k = 0; k < 4; k++) {
      PardonLamps x = Check.in("person aa plain coins 9;person bb " + kinds[k] + " coins 9;wrong aa to bb size 9;bar 5;");
      x.ask(0);
      check.due("a " + kinds[k] + " one's", x.wrong(0, 3), k == 1 ? 29 : 28);
      check.due("no lamp", x.lamps(), 0);
    }
    // 27 + 36 * 2 = 99 just; 28 + 35 * 2 = 98, then 99.
    PardonLamps x = Check.in("person aa plain coins 9;person bb sulky coins 9;wrong aa to bb size 9;bar 5;");
    for (int i = 0; i < 36; i++) {
      x.ask(0);
    }
    check.due("99", x.wrong(0, 3), 99);
    check.due("refused", x.ask(0), 0);
    check.due("99 yet", x.wrong(0, 3), 99);
    x.give(0, 1);
    check.due("refused", x.ask(0), 0);
    check.due("98 and two", x.wrong(0, 3), 99);
    x = Check.in("person aa plain coins 9;person bb plain coins 9;wrong aa to bb size 9;bar 5;");
    for (int i = 0; i < 71; i++) {
      x.ask(0);
    }
    check.due("98", x.wrong(0, 3), 98);
    x.ask(0);
    check.due("99", x.wrong(0, 3), 99);
    x.ask(0);
    check.due("99 yet", x.wrong(0, 3), 99);
  }

  private static void night() {
    check.sentence(13, "NIGHT: the HARM of it.");
    PardonLamps x = Check.in(SQUARE);
    check.due("all dark", x.night(), 12);
    x.ask(3);
    // Its HARM is that of the LAMPS as they burnt, ahead of their night less.
    check.due("with aa's last night", x.night(), 2);
    check.due("without it", x.night(), 12);
    check.due("no walk", Check.in(TWO).night(), 0);
    check.due("nobody", new PardonLamps().night(), 0);
    check.sentence(0, "HARM of this NIGHT is added");
    check.due("in all", x.count(6), 26);
    check.sentence(0, "each LAMP that burns has a NIGHT less");
    x = Check.in(TWO + "wrong aa to bb size 1;wrong bb to aa size 1;burns 1+2*nights;");
    x.ask(0);
    x.night();
    x.ask(1);
    check.due("0 does not go below", x.person(1, 2), 0);
    check.due("3", x.person(0, 2), 3);
    x.night();
    check.due("0", x.person(1, 2), 0);
    check.due("2", x.person(0, 2), 2);
    check.sentence(0, "a night more");
    check.due("two nights", x.count(4), 2);
  }

  private static int healed(String law) {
    PardonLamps x = Check.in(TWO + "wrong aa to bb size 4;heals " + law + ";");
    x.night();
    return x.wrong(0, 3);
  }

  private static void heals() {
    check.sentence(0, "each WRONG that is not forgiven is less SORE by the E of heals (-9 to 9; 0 to 99)");
    int[][] laws = {{0, 12}, {1, 11}, {8, 4}, {9, 3}, {10, 3}, {99, 3}, {9999, 3}};
    for (int[] law : laws) {
      check.due("heals " + law[0], healed(String.valueOf(law[0])), law[1]);
      check.due("heals -" + law[0], healed("0-" + law[0]), 24 - law[1]);
    }
    check.due("the least int", healed("4096*4096*128"), 21);
    check.due("the greatest int", healed("4096*4096*128-1"), 3);
    PardonLamps x = Check.in(TWO + "wrong aa to bb size 1;wrong aa to bb size 3;heals 2;bar 0;");
    int[] small = {1, 0, 0};
    for (int sore : small) {
      x.night();
      check.due("0 at least", x.wrong(0, 3), sore);
    }
    // 27 + 8 * 9 = 99 just.
    x = Check.in(TWO + "wrong aa to bb size 9;wrong aa to bb size 8;heals 0-9;bar 0;");
    for (int i = 0; i < 8; i++) {
      x.night();
    }
    check.due("99 just", x.wrong(0, 3), 99);
    check.due("96", x.wrong(1, 3), 96);
    x.night();
    check.due("99 at most", x.wrong(0, 3), 99);
    check.due("99 at most", x.wrong(1, 3), 99);
    x = Check.in(TWO + "wrong aa to bb size 1;");
    x.ask(0);
    x.night();
    check.due("a forgiven one stays as it is", x.wrong(0, 3), 3);
  }

  private static void wordsAnew() {
    check.sentence(0, "words may be said anew");
    PardonLamps x = Check.in(TWO + "wrong aa to bb size 9;wrong aa to bb size 9;heals 0;");
    x.say(0);
    x.say(1);
    check.due("not yet", x.say(0), -1);
    x.night();
    check.due("anew", x.say(0), 23);
    check.due("anew", x.say(1), 23);
    check.due("once", x.say(1), -1);
  }

  private static void undo() {
    check.sentence(14, "UNDO: true; false: nothing can be.");
    PardonLamps x = Check.in(SQUARE);
    String fresh = Picture.of(x);
    check.due("nothing at first", x.undo(), false);
    check.due("nothing is done by it", Picture.of(x), fresh);
    x.night();
    check.due("one", x.undo(), true);
    check.due("no more", x.undo(), false);
    check.sentence(0, "UNDO: all of these, the last 16, one by one.");
    // Each kind of deed, undone by itself, leaves all as it was.
    for (int deed = 0; deed < 5; deed++) {
      x = Check.in(SQUARE);
      x.say(1);
      x.ask(3);
      String before = Picture.of(x);
      int got = switch (deed) {
        case 0 -> x.say(0);
        case 1 -> x.give(0, 3);
        case 2 -> x.ask(2);
        case 3 -> x.ask(1);
        default -> x.night();
      };
      check.due("deed " + deed + " was done", got >= 0, true);
      check.due("it shows", Picture.of(x).equals(before), false);
      check.due("undone", x.undo(), true);
      check.due("all is as before deed " + deed, Picture.of(x), before);
    }
  }

  private static void undoRing() {
    check.sentence(0, "UNDO: all of these, the last 16, one by one.");
    for (int done = 15; done <= 35; done++) {
      PardonLamps x = new PardonLamps();
      for (int i = 0; i < done; i++) {
        x.night();
      }
      int can = Math.min(16, done);
      check.due("what can be undone of " + done, x.count(10), can);
      for (int i = 1; i <= can; i++) {
        check.due("undo " + i, x.undo(), true);
        check.due("the night", x.count(4), done - i);
        check.due("can be undone yet", x.count(10), can - i);
      }
      check.due("no more of " + done, x.undo(), false);
      check.due("the night stays", x.count(4), done - can);
    }
    // To and fro: what is undone makes room, and is gone.
    PardonLamps x = new PardonLamps();
    for (int i = 0; i < 16; i++) {
      x.night();
    }
    for (int i = 0; i < 10; i++) {
      x.undo();
    }
    check.due("six", x.count(10), 6);
    for (int i = 0; i < 10; i++) {
      x.night();
    }
    check.due("sixteen", x.count(10), 16);
    for (int i = 0; i < 16; i++) {
      check.due("undo", x.undo(), true);
    }
    check.due("back at night 0", x.count(4), 0);
    check.due("no more", x.undo(), false);
  }

  private static void undoWhat() {
    check.sentence(14, "UNDO: true; false: nothing can be.");
    PardonLamps x = Check.in(SQUARE);
    // What can't be, asks alone, sights, marks and texts are none of these.
    x.say(4);
    x.give(2, 1);
    x.give(0, 0);
    x.ask(-1);
    x.see(0, 0, true);
    x.mark(0, false);
    Picture.of(x);
    Check.year(x, "night;");
    Check.town(x, "bar 31;");
    check.due("nothing to undo", x.count(10), 0);
    check.due("nothing to undo", x.undo(), false);
    check.due("the sight is there", x.count(9), 1);
    check.due("the year is there", x.count(8), 1);
    x.ask(1);
    check.due("a refused ask is one", x.undo(), true);
    check.due("as sore as before", x.wrong(1, 3), 9);
    x.say(0);
    x.night();
    x.undo();
    check.due("words were said yet", x.say(0), -1);
    x.undo();
    check.due("they may be said", x.say(0), 4);
  }

  private static void judgedOthers() {
    check.sentence(15, "-2: others.");
    PardonLamps x = Check.in(SQUARE);
    check.due("3", x.judged(3), -2);
    for (int far : NO_NUMBERS) {
      check.due("what " + far, x.judged(far), -2);
    }
    check.due("without a town", new PardonLamps().judged(-1), -2);
    check.sentence(15, "what 0: the first line that can't be (NONE: all can)");
    check.due("no year", x.judged(0), -1);
    check.due("no year", x.judged(1), 0);
    check.due("no year", x.judged(2), 0);
    Check.year(x, "say 0;");
    check.due("all can", x.judged(0), -1);
    Check.year(x, "give 2 1;");
    check.due("line 0", x.judged(0), 0);
    Check.year(x, "night;".repeat(29) + "give 2 1;");
    check.due("line 29", x.judged(0), 29);
    Check.year(x, "night;".repeat(30));
    check.due("thirty that can", x.judged(0), -1);
    check.due("their harm", x.judged(2), 360);
    Check.year(x, "say 0;say 0;give 2 1;");
    check.due("the first of two", x.judged(0), 1);
  }

  private static void judgedLines() {
    check.sentence(0, "an ask that is refused is one that can be; night always can; lines that can't be are left out");
    PardonLamps x = Check.in(SQUARE);
    Check.year(x, "ask 1;ask 1;night;ask 0;");
    check.due("refused ones can be", x.judged(0), -1);
    check.due("none forgiven", x.judged(1), 0);
    Check.year(x, "ask 3;ask 3;");
    check.due("a forgiven one can't be asked for", x.judged(0), 1);
    Check.year(x, "ask 3;say 3;");
    check.due("nor said for", x.judged(0), 1);
    Check.year(x, "ask 3;give 3 1;");
    check.due("nor given for", x.judged(0), 1);
    Check.year(x, "say 1;night;say 1;");
    check.due("words anew", x.judged(0), -1);
    Check.year(x, "say 1;say 1;night;");
    check.due("words twice", x.judged(0), 1);
    check.due("the night behind it is done", x.judged(2), 12);
    Check.year(x, "give 0 10;give 1 15;");
    check.due("just his coins", x.judged(0), -1);
    Check.year(x, "give 0 10;give 1 16;");
    check.due("one coin too many", x.judged(0), 1);
    Check.year(x, "give 0 11;give 0 10;give 0 1;ask 0;");
    check.due("left out", x.judged(0), 0);
    check.due("what is behind it is done", x.judged(1), 1);
    check.sentence(15, "1: forgiven, 2: HARM");
    Check.year(x, "ask 2;ask 3;give 0 9;ask 0;night;");
    check.due("three", x.judged(1), 3);
    check.due("all is lit", x.judged(2), 0);
  }

  private static void judgedBegin() {
    check.sentence(0, "JUDGED: the YEAR from the begin");
    PardonLamps x = Check.in(SQUARE);
    Check.year(x, "say 0;ask 3;night;night;give 0 10;");
    x.ask(3);
    x.say(0);
    x.give(0, 10);
    x.night();
    x.see(0, 0, true);
    String before = Picture.of(x);
    check.due("all can", x.judged(0), -1);
    check.due("one", x.judged(1), 1);
    check.due("2 + 12", x.judged(2), 14);
    check.due("nothing is done by it", Picture.of(x), before);
    check.due("it can be undone", x.undo(), true);
    check.due("to night 0", x.count(4), 0);
  }

  private static void marks() {
    check.sentence(33, "false: none such, nothing is on it (back)");
    PardonLamps x = Check.in(SQUARE);
    check.due("4", x.mark(4, false), false);
    check.due("4 back", x.mark(4, true), false);
    for (int far : NO_NUMBERS) {
      check.due("mark " + far, x.mark(far, false), false);
      check.due("mark " + far + " back", x.mark(far, true), false);
    }
    for (int mark = 0; mark < 4; mark++) {
      check.due("nothing is on it", x.mark(mark, true), false);
    }
    for (int mark = 3; mark >= 0; mark--) {
      check.due("laid", x.mark(mark, false), true);
      check.due("back", x.mark(mark, true), true);
      for (int other = 0; other < mark; other++) {
        check.due("not yet", x.mark(other, true), false);
      }
    }
    x.night();
    String before = Picture.of(x);
    check.due("none such", x.mark(4, true), false);
    check.due("all stays", Picture.of(x), before);
    check.due("what can be undone stays", x.undo(), true);
    PardonLamps y = new PardonLamps();
    y.night();
    check.due("of nobody", y.mark(0, false), true);
    y.night();
    check.due("of nobody", y.mark(0, true), true);
    check.due("night 1", y.count(4), 1);
  }

  private static void marksHold() {
    check.sentence(0, "MARKS 0 to 3 hold the night, WRONGS, LAMPS, coins, HARM, SIGHTS");
    PardonLamps x = Check.in(SQUARE);
    x.say(0);
    x.give(0, 2);
    x.night();
    x.say(1);
    x.ask(3);
    x.see(0, 0, true);
    check.due("laid", x.mark(2, false), true);
    check.due("laying takes nothing away", x.count(10), 5);
    x.undo();
    x.ask(3);
    String held = Picture.of(x).replaceFirst("counts( \\S+){11}", "");
    x.ask(2);
    x.see(3, 1, true);
    x.give(1, 1);
    x.night();
    check.due("back", x.mark(2, true), true);
    check.due("all that it holds", Picture.of(x).replaceFirst("counts( \\S+){11}", ""), held);
    check.due("night", x.count(4), 1);
    check.due("harm", x.count(6), 12);
    check.due("sights", x.count(9), 1);
    check.due("said", x.say(1), -1);
    check.sentence(0, "(nothing can be undone when one is gone back to)");
    check.due("nothing", x.count(10), 0);
    check.due("nothing", x.undo(), false);
    x.night();
    check.due("but what is done then", x.undo(), true);
    check.due("no more", x.undo(), false);
    check.due("back to the same", x.mark(2, true), true);
    Check.year(x, "night;");
    x.mark(2, true);
    check.due("a year is not held", x.count(8), 1);
    check.sentence(33, "A MARK is laid (back: gone back to): true");
    x.night();
    check.due("laid anew", x.mark(2, false), true);
    x.night();
    x.mark(2, true);
    check.due("the newer one", x.count(4), 2);
  }

  private static void marksHoldSights() {
    check.sentence(0, "MARKS 0 to 3 hold the night, WRONGS, LAMPS, coins, HARM, SIGHTS");
    // Ripe are 2 (dd's lamp, 2 nights) and 3 (aa's lamp, 1 night): sights tell them apart.
    PardonLamps x = Check.in(SQUARE);
    x.mark(0, false);
    x.see(3, 1, true);
    x.see(0, 0, false);
    x.mark(1, false);
    x.mark(0, true);
    check.due("none", x.sets(0), 4);
    x.see(3, 0, false);
    x.see(0, 0, true);
    x.mark(2, false);
    int[][] want = {{0, 12}, {4, 4}, {8, 8}};
    int[] order = {1, 2, 0, 2, 1, 0};
    for (int mark : order) {
      check.due("back", x.mark(mark, true), true);
      check.due("in all by mark " + mark, x.sets(1), want[mark][0]);
      check.due("in some by mark " + mark, x.sets(2), want[mark][1]);
    }
    // The same LAMP, another NIGHT.
    x.see(3, 2, false);
    x.mark(1, false);
    x.mark(0, true);
    x.see(3, 1, false);
    x.mark(2, false);
    x.mark(1, true);
    check.due("out behind 2: all sets", x.sets(0), 4);
    x.mark(2, true);
    check.due("out behind 1: those without 2", x.sets(0), 2);
    x.mark(0, true);
    // All eight, each of its own.
    for (int i = 0; i < 8; i++) {
      x.see(i < 7 ? 1 : 3, i < 7 ? i : 1, i == 7);
    }
    x.mark(3, false);
    check.due("2 or both", x.sets(0), 2);
    x.mark(1, true);
    x.mark(3, true);
    check.due("eight", x.count(9), 8);
    check.due("2 or both", x.sets(1), 4);
    check.due("2 or both", x.sets(2), 12);
  }

  private static void counts() {
    check.sentence(34, "NONE for another what.");
    PardonLamps x = Check.in(SQUARE);
    check.due("0", x.count(0), 4);
    check.due("11", x.count(11), 0);
    check.due("12", x.count(12), -1);
    for (int far : NO_NUMBERS) {
      check.due("what " + far, x.count(far), -1);
    }
    check.sentence(34, "What 0: PEOPLE, 1: lanes, 2: WRONGS, 3: walks, 4: the night, 5: forgiven ones as bits, 6: HARM in all,"
        + " 7: coins of all, 8: lines of the YEAR, 9: SIGHTS, 10: what can be undone, 11: signs on the TAPE.");
    Check.year(x, "night;say 0;ask 0;");
    x.see(0, 0, true);
    x.night();
    x.night();
    x.ask(3);
    x.ask(2);
    x.give(0, 1);
    Check.feed(x, "bar 3; ");
    int[] want = {4, 4, 4, 2, 2, 12, 24, 35, 3, 1, 5, 7};
    for (int what = 0; what < 12; what++) {
      check.due("count " + what, x.count(what), want[what]);
    }
  }

  private static void countsFull() {
    check.sentence(34, "7: coins of all");
    PardonLamps x = Check.in(six().replaceAll("coins \\d", "coins 999"));
    check.due("six of 999", x.count(7), 5994);
    check.sentence(34, "5: forgiven ones as bits");
    x = Check.in(TWO + "wrong aa to bb size 1;".repeat(8));
    for (int w = 7; w >= 0; w--) {
      x.ask(w);
      check.due("down to " + w, x.count(5), 256 - (1 << w));
    }
    check.sentence(34, "9: SIGHTS");
    for (int i = 1; i <= 9; i++) {
      x.see(0, 0, true);
      check.due("sights", x.count(9), Math.min(8, i));
    }
    check.sentence(34, "8: lines of the YEAR");
    Check.year(x, "night;".repeat(30));
    check.due("thirty", x.count(8), 30);
    check.sentence(34, "6: HARM in all");
    PardonLamps y = Check.in("person aa plain coins 0;person bb plain coins 0;" + "walk aa to bb;".repeat(4));
    for (int i = 1; i <= 300; i++) {
      y.night();
    }
    check.due("300 nights of 400", y.count(6), 120000);
    check.due("300 nights", y.count(4), 300);
  }
}
