/** Promises 1 to 4: a new object, feed, town, year; TOKENS, E and FAULTS. */
final class TellingTest {
  private static final String TWO = "person aa plain coins 7; person bb plain coins 8; ";
  private static final Check check = new Check("TellingTest");

  public static void main(String[] args) {
    newObject();
    feed();
    tape();
    tokens();
    townFaults();
    numbers();
    tooMany();
    namesThatAreWords();
    laws();
    lawFaults();
    yearFaults();
    whatATownClears();
    manyTowns();
    faultsLeaveAll();
    check.end();
  }

  private static void newObject() {
    PardonLamps x = new PardonLamps();
    for (int what = 0; what <= 11; what++) {
      check.due("count of a new object " + what, x.count(what), 0);
    }
    check.due("count(12)", x.count(12), -1);
    check.due("count(-1)", x.count(-1), -1);
    check.due("NONE", PardonLamps.NONE, -1);
    check.due("undo of nothing", x.undo(), false);
    check.due("middle of nobody", x.middle(), -1);
  }

  private static void feed() {
    PardonLamps x = new PardonLamps();
    check.due("feed of zeros", x.feed(0, 0, 0), 0);
    check.due("feed of others", x.feed(0x1F097F80FF0B0D00L, 0xFFFFFFFFFFFFFFFFL, 0x8000000000000000L), 0);
    check.due("feed of the edges", x.feed(0x0A207E0000000000L, 0, 0x41L), 4);
    check.due("count(11)", x.count(11), 4);
    // The highest byte comes first, a ahead of b ahead of c: "bar 7 ;" over all three.
    x = new PardonLamps();
    check.due("feed in order", x.feed(0x62L, 0x61000000000000L, 0x7220372000000000L), 6);
    check.due("feed the end", x.feed(0x3BL, 0, 0), 7);
    check.due("town of it", x.town(), 0);
    x = new PardonLamps();
    for (int i = 1; i <= 42; i++) {
      int got = x.feed(0x2020202020202020L, 0x2020202020202020L, 0x2020202020202020L);
      check.due("feed " + i, got, Math.min(1000, 24 * i));
    }
    check.due("feed beyond", x.feed(0x20L, 0, 0), 1000);
    check.due("blanks alone", x.town(), 0);
    check.due("tape taken", x.count(11), 0);
  }

  private static void tape() {
    PardonLamps x = new PardonLamps();
    check.due("the empty tape as a town", x.town(), 0);
    check.due("the empty tape as a year", x.year(), 0);
    check.due("a fault takes it too", Check.town(x, "x"), 1);
    check.due("then it is empty", x.count(11), 0);
    check.due("a year takes it too", Check.year(x, "   x"), 49);
    check.due("empty again", x.count(11), 0);
    // Signs of a longer text that was taken are not read again.
    check.due("bar 31", Check.town(x, "bar 31;"), 4 + 16 * 4);
    check.due("bar 3", Check.town(x, "bar 3"), 1 + 16 * 5);
    check.due("person ab", Check.town(x, "person abcd "), 1 + 16 * 12);
    check.due("person ab", Check.town(x, "person ab"), 1 + 16 * 9);
    // What is beyond 1,000 is left out, so the sign behind is not read.
    StringBuilder b = new StringBuilder();
    for (int i = 0; i < 1000; i++) {
      b.append(' ');
    }
    Check.feed(x, b + "!");
    check.due("nothing beyond", x.town(), 0);
  }

  private static void tokens() {
    fault("person abcdefgh plain coins 1;", 0);
    fault("person ^abcdefghi plain coins 1;", 1);
    fault("person aa plain coins 0999;", 0);
    fault("person aa plain coins ^00999;", 1);
    fault("person aa plain coins 9^person", 1);
    fault("person aa plain coins 9;person bb saint coins 8;lane aa bb9;", 0);
    fault("person aa\nplain\n\ncoins 1 ; ", 0);
    fault("^personaa ", 1);
    fault("person ^Aa plain", 1);
    fault("person ^1 plain", 1);
    fault("^; ", 1);
    fault("^_", 1);
    fault("person aa plain coins ^~1", 1);
    fault("bar 5 ^, ", 1);
    // The end is a token at the text's length, blanks and all.
    fault("bar 5^", 1);
    fault("bar 5  \n^", 1);
    fault("^", 0);
    // Words and numbers need no blanks between.
    fault("bar5;wind7;", 0);
  }

  private static void townFaults() {
    fault("person aa ^coins", 1);
    fault("person aa saint ^12", 1);
    fault("person aa plain ^person bb plain coins 1000;", 1);
    fault("person aa saint coins ^aa", 1);
    fault("person aa saint coins 1 ^person", 1);
    fault("person aa plain coins 1; person ^aa", 3);
    fault("lane ^aa", 2);
    fault("wrong ^aa to", 2);
    fault("walk ^aa to", 2);
    fault(TWO + "lane ^cc bb 4;", 2);
    fault(TWO + "lane aa ^cc 4;", 2);
    fault(TWO + "lane aa ^aa 4;", 3);
    fault(TWO + "lane aa bb 4; lane aa ^bb 4;", 3);
    fault(TWO + "lane aa bb 4; lane bb ^aa 4;", 3);
    fault(TWO + "lane aa ^to bb", 1);
    fault(TWO + "lane aa bb ^; ", 1);
    fault(TWO + "wrong aa ^bb", 1);
    fault(TWO + "wrong aa to ^cc", 2);
    fault(TWO + "wrong aa to ^aa", 3);
    fault(TWO + "wrong aa to bb ^1", 1);
    fault(TWO + "wrong aa to bb size ^; ", 1);
    fault(TWO + "walk aa to ^aa", 3);
    fault(TWO + "walk aa to ^dd", 2);
    fault(TWO + "walk aa to bb ^walk", 1);
    fault(TWO + "walk ^7", 1);
    fault("^say 0;", 1);
    fault("^coins 0;", 1);
    fault("bar 1; ^bar", 3);
    fault("wind 1; ^wind", 3);
    fault("words 1; ^words", 3);
    fault("heals 1; ^heals", 3);
    fault("burns 1; ^burns", 3);
    fault("bar 1; wind 2; words 1; heals 2; burns 3; ^bar", 3);
    fault("words 1; heals 2; bar 3; ^words", 3);
    fault("bar ^; ", 1);
    fault("wind ^sore", 1);
    // The first token that is wrong counts, not a worse one behind it.
    fault("person aa plain coins ^1000; ! person aa", 4);
  }

  private static void numbers() {
    fault("person aa plain coins 999;", 0);
    fault("person aa plain coins ^1000;", 4);
    fault("person aa plain coins 0;", 0);
    fault(TWO + "lane aa bb ^0;", 4);
    fault(TWO + "lane aa bb 1;", 0);
    fault(TWO + "lane aa bb 30;", 0);
    fault(TWO + "lane aa bb ^31;", 4);
    fault(TWO + "wrong aa to bb size ^0;", 4);
    fault(TWO + "wrong aa to bb size 9;", 0);
    fault(TWO + "wrong aa to bb size ^10;", 4);
    fault("bar 30;", 0);
    fault("bar ^31;", 4);
    fault("bar 0;", 0);
    fault("wind 10;", 0);
    fault("wind ^11;", 4);
    fault("words 9999; heals 0000;", 0);
    fault("words ^10000;", 1);
  }

  private static void tooMany() {
    StringBuilder six = new StringBuilder();
    for (int i = 0; i < 6; i++) {
      six.append("person p").append((char) ('a' + i)).append(" plain coins 1;");
    }
    fault(six.toString(), 0);
    fault(six + "^person pa", 5);
    StringBuilder eight = new StringBuilder(TWO);
    for (int i = 0; i < 8; i++) {
      eight.append(i % 2 == 0 ? "wrong aa to bb size 1;" : "wrong bb to aa size 1;");
    }
    fault(eight.toString(), 0);
    fault(eight + "^wrong cc", 5);
    StringBuilder four = new StringBuilder(TWO);
    for (int i = 0; i < 4; i++) {
      four.append("walk aa to bb;");
    }
    fault(four.toString(), 0);
    fault(four + "^walk", 5);
  }

  private static void namesThatAreWords() {
    String words = "person coins lane wrong to size walk bar wind words heals burns say give ask night"
        + " plain sulky saint priest not and or";
    for (String word : words.split(" ")) {
      fault("person ^" + word + " plain coins 1;", 1);
      fault(TWO + "lane aa ^" + word + " 1;", 1);
    }
    for (String word : "large sore nights town year kind a z orr no".split(" ")) {
      fault("person " + word + " plain coins 1; person bb plain coins 1; lane " + word + " bb 1;", 0);
    }
  }

  /** The worth of an E is read off as how much less SORE a WRONG of 27 is by words. */
  private static int worth(String law) {
    PardonLamps x = Check.in(TWO + "wrong aa to bb size 9; words " + law + ";");
    return 27 - x.say(0);
  }

  private static void laws() {
    check.due("1+2*3", worth("1+2*3"), 7);
    check.due("10-3-2", worth("10-3-2"), 5);
    check.due("(10-3)*2", worth("(10-3)*2"), 14);
    check.due("large", worth("large"), 9);
    check.due("sore - 7", worth("sore - 7"), 20);
    check.due("nights", worth("nights"), 0);
    check.due("nights+5", worth("nights+5"), 5);
    check.due("2<3", worth("2<3"), 1);
    check.due("3<3", worth("3<3"), 0);
    check.due("3=1+2", worth("3=1+2"), 1);
    check.due("(2<3)+(3=3)*4", worth("(2<3)+(3=3)*4"), 5);
    check.due("2+1<2*2", worth("2+1<2*2"), 1);
    check.due("not 0", worth("not 0"), 1);
    check.due("not 5", worth("not 5"), 0);
    check.due("not 0*7", worth("not 0*7"), 7);
    check.due("not not 7", worth("not not 7"), 1);
    check.due("not (1-1)+3", worth("not (1-1)+3"), 4);
    check.due("5 and 7", worth("5 and 7"), 1);
    check.due("5 and 0", worth("5 and 0"), 0);
    check.due("0 or 9", worth("0 or 9"), 1);
    check.due("0 or 0", worth("0 or 0"), 0);
    // From the left: neither of and, or comes first.
    check.due("1 or 1 and 0", worth("1 or 1 and 0"), 0);
    check.due("0 and 0 or 1", worth("0 and 0 or 1"), 1);
    check.due("1 or (1 and 0)", worth("1 or (1 and 0)"), 1);
    check.due("2<3 and 3<2", worth("2<3 and 3<2"), 0);
    check.due("((((4))))", worth("((((4))))"), 4);
    check.due("not(not(not(not 0)))-0", worth("not(not 0)"), 0);
    check.due("a difference below 0 is 0", worth("0-5"), 0);
    check.due("not (0-5)", worth("not (0-5)"), 0);
    check.due("a negative one is so", worth("(0-5) and 1"), 1);
    check.due("more than it is sore", worth("99"), 27);
    // Ints wrap: 9999^3 is 999700029999 = 232 * 2^32 + 3267762463 (mod 2^32), a negative int.
    check.due("9999*9999*9999 < 0", worth("9999*9999*9999 < 0"), 1);
    check.due("4096*4096*256 = 0", worth("4096*4096*256 = 0"), 1);
    check.due("4096*4096*128 wraps", worth("4096*4096*128 < 0"), 1);
    check.due("the default of words", worthOfDefault(), 2);
    longLaw();
    manyLongLaws();
  }

  private static int worthOfDefault() {
    PardonLamps x = Check.in(TWO + "wrong aa to bb size 9;");
    return 27 - x.say(0);
  }

  private static void longLaw() {
    StringBuilder law = new StringBuilder("0");
    int ones = 0;
    while (TWO.length() + 35 + law.length() + 2 < 1000) {
      law.append(ones % 40 < 20 ? "+1" : "-1");
      ones++;
    }
    int sum = 0;
    for (int i = 0; i < ones; i++) {
      sum += i % 40 < 20 ? 1 : -1;
    }
    check.due("a law as long as the tape", worth(law.toString()), sum);
  }

  private static void manyLongLaws() {
    PardonLamps x = new PardonLamps();
    StringBuilder law = new StringBuilder("0");
    for (int i = 0; i < 440; i++) {
      law.append("+1");
    }
    for (int i = 0; i < 8; i++) {
      check.due("long law " + i, Check.town(x, TWO + "wrong aa to bb size 9; words " + law + "-430;"), 0);
      check.due("its worth " + i, x.say(0), 17);
    }
  }

  private static void lawFaults() {
    fault("words ^; ", 1);
    fault("words ^aa", 1);
    fault("words ^+ 1", 1);
    fault("words ^- 1", 1);
    fault("words 1 ^2", 1);
    fault("words 1 + ^; ", 1);
    fault("words 1 ^)", 1);
    fault("words (1 ^; ", 1);
    fault("words (1^", 1);
    fault("words (^)", 1);
    fault("words 1 < 2 ^< 3", 1);
    fault("words 1 = 2 ^< 3", 1);
    fault("words 1 < 2 ^= 3", 1);
    fault("words 1 < 2 and 2 = 3 or 1 < 2;", 0);
    fault("words (1 < 2) < 3;", 0);
    fault("words 1 ^not 2", 1);
    fault("words 1 and ^and", 1);
    fault("words ^and 1", 1);
    fault("words 1 and not 2;", 0);
    fault("words not^", 1);
    fault("words not ^; ", 1);
    fault("words 1 < ^< 2", 1);
    fault("heals 1 * ^person", 1);
    fault("burns 1 ^burns", 1);
    // No PART lies within 5.
    fault("words ((((1))));", 0);
    fault("words (((((^1)))));", 5);
    fault("words (((((^(", 5);
    fault("words not not not not 1;", 0);
    fault("words not not not not not ^1;", 5);
    fault("words not not not not not ^not 1;", 5);
    fault("words not (not (not ^(large", 5);
    fault("words ((not (not ^sore", 5);
    fault("words ((not (sore^", 1);
    fault("words (((((^;", 1);
    fault("words not not not not not ^king", 1);
    fault("words not not not not not ^! ", 1);
    fault("words not not not not not^", 1);
    fault("words (((((^)", 1);
    // Beside one another they do not add up.
    fault("words not not not not 1 + not not not not 1 * ((((2))));", 0);
    fault("words ((((1)+(2)))) ;", 0);
    fault("words not ((not 1+2*((^3", 5);
  }

  private static void yearFaults() {
    PardonLamps x = Check.in(TWO + "wrong aa to bb size 1; wrong bb to aa size 2;");
    yearFault(x, "say 0; say 1; give 0 1; give 1 99; ask 1; night;", 0);
    check.due("lines", x.count(8), 6);
    yearFault(x, "say ^2;", 4);
    yearFault(x, "say ^; ", 1);
    yearFault(x, "say ^night", 1);
    yearFault(x, "give 0 ^0;", 4);
    yearFault(x, "give 0 ^100;", 4);
    yearFault(x, "give ^2 100;", 4);
    yearFault(x, "give 0 ^;", 1);
    yearFault(x, "ask ^9999;", 4);
    yearFault(x, "ask ^99999;", 1);
    yearFault(x, "ask 1 ^1;", 1);
    yearFault(x, "night ^0;", 1);
    yearFault(x, "night^", 1);
    yearFault(x, "^bar 1;", 1);
    yearFault(x, "^aa", 1);
    yearFault(x, "say 0; ^; ", 1);
    check.due("lines stay", x.count(8), 6);
    StringBuilder thirty = new StringBuilder();
    for (int i = 0; i < 30; i++) {
      thirty.append(i % 2 == 0 ? "night;" : "ask 0;");
    }
    yearFault(x, thirty.toString(), 0);
    check.due("thirty lines", x.count(8), 30);
    yearFault(x, thirty + "^night", 5);
    yearFault(x, thirty + "^give", 5);
    yearFault(x, thirty + "^walk", 1);
    yearFault(x, thirty + "^0", 1);
    yearFault(x, thirty + " ", 0);
    yearFault(x, "", 0);
    check.due("no lines", x.count(8), 0);
    yearFault(new PardonLamps(), "say ^0;", 4);
    yearFault(new PardonLamps(), "night; night;", 0);
  }

  private static void whatATownClears() {
    String text = TWO + "lane aa bb 5; wrong aa to bb size 1; wrong bb to aa size 3; walk aa to bb;";
    PardonLamps x = Check.in(text);
    Check.year(x, "night;");
    x.mark(2, false);
    x.see(0, 3, true);
    x.give(0, 2);
    x.ask(0);
    x.night();
    check.due("night", x.count(4), 1);
    check.due("undo there", x.count(10), 3);
    check.due("again", Check.town(x, text), 0);
    check.due("people", x.count(0), 2);
    check.due("lanes", x.count(1), 1);
    check.due("wrongs", x.count(2), 2);
    check.due("walks", x.count(3), 1);
    check.due("night 0", x.count(4), 0);
    check.due("none forgiven", x.count(5), 0);
    check.due("no harm", x.count(6), 0);
    check.due("coins", x.count(7), 15);
    check.due("his coins", x.person(0, 1), 7);
    check.due("no year", x.count(8), 0);
    check.due("no sight", x.count(9), 0);
    check.due("nothing to undo", x.count(10), 0);
    check.due("undo", x.undo(), false);
    check.due("no mark", x.mark(2, true), false);
    check.due("all dark", x.lamps(), 0);
    check.due("sore", x.wrong(0, 3), 3);
    check.due("sore", x.wrong(1, 3), 9);
    x.say(1);
    check.due("again", Check.town(x, text), 0);
    check.due("not said", x.wrong(1, 5), 0);
    // What was told once may be told in another town, and its defaults are back.
    check.due("bar 9", Check.town(x, TWO + "wrong aa to bb size 1; bar 9; words 5; wind 3;"), 0);
    check.due("bar", x.wrong(0, 6), 9);
    check.due("bar 3", Check.town(x, TWO + "wrong aa to bb size 4;"), 0);
    check.due("bar", x.wrong(0, 6), 3);
    check.due("words", x.say(0), 10);
    check.due("lanes gone", x.count(1), 0);
    check.due("no way", x.dark(0, 1, 0), -1);
    check.due("an empty town", Check.town(x, " "), 0);
    check.due("nobody", x.count(0), 0);
    check.due("no coins", x.count(7), 0);
  }

  /** Nothing of a town is left in the second and the third one behind it. */
  private static void manyTowns() {
    PardonLamps x = new PardonLamps();
    String rich = TWO + "lane aa bb 9; wrong aa to bb size 2; walk aa to bb; walk bb to aa; bar 9; wind 10; words 7;"
        + "heals 5; burns 4;";
    String plain = TWO + "person cc plain coins 0; lane aa cc 2; lane cc bb 3; wrong aa to cc size 1;"
        + "wrong aa to cc size 5;";
    for (int i = 0; i < 9; i++) {
      check.due("rich", Check.town(x, rich), 0);
      check.due("walks", x.count(3), 2);
      check.due("harm", x.harm(), 18);
      check.due("words", x.say(0), 0);
      x.ask(0);
      check.due("burns", x.person(1, 2), 4);
      check.due("wind", x.wind(0, 1), 0);
      for (int again = 0; again < 2; again++) {
        check.due("plain", Check.town(x, plain), 0);
        check.due("no walks", x.count(3), 0);
        check.due("lanes", x.count(1), 2);
        check.due("dark", x.dark(0, 1, 0), 5);
        check.due("words", x.say(1), 13);
        x.ask(0);
        check.due("burns", x.person(2, 2), 1);
        check.due("no wind", x.wind(0, 1), 1000000);
        x.night();
        check.due("heals", x.wrong(1, 3), 12);
      }
    }
  }

  private static void faultsLeaveAll() {
    PardonLamps x = Check.in(TWO + "wrong aa to bb size 2; lane aa bb 4; walk aa to bb; bar 4;");
    Check.year(x, "say 0; night;");
    x.say(0);
    x.see(1, 1, true);
    x.mark(0, false);
    x.night();
    check.due("a fault", Check.town(x, "person cc saint coins 5; bar 7; bar 8;"), 3 + 16 * 32);
    check.due("a fault of a year", Check.year(x, "ask 0; ask 1;"), 4 + 16 * 11);
    check.due("people", x.count(0), 2);
    check.due("bar", x.wrong(0, 6), 4);
    check.due("sore", x.wrong(0, 3), 3);
    check.due("night", x.count(4), 1);
    check.due("lines", x.count(8), 2);
    check.due("sights", x.count(9), 1);
    check.due("undo", x.count(10), 2);
    check.due("mark", x.mark(0, true), true);
    check.due("harm", x.harm(), 4);
  }

  private static void fault(String text, int kind) {
    check.fault(text, kind);
  }

  private static void yearFault(PardonLamps x, String text, int kind) {
    check.yearFault(x, text, kind);
  }
}
