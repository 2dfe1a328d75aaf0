/** The edges of promises 27 to 32, sentence by sentence: SIGHTS, SETS, LOOK, LAW, RESTS, YEARS. */
final class SightEdgesTest {
  private static final Check check = new Check("SightEdgesTest");
  private static final String TWO = "person aa plain coins 99;person bb plain coins 99;lane aa bb 7;";
  private static final int[] NO_NUMBERS = {-1, -2, Integer.MIN_VALUE, Integer.MAX_VALUE, 256, 1 << 16, -256};

  public static void main(String[] args) {
    seeOthers();
    seeEight();
    sightsFromNow();
    setsOthers();
    setsRefused();
    setsNights();
    setsInAllInSome();
    look();
    lookLeast();
    lookLimits();
    lawOthers();
    lawNights();
    lawMore();
    restsOthers();
    restsLosses();
    restsAll();
    yearsOthers();
    yearsDraws();
    yearsEnds();
    check.end();
  }

  private static String six() {
    StringBuilder b = new StringBuilder();
    for (char p = 'a'; p <= 'f'; p++) {
      b.append("person p").append(p).append(" plain coins 0;");
    }
    return b.toString();
  }

  private static void seeOthers() {
    check.sentence(27, "A SIGHT: true; false: others, 8 there are.");
    PardonLamps x = Check.in(TWO);
    check.due("behind the last", x.see(2, 0, true), false);
    check.due("10 nights", x.see(0, 10, true), false);
    for (int far : NO_NUMBERS) {
      check.due("lamp " + far, x.see(far, 0, true), false);
      check.due("nights " + far, x.see(0, far, false), false);
    }
    check.due("none is there", x.count(9), 0);
    check.due("the first", x.see(0, 0, false), true);
    check.due("the last, 9 nights", x.see(1, 9, false), true);
    check.due("two are there", x.count(9), 2);
    check.due("nobody", new PardonLamps().see(0, 0, false), false);
    check.due("the sixth", Check.in(six()).see(5, 9, true), true);
    check.due("a seventh", Check.in(six()).see(6, 9, true), false);
  }

  private static void seeEight() {
    check.sentence(0, "a LAMP would burn, or not; 8 at most");
    PardonLamps x = Check.in(TWO + "wrong aa to bb size 1;");
    for (int i = 0; i < 8; i++) {
      check.due("sight " + i, x.see(0, i, false), true);
    }
    check.due("a ninth", x.see(1, 0, true), false);
    check.due("eight", x.count(9), 8);
    check.due("the ninth does not count", x.sets(0), 2);
    x = Check.in(TWO + "wrong aa to bb size 1;");
    for (int i = 0; i < 7; i++) {
      x.see(0, 0, false);
    }
    check.due("two sets by seven", x.sets(0), 2);
    check.due("the eighth", x.see(1, 0, true), true);
    check.due("counts", x.sets(0), 1);
    check.due("a ninth", x.see(1, 0, false), false);
    check.due("one yet", x.sets(0), 1);
  }

  private static void sightsFromNow() {
    check.sentence(0, "that behind so many (0 to 9) NIGHTS from now, if nothing else is done then, a LAMP would burn, or not");
    // bb's lamp would burn 9 nights, or 10: behind 9 only the latter.
    String town = TWO + "wrong aa to bb size 1;wrong aa to bb size 2;bar 6;burns large+8;";
    for (int nights = 0; nights <= 9; nights++) {
      PardonLamps x = Check.in(town);
      x.see(1, nights, true);
      check.due("burns behind " + nights, x.sets(0), nights < 9 ? 3 : 2);
      x = Check.in(town);
      x.see(1, nights, false);
      check.due("is out behind " + nights, x.sets(0), nights < 9 ? 1 : 2);
    }
    PardonLamps x = Check.in(town);
    x.see(0, 0, false);
    check.due("aa's never burns", x.sets(0), 4);
    x.see(0, 0, true);
    check.due("it can't be both", x.sets(0), 0);
  }

  private static void setsOthers() {
    check.sentence(28, "NONE: others, no set (but 0).");
    PardonLamps x = Check.in(TWO + "wrong aa to bb size 1;");
    check.due("what 3", x.sets(3), -1);
    for (int far : NO_NUMBERS) {
      check.due("what " + far, x.sets(far), -1);
    }
    x.see(0, 0, true);
    check.due("no set: 0", x.sets(0), 0);
    check.due("no set", x.sets(1), -1);
    check.due("no set", x.sets(2), -1);
    check.due("without a wrong: the empty set", Check.in(TWO).sets(0), 1);
    check.due("without a wrong", Check.in(TWO).sets(1), 0);
    check.due("without a wrong", Check.in(TWO).sets(2), 0);
    check.due("nobody", new PardonLamps().sets(0), 1);
  }

  private static void setsRefused() {
    check.sentence(0, "somebody unknown asks for a set of WRONGS that would not be refused now, all at once");
    check.due("at the bar", Check.in(TWO + "wrong aa to bb size 2;bar 6;").sets(0), 2);
    check.due("one above", Check.in(TWO + "wrong aa to bb size 2;bar 5;").sets(0), 1);
    String saint = TWO.replace("bb plain", "bb saint");
    check.due("a saint's bar", Check.in(saint + "wrong aa to bb size 2;bar 3;").sets(0), 2);
    check.due("one above it", Check.in(saint + "wrong aa to bb size 2;bar 2;").sets(0), 1);
    PardonLamps x = Check.in(TWO + "wrong aa to bb size 1;".repeat(8));
    check.due("all sets of eight", x.sets(0), 256);
    check.due("none in all", x.sets(1), 0);
    check.due("each in some", x.sets(2), 255);
    x.ask(7);
    check.due("a forgiven one is in none", x.sets(0), 128);
    check.due("a forgiven one is in none", x.sets(2), 127);
    check.due("nothing is asked for", x.count(5), 128);
    // Not ripe now, though behind a night it would be.
    x = Check.in(TWO + "wrong aa to bb size 2;bar 5;");
    x.night();
    check.due("ripe by now", x.sets(0), 2);
  }

  private static void setsNights() {
    check.sentence(0, "SETS by which all SIGHTS are so: how many");
    PardonLamps x = Check.in("person aa plain coins 9;person bb priest coins 9;wrong aa to bb size 1;wrong aa to bb size 1;burns 5;");
    x.see(1, 9, true);
    check.due("a priest's ten nights", x.sets(0), 3);
    x = Check.in("person aa plain coins 9;person bb priest coins 9;wrong aa to bb size 1;wrong aa to bb size 1;burns 4;");
    x.see(1, 8, true);
    check.due("eight are not enough, sixteen are", x.sets(0), 1);
    check.due("both", x.sets(1), 3);
    // What burns already is so by all sets.
    x = Check.in(TWO + "wrong aa to bb size 1;wrong aa to bb size 1;burns 3;");
    x.ask(0);
    x.see(1, 2, true);
    check.due("by what burns already", x.sets(0), 2);
    x.see(1, 3, true);
    check.due("by the other one too", x.sets(0), 1);
    x.see(1, 6, false);
    check.due("not behind 6", x.sets(0), 1);
    x.see(1, 5, false);
    check.due("but behind 5", x.sets(0), 0);
    String before = Picture.of(x);
    x.sets(0);
    check.due("nothing is done", Picture.of(x), before);
  }

  private static void setsInAllInSome() {
    check.sentence(0, "those in all, in some (bits)");
    PardonLamps x = Check.in("person aa plain coins 9;person bb plain coins 9;person cc plain coins 9;"
        + "wrong aa to bb size 1;wrong aa to bb size 2;wrong aa to cc size 1;bar 6;");
    x.see(1, 0, true);
    check.due("0, 1 or both, with 2 or without", x.sets(0), 6);
    check.due("none in all", x.sets(1), 0);
    check.due("each in some", x.sets(2), 7);
    x.see(1, 1, true);
    check.due("1 in all", x.sets(1), 2);
    x.see(1, 2, false);
    check.due("0 in none", x.sets(2), 6);
    x.see(2, 0, false);
    check.due("1 alone", x.sets(2), 2);
    check.due("one set", x.sets(0), 1);
  }

  private static void look() {
    check.sentence(29, "LOOK, as LAMP * 10 + NIGHTS; NONE: none parts them.");
    check.due("nobody", new PardonLamps().look(), -1);
    check.due("no wrong", Check.in(TWO).look(), -1);
    check.due("none is ripe", Check.in(TWO + "wrong aa to bb size 9;").look(), -1);
    check.due("bb at 0", Check.in(TWO + "wrong aa to bb size 1;").look(), 10);
    check.due("aa at 0", Check.in(TWO + "wrong bb to aa size 1;").look(), 0);
    PardonLamps x = Check.in(six() + "wrong pa to pf size 1;".repeat(2) + "burns 9;");
    x.ask(0);
    check.due("the last lamp, the last night", x.look(), 59);
    x.see(5, 9, true);
    check.due("one set is left", x.sets(0), 1);
    check.due("none parts it", x.look(), -1);
    x.see(5, 9, false);
    check.due("no set is left", x.look(), -1);
    check.due("pardons of no night", Check.in(TWO + "wrong aa to bb size 1;burns 0;").look(), -1);
  }

  private static void lookLeast() {
    check.sentence(0, "for which the greater number of SETS by which it burns, or does not, is the least, if that is less than all");
    // To bb 1 and 3 nights: at 0 3 of 4 burn, at 1 and 2 2 of 4, at 3 1 of 4.
    PardonLamps x = Check.in(TWO + "wrong aa to bb size 1;wrong aa to bb size 3;bar 9;");
    check.due("at 1", x.look(), 11);
    // Three alike to bb: at 0 7 of 8, at 1 4 of 8, at 2 1 of 8.
    x = Check.in(TWO + "wrong aa to bb size 1;".repeat(3));
    check.due("at 1", x.look(), 11);
    // Two alike: at 0 3 of 4, at 1 1 of 4: both leave 3 at worst.
    x = Check.in(TWO + "wrong aa to bb size 1;".repeat(2));
    check.due("at 0", x.look(), 10);
    check.sentence(0, "LOOK: the LAMP and NIGHTS (by LAMPS, then NIGHTS)");
    x = Check.in(TWO + "wrong aa to bb size 2;wrong bb to aa size 2;bar 9;");
    check.due("aa's first night", x.look(), 0);
    x.see(0, 1, true);
    check.due("then bb's first night", x.look(), 10);
  }

  private static void lookLimits() {
    check.sentence(0, "of equal ones the first");
    PardonLamps x = Check.in(six() + "wrong pa to pf size 1;wrong pa to pe size 1;burns 9;");
    check.due("pe ahead of pf, 0 ahead of 8", x.look(), 40);
    check.sentence(0, "SIGHTS: that behind so many (0 to 9) NIGHTS from now");
    x = Check.in(TWO + "wrong aa to bb size 1;".repeat(2) + "burns 10;");
    x.ask(0);
    check.due("behind 10 nobody looks", x.look(), -1);
    x = Check.in(TWO + "wrong aa to bb size 1;".repeat(2) + "burns 9;");
    x.ask(0);
    check.due("behind 9 one does", x.look(), 19);
    String before = Picture.of(x);
    x.look();
    check.due("nothing is done", Picture.of(x), before);
  }

  private static void lawOthers() {
    check.sentence(30, "LAW; NONE: others.");
    PardonLamps x = Check.in(TWO + "walk aa to bb;wrong aa to bb size 1;");
    check.due("0 nights", x.law(0, 0), -1);
    check.due("1 night", x.law(1, 0), 0);
    check.due("30 nights", x.law(30, 0), 29 * 7);
    check.due("31 nights", x.law(31, 0), -1);
    check.due("-1 more", x.law(1, -1), -1);
    check.due("9 more", x.law(30, 9), 20 * 7);
    check.due("10 more", x.law(30, 10), -1);
    for (int far : NO_NUMBERS) {
      check.due("nights " + far, x.law(far, 0), -1);
      check.due("more " + far, x.law(1, far), -1);
    }
    check.due("nobody", new PardonLamps().law(30, 9), 0);
    check.due("nobody", new PardonLamps().law(31, 9), -1);
  }

  private static void lawNights() {
    check.sentence(0, "LAW: HARM of so many NIGHTS (1 to 30) from now");
    PardonLamps y = Check.in(TWO + "walk aa to bb;wrong aa to bb size 9;bar 0;");
    for (int nights = 0; nights <= 31; nights++) {
      // 27 sore: ripe behind 27 nights, lit for 9.
      int want = nights < 1 || nights > 30 ? -1 : 7 * Math.min(27, nights);
      check.due("law " + nights, y.law(nights, 0), want);
    }
    check.sentence(0, "each WRONG, by numbers, ahead of each NIGHT is asked for if that would not be refused");
    // 6, 5, 4, 3: three dark nights, then two lit ones.
    PardonLamps x = Check.in(TWO + "walk aa to bb;wrong aa to bb size 2;");
    int[] want = {7, 14, 21, 21, 21, 28};
    for (int nights = 1; nights <= 6; nights++) {
      check.due("law " + nights, x.law(nights, 0), want[nights - 1]);
    }
    // It is not asked for before: a sulky one would be sorer by it.
    x = Check.in(TWO.replace("bb plain", "bb sulky") + "walk aa to bb;wrong aa to bb size 2;");
    check.due("a sulky one", x.law(4, 0), 21);
    // It burns by how sore it is when it is asked for: 3 nights from the fourth on.
    x = Check.in(TWO + "walk aa to bb;wrong aa to bb size 2;burns sore;");
    check.due("lit until the sixth", x.law(6, 0), 21);
    check.due("dark in the seventh", x.law(7, 0), 28);
    x = Check.in(TWO + "walk aa to bb;wrong aa to bb size 1;wrong aa to bb size 1;burns 1;");
    check.due("both at once", x.law(2, 0), 0);
    x.night();
    check.due("of these alone", x.law(2, 0), 0);
    String before = Picture.of(x);
    x.law(30, 9);
    check.due("nothing is done", Picture.of(x), before);
    check.due("30 nights without a way", Check.in(six() + "walk pa to pb;walk pb to pc;walk pc to pa;walk pa to pd;").law(30, 0), 12000);
  }

  private static void lawMore() {
    check.sentence(0, "each pardon burning so many (0 to 9) NIGHTS more than told (0 ones, too)");
    PardonLamps x = Check.in(TWO + "walk aa to bb;wrong aa to bb size 1;burns 0;");
    check.due("0 and 0", x.law(10, 0), 70);
    check.due("0 and 1", x.law(10, 1), 63);
    check.due("0 and 9", x.law(10, 9), 7);
    x = Check.in(TWO + "walk aa to bb;wrong aa to bb size 1;burns 0-5;");
    check.due("below 0 is 0", x.law(10, 1), 63);
    x = Check.in(TWO + "walk aa to bb;wrong aa to bb size 1;burns 2;");
    check.due("2 and 0", x.law(10, 0), 56);
    check.due("2 and 3", x.law(10, 3), 35);
    x = Check.in(TWO + "walk aa to bb;wrong aa to bb size 1;wrong bb to aa size 1;wrong aa to bb size 1;burns 1;");
    check.due("each of two to bb", x.law(10, 2), 70 - 6 * 7);
    x = Check.in(TWO.replace("bb plain", "bb priest") + "walk aa to bb;wrong aa to bb size 1;burns 2;");
    check.due("a priest's 4 and 3", x.law(10, 3), 21);
    x = Check.in(TWO + "walk aa to bb;wrong aa to bb size 1;burns 21;");
    check.due("21 and 9", x.law(30, 9), 0);
    check.due("21 and 8", x.law(30, 8), 7);
  }

  private static void restsOthers() {
    check.sentence(31, "NoSuchElementException: others, none such.");
    PardonLamps x = new PardonLamps();
    for (int what = -1; what <= 0; what++) {
      check.dueNone(x, -1, 0, what);
      check.dueNone(x, 10, 0, what);
      check.dueNone(x, 0, -1, what);
      check.dueNone(x, 0, 10, what);
    }
    for (int far : NO_NUMBERS) {
      check.dueNone(x, far, 3, -1);
      check.dueNone(x, 3, far, 0);
      if (far != -1) {
        check.dueNone(x, 5, 3, far);
      }
    }
    check.due("0 and 0", x.rests(0, 0, -1), 4);
    check.due("9 and 9", x.rests(9, 9, -1), 3);
    check.due("the last of four", x.rests(0, 0, 3), 3);
    check.dueNone(x, 0, 0, 4);
    check.dueNone(x, 0, 1, 1);
    check.due("what NONE", x.rests(0, 1, PardonLamps.NONE), 1);
  }

  private static void restsLosses() {
    check.sentence(0, "each loses so much (0 to 9) by the dark; each who forgives loses so much (0 to 9) of pride");
    PardonLamps x = new PardonLamps();
    check.due("0, 0", x.rests(0, 0, 0), 0);
    check.due("9, 0", x.rests(9, 0, 0), 1);
    check.due("0, 9", x.rests(0, 9, 0), 0);
    check.due("9, 9", x.rests(9, 9, 2), 2);
    check.dueNone(x, 10, 9, -1);
    check.dueNone(x, 9, 10, -1);
    check.dueNone(x, -1, 0, -1);
    check.dueNone(x, 0, -1, -1);
    check.sentence(0, "it is light if one forgives: RESTS: by which neither would lose less by his other one");
    check.due("one below the dark: one forgives", x.rests(5, 4, -1), 2);
    check.due("as much as the dark: all but both", x.rests(5, 5, -1), 3);
    check.due("one above the dark: both keep", x.rests(5, 6, -1), 1);
    check.due("no pride: all but none", x.rests(1, 0, -1), 3);
  }

  private static void restsAll() {
    check.sentence(31, "i: the i-th as 2 * the first one's choice + the other one's (1 forgives; the least first)");
    PardonLamps x = new PardonLamps();
    // Both keep: rests if pride is no less than the dark. One forgives: if it is no more.
    // Both forgive: if pride is nothing.
    for (int dark = 0; dark <= 9; dark++) {
      for (int pride = 0; pride <= 9; pride++) {
        int found = 0;
        for (int choices = 0; choices < 4; choices++) {
          boolean rests = choices == 0 ? dark <= pride : choices == 3 ? pride == 0 : pride <= dark;
          if (rests) {
            check.due("rests " + dark + " " + pride + " " + found, x.rests(dark, pride, found), choices);
            found++;
          }
        }
        check.due("rests " + dark + " " + pride, x.rests(dark, pride, -1), found);
        check.dueNone(x, dark, pride, found);
        if (pride == 9) {
          x = new PardonLamps();
        }
      }
    }
  }

  private static void yearsOthers() {
    check.sentence(32, "YEARS by a SEED (0 to 9999), what 0: HARM, 1: forgiven, 2: NIGHTS of LAMPS; NONE: others.");
    PardonLamps x = Check.in(TWO + "walk aa to bb;wrong aa to bb size 1;");
    for (int what = 0; what <= 2; what++) {
      check.due("seed 0", x.years(0, 1, what) >= 0, true);
      check.due("seed 9999", x.years(9999, 100, what) >= 0, true);
      check.due("seed -1", x.years(-1, 1, what), -1);
      check.due("seed 10000", x.years(10000, 1, what), -1);
      check.due("0 nights", x.years(0, 0, what), -1);
      check.due("101 nights", x.years(0, 101, what), -1);
      for (int far : NO_NUMBERS) {
        check.due("nights " + far, x.years(0, far, what), -1);
      }
    }
    for (int far : new int[] {-2, Integer.MIN_VALUE, Integer.MAX_VALUE, 1 << 16}) {
      check.due("seed " + far, x.years(far, 1, 0), -1);
      check.due("what " + far, x.years(0, 1, far), -1);
    }
    check.due("what -1", x.years(0, 1, -1), -1);
    check.due("what 3", x.years(0, 1, 3), -1);
    check.sentence(0, "YEARS by a SEED of so many nights (1 to 100)");
    x = Check.in(TWO + "walk aa to bb;");
    for (int nights = 0; nights <= 101; nights++) {
      check.due("years of " + nights, x.years(1, nights, 0), nights < 1 || nights > 100 ? -1 : 7 * nights);
    }
  }

  /** The same by hand, with draws by the document's words, on an object of its own. */
  private static int[] byHand(String town, int seed, int nights) {
    PardonLamps x = Check.in(town);
    long g = seed;
    for (int i = 0; i < nights; i++) {
      g = (g * 1103515245L + 12345L) % 2147483648L;
      int wrong = (int) (g / 65536L % x.count(2));
      g = (g * 1103515245L + 12345L) % 2147483648L;
      switch ((int) (g / 65536L % 3)) {
        case 0 -> x.say(wrong);
        case 1 -> x.give(wrong, 1);
        default -> x.ask(wrong);
      }
      x.night();
    }
    int lampNights = 0;
    for (int p = 0; p < x.count(0); p++) {
      lampNights += x.person(p, 2);
    }
    return new int[] {x.count(6), Integer.bitCount(x.count(5)), lampNights};
  }

  private static void yearsDraws() {
    check.sentence(0, "g becomes (g * 1103515245 + 12345) modulo 2147483648 (g is the SEED at first); it is g / 65536, cut, modulo m");
    String wrongs = "wrong aa to bb size 1;wrong bb to aa size 2;wrong aa to bb size 4;wrong bb to aa size 3;wrong aa to bb size 9;";
    int[] seeds = {0, 1, 2, 3, 4, 5, 100, 4321, 9998, 9999};
    int[] lengths = {1, 2, 17, 99, 100};
    for (int many = 1; many <= 5; many++) {
      String town = TWO.replace("99", "9") + "walk aa to bb;" + wrongs.substring(0, 22 * many) + "burns 30;";
      for (int seed : seeds) {
        for (int nights : lengths) {
          int[] want = byHand(town, seed, nights);
          PardonLamps x = Check.in(town);
          for (int what = 0; what < 3; what++) {
            check.due(many + " wrongs, years " + seed + " " + nights + " " + what, x.years(seed, nights, what), want[what]);
          }
        }
      }
    }
    // One wrong, one night, by hand: seed 0 draws 12345 (0), then 1406932606 / 65536 = 21468, modulo 3 = 0: words.
    PardonLamps x = Check.in(TWO + "walk aa to bb;wrong aa to bb size 1;");
    check.due("words: not forgiven", x.years(0, 1, 1), 0);
    check.due("words: dark", x.years(0, 1, 0), 7);
  }

  private static void yearsEnds() {
    check.sentence(0, "from now on (all is as ahead then)");
    PardonLamps x = Check.in(TWO + "walk aa to bb;wrong aa to bb size 1;wrong aa to bb size 9;burns 30;");
    x.ask(0);
    x.night();
    x.see(0, 0, true);
    String before = Picture.of(x);
    check.due("29 nights are lit yet", x.years(5, 29, 0), 0);
    check.due("its lamp burns yet", x.years(5, 28, 2) >= 1, true);
    check.due("forgiven before", x.years(5, 1, 1), 1);
    check.due("all is as ahead", Picture.of(x), before);
    check.due("the night can be undone", x.undo(), true);
    check.sentence(0, "each, if there are WRONGS");
    x = Check.in(six() + "walk pa to pb;");
    check.due("none: 100 nights", x.years(1, 100, 0), 10000);
    check.due("none", x.years(1, 100, 1), 0);
    check.due("none", x.years(1, 100, 2), 0);
    check.due("nobody", new PardonLamps().years(9999, 100, 0), 0);
    check.sentence(0, "HARM by these; how many are forgiven at last; NIGHTS of all LAMPS together at last");
    x = Check.in(TWO + "walk aa to bb;wrong aa to bb size 9;bar 0;");
    x.night();
    x.night();
    check.due("harm in all", x.count(6), 14);
    check.due("by these alone", x.years(3, 1, 0), 7);
    check.due("by these alone", x.years(3, 5, 0), 35);
    check.sentence(0, "1: a coin is given, 2: it is asked for, if that can be");
    yearsByDeeds("12", "coins 1", 2, 1);
    yearsByDeeds("12", "coins 0", 2, 0);
    yearsByDeeds("112", "coins 2", 1, 1);
    yearsByDeeds("112", "coins 1", 1, 0);
    yearsByDeeds("2", "coins 0", 3, 1);
    yearsByDeeds("2", "coins 0", 2, 0);
    yearsByDeeds("22", "coins 0", 3, 1);
    yearsByDeeds("02", "coins 9", 2, 0);
    // Nobody has a coin: a draw of 1 does nothing; bar 2 is never reached without words or healing.
    x = Check.in("person aa plain coins 0;person bb plain coins 0;wrong aa to bb size 1;bar 2;words 0;heals 0;");
    check.due("never forgiven", x.years(7, 100, 1), 0);
    x = Check.in("person aa plain coins 99;person bb plain coins 0;wrong aa to bb size 1;bar 30;words 0;heals 0;");
    check.due("forgiven once", x.years(7, 100, 1), 1);
  }

  /** By the first seed that draws these deeds for one wrong, 3 sore, of which words and nights heal nothing. */
  private static void yearsByDeeds(String deeds, String coins, int bar, int want) {
    int seed = 0;
    while (seed < 9999 && !deeds(seed, deeds.length()).equals(deeds)) {
      seed++;
    }
    PardonLamps x = Check.in("person aa plain " + coins + ";person bb plain coins 0;wrong aa to bb size 1;bar " + bar
        + ";words 0;heals 0;");
    check.due(deeds + " with " + coins + ", bar " + bar, x.years(seed, deeds.length(), 1), want);
  }

  private static String deeds(int seed, int nights) {
    StringBuilder b = new StringBuilder();
    long g = seed;
    for (int i = 0; i < nights; i++) {
      g = (g * 1103515245L + 12345L) % 2147483648L;
      g = (g * 1103515245L + 12345L) % 2147483648L;
      b.append(g / 65536L % 3);
    }
    return b.toString();
  }
}
