/** Promises 5 to 15, 33 and 34: what is, what is done by hand, undone, judged, marked, counted. */
final class HandTest {
  private static final Check check = new Check("HandTest");
  // Four kinds, a square with one lane across; 0 plain, 1 sulky, 2 saint, 3 priest.
  private static final String TOWN =
      "person aa plain coins 10; person bb sulky coins 5; person cc saint coins 0; person dd priest coins 20;"
          + "lane aa bb 4; lane bb cc 3; lane aa dd 6; lane dd cc 2; lane bb dd 9;"
          + "wrong aa to bb size 2; wrong bb to cc size 3; wrong cc to dd size 1; wrong dd to aa size 1;"
          + "walk aa to cc; walk bb to dd;";

  public static void main(String[] args) {
    person();
    wrong();
    dark();
    darkTies();
    harm();
    say();
    give();
    ask();
    night();
    lawsOfOneNight();
    undo();
    judged();
    marks();
    counts();
    check.end();
  }

  private static void person() {
    PardonLamps x = Check.in(TOWN);
    for (int p = 0; p < 4; p++) {
      check.due("kind of " + p, x.person(p, 0), p);
    }
    check.due("coins", x.person(3, 1), 20);
    check.due("dark", x.person(3, 2), 0);
    x.ask(2);
    check.due("a priest's lamp burns twice", x.person(3, 2), 2);
    check.due("another what", x.person(0, 3), -1);
    check.due("another what", x.person(0, -1), -1);
    check.due("another person", x.person(4, 0), -1);
    check.due("another person", x.person(-1, 0), -1);
    check.due("far", x.person(Integer.MIN_VALUE, Integer.MAX_VALUE), -1);
    check.due("lamps", x.lamps(), 8);
  }

  private static void wrong() {
    PardonLamps x = Check.in(TOWN);
    int[] want = {1, 2, 3, 9, 0, 0, 6};
    for (int what = 0; what < 7; what++) {
      check.due("wrong 1, " + what, x.wrong(1, what), want[what]);
    }
    check.due("another what", x.wrong(0, 7), -1);
    check.due("another what", x.wrong(0, -1), -1);
    check.due("another wrong", x.wrong(4, 0), -1);
    check.due("another wrong", x.wrong(-1, 0), -1);
    x.say(1);
    check.due("said", x.wrong(1, 5), 1);
    x.ask(3);
    check.due("forgiven", x.wrong(3, 4), 1);
    PardonLamps y = Check.in(TOWN + "bar 30;");
    check.due("bar", y.wrong(0, 6), 30);
    check.due("a saint's bar", y.wrong(1, 6), 33);
  }

  private static void dark() {
    PardonLamps x = Check.in(TOWN);
    check.due("dark", x.dark(0, 2, 0), 7);
    check.due("minutes", x.dark(0, 2, 1), 7);
    check.due("first door", x.dark(0, 2, 2), 1);
    x.ask(3);
    // The lamp before aa lights aa-bb and aa-dd: 3 dark by bb, 2 dark by dd although it is longer.
    check.due("dark", x.dark(0, 2, 0), 2);
    check.due("minutes", x.dark(0, 2, 1), 8);
    check.due("first door", x.dark(0, 2, 2), 3);
    check.due("the other way round", x.dark(2, 0, 2), 3);
    check.due("the same", x.dark(1, 1, 0), -1);
    check.due("another what", x.dark(0, 1, 3), -1);
    check.due("another what", x.dark(0, 1, -1), -1);
    check.due("others", x.dark(0, 4, 0), -1);
    check.due("others", x.dark(-1, 0, 0), -1);
    PardonLamps y = Check.in("person aa plain coins 1; person bb plain coins 1;");
    check.due("no way", y.dark(0, 1, 0), -1);
    check.due("no way", y.dark(0, 1, 2), -1);
  }

  private static void darkTies() {
    // Two ways from aa to dd, by bb and by cc, alike in all: the least door.
    String doors = "person aa plain coins 0; person bb plain coins 0; person cc plain coins 0; person dd plain coins 0;";
    PardonLamps x = Check.in(doors + "lane aa cc 2; lane cc dd 2; lane aa bb 1; lane bb dd 3;");
    check.due("least door", x.dark(0, 3, 2), 1);
    check.due("least door back", x.dark(3, 0, 2), 1);
    // The lane itself is as dark and as long: its end is the greater number.
    x = Check.in(doors + "lane aa dd 4; lane aa bb 1; lane bb dd 3;");
    check.due("least door", x.dark(0, 3, 2), 1);
    x = Check.in(doors + "lane dd aa 4; lane cc aa 3; lane dd cc 1;");
    check.due("the goal itself", x.dark(3, 0, 2), 0);
    // Equally dark, fewer minutes: all is lit by bb's lamp but the ways differ in length.
    x = Check.in(doors + "lane aa bb 9; lane bb dd 9; lane aa cc 8; lane cc dd 8; wrong aa to bb size 1;"
        + "wrong aa to cc size 1;");
    x.ask(0);
    check.due("lit way", x.dark(0, 3, 1), 18);
    check.due("lit way", x.dark(0, 3, 2), 1);
    x.ask(1);
    check.due("fewer minutes", x.dark(0, 3, 1), 16);
    check.due("fewer minutes", x.dark(0, 3, 2), 2);
  }

  private static void harm() {
    PardonLamps x = Check.in(TOWN);
    check.due("harm", x.harm(), 12);
    check.due("nothing is done by it", x.count(6), 0);
    PardonLamps y = Check.in("person aa plain coins 1; person bb plain coins 1; walk aa to bb; walk bb to aa;");
    check.due("without a way", y.harm(), 200);
    PardonLamps z = Check.in("person aa plain coins 1; person bb plain coins 1;");
    check.due("without a walk", z.harm(), 0);
  }

  private static void say() {
    PardonLamps x = Check.in(TOWN);
    check.due("say", x.say(1), 7);
    check.due("once a night", x.say(1), -1);
    check.due("another wrong", x.say(0), 4);
    x.night();
    check.due("anew", x.say(1), 4);
    check.due("others", x.say(4), -1);
    check.due("others", x.say(-1), -1);
    check.due("what can be undone", x.count(10), 4);
    x.ask(3);
    check.due("forgiven", x.say(3), -1);
    x = Check.in(TOWN + "words 100;");
    check.due("0 at least", x.say(1), 0);
    x = Check.in(TOWN + "words 0 - 5;");
    check.due("no more sore by words", x.say(1), 9);
    check.due("but said", x.wrong(1, 5), 1);
    x = Check.in(TOWN + "words sore * 100; heals 0 - 9;");
    for (int i = 0; i < 12; i++) {
      x.night();
    }
    check.due("99", x.wrong(1, 3), 99);
    check.due("99 less", x.say(1), 0);
  }

  private static void give() {
    PardonLamps x = Check.in(TOWN);
    check.due("give", x.give(0, 4), 2);
    check.due("his coins", x.person(0, 1), 6);
    check.due("whom he gave", x.person(1, 1), 9);
    check.due("more than it is sore", x.give(0, 5), 0);
    check.due("more than he has", x.give(0, 2), -1);
    check.due("just what he has", x.give(0, 1), 0);
    check.due("nothing left", x.give(0, 1), -1);
    check.due("none has none", x.give(2, 1), -1);
    check.due("0", x.give(1, 0), -1);
    check.due("100", x.give(3, 100), -1);
    check.due("-1", x.give(1, -1), -1);
    check.due("others", x.give(4, 1), -1);
    check.due("others", x.give(-1, 1), -1);
    check.due("coins that were given can be given", x.give(1, 15), 0);
    check.due("all coins", x.count(7), 35);
    x.ask(3);
    check.due("forgiven", x.give(3, 1), -1);
    PardonLamps y = Check.in("person aa plain coins 999; person bb plain coins 999; wrong aa to bb size 1;");
    check.due("99", y.give(0, 99), 0);
    check.due("beyond 999", y.person(1, 1), 1098);
  }

  private static void ask() {
    PardonLamps x = Check.in(TOWN);
    check.due("refused by a saint", x.ask(1), 0);
    check.due("one more sore", x.wrong(1, 3), 10);
    check.due("refused by a sulky one", x.ask(0), 0);
    check.due("two more sore", x.wrong(0, 3), 8);
    x.give(0, 4);
    check.due("one above the bar", x.ask(0), 0);
    check.due("sore", x.wrong(0, 3), 6);
    x.give(0, 3);
    check.due("at the bar", x.ask(0), 1);
    check.due("sore stays", x.wrong(0, 3), 3);
    check.due("forgiven", x.ask(0), -1);
    check.due("burns by its size", x.person(1, 2), 2);
    check.due("a priest", x.ask(2), 1);
    check.due("twice", x.person(3, 2), 2);
    x.give(1, 4);
    check.due("a saint's bar is 6", x.ask(1), 1);
    check.due("burns 3", x.person(2, 2), 3);
    check.due("others", x.ask(4), -1);
    check.due("others", x.ask(-1), -1);
    limitsOfAsking();
  }

  private static void limitsOfAsking() {
    String two = "person aa plain coins 9; person bb priest coins 9; person cc sulky coins 0; bar 30;";
    PardonLamps x = Check.in(two + "wrong aa to bb size 1; wrong aa to bb size 1; burns 31;");
    x.ask(0);
    check.due("30 at most, twice", x.person(1, 2), 60);
    x.ask(1);
    check.due("99 at most", x.person(1, 2), 99);
    x = Check.in(two + "wrong bb to aa size 1; burns 0 - 4;");
    check.due("pardoned for nothing", x.ask(0), 1);
    check.due("0 at least", x.person(0, 2), 0);
    check.due("dark", x.lamps(), 0);
    x = Check.in(two + "wrong bb to aa size 1; burns sore * 2 + nights;");
    x.night();
    x.ask(0);
    check.due("by how sore it is and the night", x.person(0, 2), 5);
    PardonLamps y = Check.in("person aa plain coins 9; person cc sulky coins 0; wrong aa to cc size 9; bar 0;");
    for (int i = 0; i < 40; i++) {
      y.ask(0);
    }
    check.due("99 at most", y.wrong(0, 3), 99);
    check.due("refused yet", y.ask(0), 0);
  }

  private static void night() {
    PardonLamps x = Check.in(TOWN);
    check.due("night", x.night(), 12);
    check.due("heals 1", x.wrong(1, 3), 8);
    x.ask(3);
    check.due("one lamp", x.lamps(), 1);
    // bb to dd goes by aa, all lit; of aa to cc dd-cc is dark.
    check.due("harm by it", x.night(), 2);
    check.due("it is out", x.lamps(), 0);
    check.due("harm in all", x.count(6), 14);
    check.due("two nights", x.count(4), 2);
    check.due("a forgiven one does not heal", x.wrong(3, 3), 2);
    PardonLamps y = new PardonLamps();
    check.due("a night of nobody", y.night(), 0);
    check.due("passes too", y.count(4), 1);
  }

  private static void lawsOfOneNight() {
    PardonLamps x = Check.in(TOWN + "heals 10;");
    x.night();
    check.due("9 at most", x.wrong(1, 3), 0);
    check.due("0 at least", x.wrong(0, 3), 0);
    x = Check.in(TOWN + "heals 0 - 99;");
    x.night();
    check.due("-9 at least", x.wrong(1, 3), 18);
    for (int i = 0; i < 12; i++) {
      x.night();
    }
    check.due("99 at most", x.wrong(1, 3), 99);
    // The night that heals is not counted yet: 0, then 1, then 2.
    x = Check.in(TOWN + "heals nights;");
    x.night();
    check.due("by 0", x.wrong(1, 3), 9);
    x.night();
    check.due("by 1", x.wrong(1, 3), 8);
    x.night();
    check.due("by 2", x.wrong(1, 3), 6);
    x = Check.in(TOWN + "words nights + 1; heals 0;");
    x.say(1);
    x.night();
    check.due("words by the night", x.say(1), 6);
    // Each wrong by its own facts.
    x = Check.in(TOWN + "heals large * (sore < 8);");
    x.night();
    check.due("6 of size 2", x.wrong(0, 3), 4);
    check.due("9 of size 3", x.wrong(1, 3), 9);
    check.due("3 of size 1", x.wrong(2, 3), 2);
  }

  private static void undo() {
    PardonLamps x = Check.in(TOWN);
    x.say(0);
    x.give(0, 2);
    x.ask(0);
    x.ask(3);
    x.night();
    check.due("five", x.count(10), 5);
    check.due("no more by what can't be", x.say(9), -1);
    check.due("five yet", x.count(10), 5);
    check.due("undo a night", x.undo(), true);
    check.due("night", x.count(4), 0);
    check.due("harm", x.count(6), 0);
    check.due("lamp", x.person(0, 2), 1);
    check.due("said", x.wrong(0, 5), 1);
    check.due("undo a pardon", x.undo(), true);
    check.due("dark", x.person(0, 2), 0);
    check.due("not forgiven", x.wrong(3, 4), 0);
    check.due("undo the other one", x.undo(), true);
    check.due("sore", x.wrong(0, 3), 2);
    check.due("undo a gift", x.undo(), true);
    check.due("coins", x.person(0, 1), 10);
    check.due("coins", x.person(1, 1), 5);
    check.due("sore", x.wrong(0, 3), 4);
    check.due("undo words", x.undo(), true);
    check.due("sore", x.wrong(0, 3), 6);
    check.due("not said", x.wrong(0, 5), 0);
    check.due("no more", x.undo(), false);
    for (int i = 0; i < 20; i++) {
      x.night();
    }
    check.due("16 at most", x.count(10), 16);
    for (int i = 0; i < 16; i++) {
      check.due("undo " + i, x.undo(), true);
    }
    check.due("not the 17th", x.undo(), false);
    check.due("four nights stay", x.count(4), 4);
    // A refusal is done, too.
    x.ask(1);
    check.due("a refusal", x.undo(), true);
    // Sights are not done by hand.
    x.see(0, 0, true);
    x.night();
    x.see(0, 1, true);
    x.undo();
    check.due("sights stay", x.count(9), 2);
  }

  private static void judged() {
    PardonLamps x = Check.in(TOWN);
    check.due("no year", x.judged(0), -1);
    check.due("no year", x.judged(1), 0);
    check.due("no year", x.judged(2), 0);
    Check.year(x, "ask 1; say 0; say 0; give 2 1; ask 3; ask 3; night; say 0; give 0 99; night; ask 2;");
    check.due("the first that can't be", x.judged(0), 2);
    check.due("forgiven", x.judged(1), 2);
    check.due("harm: 2 with aa's lamp, then 12", x.judged(2), 14);
    check.due("another what", x.judged(3), -2);
    check.due("another what", x.judged(-1), -2);
    x.give(0, 9);
    x.ask(0);
    x.night();
    check.due("from the begin", x.judged(0), 2);
    check.due("from the begin", x.judged(1), 2);
    check.due("from the begin", x.judged(2), 14);
    check.due("nothing is done by it", x.count(4), 1);
    check.due("nothing is done by it", x.count(5), 1);
    Check.year(x, "ask 1; ask 1; night; night;");
    check.due("refused ones can be", x.judged(0), -1);
    check.due("none forgiven", x.judged(1), 0);
    check.due("two dark nights", x.judged(2), 24);
    // The coins that line 0 would take are there yet, since it is left out.
    Check.year(x, "give 0 11; give 0 10; give 1 15; give 1 1;");
    check.due("left out", x.judged(0), 0);
    Check.year(x, "give 0 10; give 1 15; give 1 1;");
    check.due("coins that were given", x.judged(0), 2);
  }

  private static void marks() {
    PardonLamps x = Check.in(TOWN);
    check.due("nothing is on it", x.mark(0, true), false);
    check.due("none such", x.mark(4, false), false);
    check.due("none such", x.mark(-1, false), false);
    check.due("none such", x.mark(4, true), false);
    check.due("laid", x.mark(3, false), true);
    x.say(0);
    x.give(0, 1);
    x.ask(3);
    x.see(1, 1, true);
    x.night();
    check.due("laid", x.mark(0, false), true);
    check.due("laying undoes nothing", x.count(10), 4);
    check.due("back", x.mark(3, true), true);
    check.due("night", x.count(4), 0);
    check.due("sore", x.wrong(0, 3), 6);
    check.due("said", x.wrong(0, 5), 0);
    check.due("coins", x.person(0, 1), 10);
    check.due("lamps", x.lamps(), 0);
    check.due("forgiven", x.count(5), 0);
    check.due("harm", x.count(6), 0);
    check.due("sights", x.count(9), 0);
    check.due("nothing can be undone", x.count(10), 0);
    check.due("nothing can be undone", x.undo(), false);
    check.due("forth", x.mark(0, true), true);
    check.due("night", x.count(4), 1);
    check.due("sights", x.count(9), 1);
    check.due("harm", x.count(6), 2);
    check.due("coins", x.person(1, 1), 6);
    check.due("forgiven", x.count(5), 8);
    x.night();
    check.due("again", x.mark(0, true), true);
    check.due("night", x.count(4), 1);
    x.night();
    check.due("laid anew", x.mark(0, false), true);
    x.mark(3, true);
    x.mark(0, true);
    check.due("night", x.count(4), 2);
    check.due("mark 1 has nothing", x.mark(1, true), false);
    sightsOfMarks();
    // A year is not held.
    Check.year(x, "night;");
    x.mark(3, true);
    check.due("the year stays", x.count(8), 1);
  }

  private static void sightsOfMarks() {
    PardonLamps x = Check.in(TOWN);
    // Ripe are 2 (dd's lamp, 2 nights) and 3 (aa's lamp, 1 night).
    x.see(3, 1, true);
    x.see(0, 0, false);
    check.due("2 alone", x.sets(1), 4);
    check.due("2 alone", x.sets(2), 4);
    x.mark(1, false);
    x.mark(2, false);
    Check.town(x, TOWN);
    x.mark(1, false);
    x.see(3, 0, false);
    x.see(0, 0, true);
    check.due("3 alone", x.sets(1), 8);
    x.mark(2, false);
    x.mark(1, true);
    check.due("no sight", x.sets(0), 4);
    x.see(1, 5, true);
    check.due("no set", x.sets(0), 0);
    x.mark(2, true);
    check.due("3 alone", x.sets(0), 1);
    check.due("3 alone", x.sets(1), 8);
  }

  private static void counts() {
    PardonLamps x = Check.in(TOWN);
    Check.year(x, "night; say 0;");
    x.see(0, 0, true);
    x.see(0, 1, true);
    x.see(0, 2, true);
    x.night();
    x.ask(2);
    Check.feed(x, "bar 3 ; ");
    int[] want = {4, 5, 4, 2, 1, 4, 12, 35, 2, 3, 2, 8};
    for (int what = 0; what < 12; what++) {
      check.due("count " + what, x.count(what), want[what]);
    }
    check.due("another", x.count(12), -1);
    check.due("another", x.count(-1), -1);
    check.due("another", x.count(Integer.MIN_VALUE), -1);
  }
}
