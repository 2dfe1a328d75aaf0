/** Promises 27 to 29: SIGHTS, the sets that they leave, where to look next. */
final class SightTest {
  private static final Check check = new Check("SightTest");
  // To bb: 2 nights and 3 nights; to cc: 1 night; the fourth would be refused.
  private static final String TOWN =
      "person aa plain coins 9; person bb plain coins 9; person cc plain coins 9; bar 9;"
          + "wrong aa to bb size 2; wrong aa to bb size 3; wrong aa to cc size 1; wrong bb to aa size 9;";

  public static void main(String[] args) {
    see();
    sets();
    setsBySomeSights();
    look();
    lookAmongEqualOnes();
    fromNow();
    check.end();
  }

  private static void see() {
    PardonLamps x = Check.in(TOWN);
    check.due("another lamp", x.see(3, 0, true), false);
    check.due("another lamp", x.see(-1, 0, true), false);
    check.due("-1 nights", x.see(0, -1, true), false);
    check.due("10 nights", x.see(0, 10, false), false);
    check.due("none yet", x.count(9), 0);
    for (int i = 0; i < 8; i++) {
      check.due("sight " + i, x.see(i % 3, 9 - i, false), true);
    }
    check.due("8 there are", x.see(0, 9, false), false);
    check.due("8 there are", x.count(9), 8);
    check.due("nothing to undo", x.count(10), 0);
    check.due("nobody's lamp", new PardonLamps().see(0, 0, false), false);
  }

  private static void sets() {
    PardonLamps x = Check.in(TOWN);
    check.due("all sets of three", x.sets(0), 8);
    check.due("none in all", x.sets(1), 0);
    check.due("three in some", x.sets(2), 7);
    check.due("another what", x.sets(3), -1);
    check.due("another what", x.sets(-1), -1);
    x.see(1, 2, true);
    // bb burns behind 2 nights by 3 or by 5 nights.
    check.due("sets", x.sets(0), 4);
    check.due("1 in all", x.sets(1), 2);
    check.due("in some", x.sets(2), 7);
    x.see(1, 3, false);
    check.due("sets", x.sets(0), 2);
    check.due("1 in all", x.sets(1), 2);
    check.due("1, 2 in some", x.sets(2), 6);
    x.see(2, 0, true);
    check.due("sets", x.sets(0), 1);
    check.due("1, 2 in all", x.sets(1), 6);
    x.see(0, 0, true);
    check.due("no set", x.sets(0), 0);
    check.due("no set", x.sets(1), -1);
    check.due("no set", x.sets(2), -1);
    check.due("no look", x.look(), -1);
    check.due("nothing is done", x.count(5), 0);
    PardonLamps y = new PardonLamps();
    check.due("nobody: the empty set", y.sets(0), 1);
    check.due("nobody", y.sets(1), 0);
    check.due("nobody", y.sets(2), 0);
  }

  private static void setsBySomeSights() {
    PardonLamps x = Check.in(TOWN);
    x.see(1, 4, true);
    check.due("both at once", x.sets(0), 2);
    check.due("both at once", x.sets(1), 3);
    x = Check.in(TOWN);
    x.see(1, 0, true);
    x.see(1, 3, false);
    x.see(2, 0, false);
    check.due("one of both", x.sets(0), 2);
    check.due("none in both", x.sets(1), 0);
    check.due("each in some", x.sets(2), 3);
    x = Check.in(TOWN);
    x.see(1, 5, true);
    check.due("never so long", x.sets(0), 0);
    // 99 nights at most, a priest's twice, and by how sore it is now.
    x = Check.in("person aa plain coins 9; person bb priest coins 9; bar 9; wrong aa to bb size 1; wrong aa to bb size 2;"
        + "burns sore - 2;");
    x.see(1, 2, false);
    x.see(1, 1, true);
    check.due("twice 1", x.sets(1), 1);
    check.due("twice 1", x.sets(2), 1);
  }

  private static void look() {
    PardonLamps x = Check.in(TOWN);
    // bb at 0: 6 of 8 burn; at 2: 4 of 8; cc at 0: 4 of 8. The first of the even ones is bb at 2.
    check.due("look", x.look(), 12);
    x.see(1, 2, true);
    // Left: {1}, {0,1}, each with or without 2: bb at 3 parts them evenly.
    check.due("look", x.look(), 13);
    x.see(1, 3, false);
    check.due("look", x.look(), 20);
    x.see(2, 0, false);
    check.due("one set is left", x.look(), -1);
    check.due("nobody", new PardonLamps().look(), -1);
  }

  private static void lookAmongEqualOnes() {
    // Pardons that do not burn part nothing.
    PardonLamps x = Check.in("person aa plain coins 9; person bb plain coins 9; wrong aa to bb size 1; burns 0;");
    check.due("two sets", x.sets(0), 2);
    check.due("that look alike", x.look(), -1);
    // A lamp that burns already shows nothing until it would be out.
    x = Check.in("person aa plain coins 9; person bb plain coins 9; wrong aa to bb size 1; wrong aa to bb size 1; burns 4;");
    x.ask(0);
    check.due("behind 4 nights", x.look(), 14);
    // Longer than anybody looks.
    x = Check.in("person aa plain coins 9; person bb plain coins 9; wrong aa to bb size 1; wrong aa to bb size 1; burns 10;");
    x.ask(0);
    check.due("not within 9", x.look(), -1);
    x.night();
    check.due("behind 9", x.look(), 19);
  }

  private static void fromNow() {
    PardonLamps x = Check.in(TOWN);
    x.see(1, 2, true);
    check.due("before", x.sets(0), 4);
    x.ask(1);
    // Its lamp burns 3 nights already: so it is by all sets of the other two.
    check.due("by what was asked since", x.sets(0), 4);
    check.due("by what was asked since", x.sets(1), 0);
    x.night();
    // 2 nights are left: behind 2 it burns only with the other pardon.
    check.due("a night later", x.sets(0), 2);
    check.due("a night later", x.sets(1), 1);
    x = Check.in(TOWN);
    x.give(3, 9);
    for (int i = 0; i < 8; i++) {
      x.night();
    }
    check.due("10 sore yet", x.sets(2), 7);
    x.night();
    check.due("ripe by now", x.sets(2), 15);
    check.due("ripe by now", x.sets(0), 16);
  }
}
