/** Promises 16 to 26: coins, asks, grudges, what would come, the round, circles, lamps, wind. */
final class PlanTest {
  private static final Check check = new Check("PlanTest");
  private static final String FOUR =
      "person aa plain coins 10; person bb plain coins 5; person cc saint coins 0; person dd priest coins 20;";

  public static void main(String[] args) {
    pay();
    payByOnePurse();
    payByBurning();
    when();
    whenRows();
    grudges();
    ripe();
    price();
    stays();
    middle();
    round();
    roundTies();
    circle();
    need();
    wind();
    check.end();
  }

  private static void pay() {
    // aa - bb - cc in a row: bb's lamp lights both lanes.
    PardonLamps x = Check.in(FOUR + "lane aa bb 4; lane bb cc 3; wrong aa to bb size 3; wrong dd to bb size 2;"
        + "wrong bb to aa size 1; wrong bb to cc size 2;");
    check.due("aa's and cc's lamps cost nothing", x.pay(0, 2, 0), 0);
    check.due("aa's and cc's lamps", x.pay(0, 2, 1), 12);
    check.due("one lamp", x.pay(0, 1, 1), 4);
    check.due("cc's bar is 6", x.pay(1, 2, 1), 8);
    check.due("no way", x.pay(0, 3, 0), -1);
    check.due("no way", x.pay(0, 3, 1), -1);
    check.due("the same", x.pay(0, 0, 0), -1);
    check.due("others", x.pay(0, 4, 0), -1);
    check.due("others", x.pay(-1, 0, 0), -1);
    check.due("another what", x.pay(0, 1, 2), -1);
    check.due("another what", x.pay(0, 1, -1), -1);
    x.ask(2);
    check.due("lit already", x.pay(0, 1, 0), 0);
    check.due("by no wrong", x.pay(0, 1, 1), 0);
    x.night();
    check.due("a forgiven one is none", x.pay(0, 1, 0), 2);
    check.due("dd's costs 2", x.pay(0, 1, 1), 2);
    check.due("nothing is given", x.person(3, 1), 20);
  }

  private static void payByOnePurse() {
    String town = "person aa plain coins 5; person bb plain coins 0; person cc plain coins 0; person dd plain coins 0;"
        + "lane bb dd 1; lane dd cc 1; wrong aa to bb size 2; wrong aa to cc size 2;";
    // Each costs 3, both 6, and aa has 5; what bb is given does not help either.
    PardonLamps x = Check.in(town);
    check.due("not for both", x.pay(1, 2, 0), -1);
    check.due("for one", x.pay(1, 3, 0), 3);
    x.night();
    check.due("2 each", x.pay(1, 2, 0), 4);
    check.due("both", x.pay(1, 2, 1), 3);
    x = Check.in(town + "wrong bb to dd size 2;");
    check.due("bb has no coins", x.pay(1, 2, 0), -1);
    x.give(0, 3);
    check.due("bb has them now", x.pay(1, 2, 0), 3);
    check.due("dd's lamp is enough", x.pay(1, 2, 1), 4);
    x = Check.in("person aa plain coins 9; person bb plain coins 9; lane aa bb 1;"
        + "wrong aa to bb size 2; wrong bb to aa size 2;");
    check.due("of equal ones the least set", x.pay(0, 1, 1), 1);
  }

  private static void payByBurning() {
    String two = "person aa plain coins 99; person bb plain coins 99; lane aa bb 1; wrong aa to bb size 2;";
    PardonLamps x = Check.in(two + "burns 0;");
    check.due("a pardon that does not burn", x.pay(0, 1, 0), -1);
    // Behind the gift it is as sore as the bar, so this law burns.
    x = Check.in(two + "burns sore = 3;");
    check.due("burns by how sore it is then", x.pay(0, 1, 0), 3);
    x = Check.in(two + "burns sore = 6;");
    check.due("not by how sore it is now", x.pay(0, 1, 0), -1);
  }

  private static void when() {
    PardonLamps x = Check.in(FOUR + "lane aa bb 4; walk aa to bb; wrong bb to aa size 1; wrong aa to bb size 1;");
    check.due("lit for a night", x.when(1, 0), 0);
    check.due("by the first", x.when(1, 1), 0);
    check.due("for two nights", x.when(2, 0), 0);
    check.due("by both", x.when(2, 1), 0);
    check.due("by both", x.when(2, 2), 1);
    check.due("the third is dark", x.when(3, 0), 4);
    check.due("asks", x.when(3, 1), 0);
    check.due("asks", x.when(3, 2), 1);
    check.due("none is left to ask", x.when(3, 3), -1);
    check.due("others", x.when(0, 0), -2);
    check.due("others", x.when(4, 0), -2);
    check.due("others", x.when(3, 4), -2);
    check.due("others", x.when(1, 2), -2);
    check.due("others", x.when(1, -1), -2);
    check.due("nothing is done", x.count(10), 0);
    check.due("nothing is done", x.count(5), 0);
    x.night();
    check.due("harm so far does not count", x.when(1, 0), 0);
    PardonLamps y = Check.in("person aa plain coins 1; person bb plain coins 1; walk aa to bb;");
    check.due("without wrongs", y.when(3, 0), 300);
    check.due("without wrongs", y.when(3, 3), -1);
  }

  private static void whenRows() {
    // Harm is the same by all rows: the first is 0 0 0, refused each time; none comes last.
    PardonLamps x = Check.in("person aa plain coins 1; person bb plain coins 1; walk aa to bb; wrong aa to bb size 9;");
    check.due("300", x.when(3, 0), 300);
    check.due("a refused one", x.when(3, 1), 0);
    check.due("a refused one", x.when(3, 3), 0);
    // Forgiven ones can't be asked for again: 0 is ripe, so behind it 1 stands, then none.
    x = Check.in("person aa plain coins 1; person bb plain coins 1; walk aa to bb; wrong aa to bb size 1;");
    check.due("asked", x.when(2, 1), 0);
    check.due("forgiven then", x.when(2, 2), -1);
    // Asking too early makes it sorer: wait a night, then ask.
    x = Check.in("person aa plain coins 1; person bb plain coins 1; lane aa bb 5; walk aa to bb; wrong aa to bb size 2;"
        + "bar 5;");
    check.due("wait", x.when(2, 0), 5);
    check.due("wait", x.when(2, 1), -1);
    check.due("then ask", x.when(2, 2), 0);
    // A sulky one heals no faster than he sulks: 6, refused 8, 6 again.
    x = Check.in("person aa plain coins 1; person bb sulky coins 1; lane aa bb 5; walk aa to bb; wrong aa to bb size 2;"
        + "bar 5; heals 2;");
    check.due("6, 4: by waiting", x.when(2, 2), 0);
    check.due("6, 4: by waiting", x.when(2, 1), -1);
  }

  private static void grudges() {
    PardonLamps x = Check.in(FOUR + "wrong aa to bb size 1; wrong aa to cc size 1; wrong bb to aa size 1; wrong aa to bb size 5;");
    check.due("by aa", x.grudges(0, true), 11);
    check.due("to aa", x.grudges(0, false), 4);
    check.due("to bb", x.grudges(1, false), 9);
    check.due("by dd", x.grudges(3, true), 0);
    x.ask(0);
    check.due("less what is forgiven", x.grudges(0, true), 10);
    check.due("less what is forgiven", x.grudges(1, false), 8);
    check.due("others", x.grudges(4, true), -1);
    check.due("others", x.grudges(-1, false), -1);
  }

  private static void ripe() {
    PardonLamps x = Check.in(FOUR + "wrong aa to bb size 1; wrong aa to cc size 3; wrong aa to bb size 9;");
    check.due("now", x.ripe(0), 0);
    check.due("9 to 6", x.ripe(1), 3);
    check.due("27 to 3", x.ripe(2), 24);
    x.ask(0);
    check.due("forgiven", x.ripe(0), -1);
    check.due("others", x.ripe(3), -1);
    check.due("others", x.ripe(-1), -1);
    check.due("nothing is done", x.count(4), 0);
    x = Check.in(FOUR + "wrong aa to bb size 9; heals 0;");
    check.due("never", x.ripe(0), -1);
    // 24 nights from night 36 on heal it from 27 to 3.
    x = Check.in(FOUR + "wrong aa to bb size 9; heals not (nights < 36);");
    check.due("at 60", x.ripe(0), 60);
    x = Check.in(FOUR + "wrong aa to bb size 9; heals not (nights < 37);");
    check.due("not within 60", x.ripe(0), -1);
    x.night();
    check.due("from now", x.ripe(0), 60);
  }

  private static void price() {
    PardonLamps x = Check.in(FOUR + "wrong aa to bb size 9; wrong aa to cc size 9; wrong aa to bb size 1;");
    check.due("27 - 3", x.price(0, 0), 24);
    check.due("a saint's", x.price(1, 0), 21);
    check.due("words 2, heals 1", x.price(0, 1), 21);
    check.due("seven nights", x.price(0, 7), 3);
    check.due("eight nights", x.price(0, 8), 0);
    check.due("30 nights", x.price(0, 30), 0);
    check.due("nothing", x.price(2, 0), 0);
    check.due("-1 night", x.price(0, -1), -1);
    check.due("31 nights", x.price(0, 31), -1);
    check.due("others", x.price(3, 0), -1);
    check.due("others", x.price(-1, 0), -1);
    x.say(0);
    check.due("said already: 25 - 3", x.price(0, 0), 22);
    check.due("words can't be said in the first night", x.price(0, 1), 21);
    check.due("but in the second", x.price(0, 2), 18);
    x.ask(2);
    check.due("forgiven", x.price(2, 0), -1);
    x = Check.in(FOUR + "wrong aa to bb size 9; words nights; heals nights * 2;");
    check.due("by the nights: 27 - 3 - (0+0) - (1+2) - (2+4)", x.price(0, 3), 15);
    x.night();
    check.due("from now: 27 - 3 - (1+2) - (2+4) - (3+6)", x.price(0, 3), 6);
  }

  private static void stays() {
    PardonLamps x = Check.in(FOUR + "lane aa bb 1; lane bb cc 1; lane cc dd 1; wrong bb to aa size 4;"
        + "wrong aa to cc size 7; bar 30;");
    check.due("dark", x.stays(0, 1), 0);
    x.ask(0);
    x.ask(1);
    check.due("aa's 4", x.stays(0, 1), 4);
    check.due("cc's 7", x.stays(3, 1), 7);
    check.due("the first that goes out", x.stays(0, 3), 4);
    x.night();
    check.due("one less", x.stays(0, 1), 3);
    check.due("the same", x.stays(1, 1), -1);
    check.due("others", x.stays(0, 4), -1);
    check.due("others", x.stays(-1, 0), -1);
    StringBuilder b = new StringBuilder("person aa plain coins 0; person bb plain coins 0; lane aa bb 2; bar 30; burns 30;");
    for (int i = 0; i < 4; i++) {
      b.append("wrong aa to bb size 1;");
    }
    x = Check.in(b.toString());
    for (int i = 0; i < 4; i++) {
      x.ask(i);
    }
    check.due("99 at most", x.stays(0, 1), 99);
    check.due("nothing is done", x.count(4), 0);
    // Two lamps at one lane: it stays until both are out.
    x = Check.in("person aa plain coins 0; person bb plain coins 0; lane aa bb 2; bar 30;"
        + "wrong aa to bb size 3; wrong bb to aa size 5;");
    x.ask(0);
    x.ask(1);
    check.due("by one of both", x.stays(0, 1), 5);
  }

  private static void middle() {
    PardonLamps x = Check.in(FOUR + "lane aa bb 9; lane bb cc 1; lane cc dd 1; wrong bb to aa size 3; bar 9;");
    check.due("cc: 10 + 1 + 1; bb: 9 + 1 + 2", x.middle(), 1);
    x.ask(0);
    // aa-bb is lit: aa 0+1+2, bb 0+1+2, cc 1+1+1, dd 2+2+1.
    check.due("of equal ones the first", x.middle(), 0);
    x = Check.in(FOUR + "lane cc dd 30;");
    check.due("100 without a way", x.middle(), 2);
    x = Check.in("person aa plain coins 0;");
    check.due("alone", x.middle(), 0);
    check.due("nobody", new PardonLamps().middle(), -1);
  }

  private static void round() {
    PardonLamps x = Check.in(FOUR + "lane aa bb 4; lane bb cc 3; lane cc dd 2; lane aa dd 20;"
        + "wrong aa to cc size 1; wrong bb to cc size 2; wrong aa to cc size 3; wrong aa to dd size 1; wrong bb to aa size 1;");
    // Ripe: 0 and 1 to cc, 3 to dd, 4 to aa.
    check.due("at once", x.round(0, 0, 0), 1);
    check.due("at once", x.round(0, 0, 1), 0);
    check.due("at once", x.round(0, 0, 2), 1);
    check.due("not so far", x.round(0, 6, 0), 1);
    check.due("cc by bb", x.round(0, 7, 0), 3);
    check.due("cc by bb", x.round(0, 7, 1), 7);
    check.due("bb is none such", x.round(0, 8, 2), 5);
    check.due("dd too", x.round(0, 9, 0), 4);
    check.due("dd too", x.round(0, 200, 1), 9);
    check.due("all", x.round(0, 200, 2), 13);
    check.due("from bb: cc, dd", x.round(1, 5, 0), 3);
    check.due("from bb: cc, dd, not aa", x.round(1, 5, 2), 12);
    check.due("from bb: aa first", x.round(1, 200, 1), 13);
    check.due("nobody at bb", x.round(1, 2, 0), 0);
    check.due("nobody at bb", x.round(1, 2, 1), 0);
    check.due("nobody at bb", x.round(1, 2, 2), 0);
    check.due("others", x.round(0, -1, 0), -1);
    check.due("others", x.round(0, 201, 0), -1);
    check.due("others", x.round(4, 5, 0), -1);
    check.due("others", x.round(-1, 5, 0), -1);
    check.due("another what", x.round(0, 5, 3), -1);
    check.due("another what", x.round(0, 5, -1), -1);
    x.ask(0);
    check.due("a forgiven one is none, though cc is lit", x.round(0, 7, 0), 2);
    check.due("lit or not", x.round(0, 7, 1), 7);
  }

  private static void roundTies() {
    String town = "person aa plain coins 0; person bb plain coins 0; person cc plain coins 0; person dd plain coins 0;"
        + "wrong aa to bb size 1; wrong aa to cc size 1; wrong bb to dd size 1;";
    PardonLamps x = Check.in(town + "lane aa bb 5; lane aa cc 4; lane aa dd 4;");
    check.due("of equal ones the least minutes", x.round(0, 6, 1), 4);
    check.due("then the least set", x.round(0, 6, 2), 4);
    check.due("back by aa", x.round(0, 12, 1), 12);
    check.due("cc, dd", x.round(0, 12, 2), 12);
    check.due("all: 4 + 8 + 9", x.round(0, 200, 1), 21);
    x = Check.in(town + "lane aa dd 4;");
    check.due("those without a way are not reached", x.round(0, 200, 0), 1);
    check.due("those without a way are not reached", x.round(0, 200, 2), 8);
  }

  private static void circle() {
    PardonLamps x = Check.in(FOUR + "wrong aa to bb size 1; wrong bb to cc size 1; wrong cc to aa size 1;"
        + "wrong cc to dd size 1; wrong dd to cc size 1; wrong aa to bb size 1; wrong bb to aa size 2;");
    check.due("two, the least set", x.circle(), 16 + 8);
    x.ask(3);
    check.due("0 and 6", x.circle(), 1 + 64);
    x.ask(0);
    check.due("5 and 6", x.circle(), 32 + 64);
    x.give(6, 3);
    x.ask(6);
    check.due("1, 2 and 5", x.circle(), 2 + 4 + 32);
    x.ask(5);
    check.due("none", x.circle(), -1);
    check.due("nobody", new PardonLamps().circle(), -1);
    x = Check.in(FOUR + "wrong aa to bb size 1; wrong aa to bb size 1; wrong cc to bb size 1;");
    check.due("not by one way twice", x.circle(), -1);
    x = Check.in("person aa plain coins 1; person bb plain coins 1; person cc plain coins 1; person dd plain coins 1;"
        + "person ee plain coins 1; person ff plain coins 1; wrong aa to bb size 1; wrong bb to cc size 1;"
        + "wrong cc to dd size 1; wrong dd to ee size 1; wrong ee to ff size 1; wrong ff to aa size 1;");
    check.due("all six", x.circle(), 63);
  }

  private static void need() {
    PardonLamps x = Check.in(FOUR + "lane aa bb 1; lane bb cc 1; lane cc dd 1;");
    check.due("no walks", x.need(), 0);
    x = Check.in(FOUR + "lane aa bb 1; lane bb cc 1; lane cc dd 1; walk aa to bb;");
    check.due("the least set", x.need(), 1);
    x = Check.in(FOUR + "lane aa bb 1; lane bb cc 1; lane cc dd 1; walk aa to cc;");
    check.due("the one between", x.need(), 2);
    x = Check.in(FOUR + "lane aa bb 1; lane bb cc 1; lane cc dd 1; walk dd to aa;");
    check.due("of aa, cc; bb, cc; bb, dd", x.need(), 5);
    x = Check.in(FOUR + "lane aa bb 1; walk aa to dd; walk cc to dd; walk bb to aa;");
    check.due("without a way it needs none", x.need(), 1);
    check.due("nobody", new PardonLamps().need(), 0);
    // A longer way that one lamp lights is taken.
    x = Check.in("person aa plain coins 0; person bb plain coins 0; person cc plain coins 0; person dd plain coins 0;"
        + "lane aa bb 1; lane bb cc 1; lane cc dd 1; lane aa dd 30; wrong aa to bb size 1; walk aa to dd;");
    x.ask(0);
    check.due("whatever burns now", x.need(), 1);
  }

  private static void wind() {
    String town = FOUR + "lane aa bb 1; lane bb cc 1; lane cc dd 1; bar 30;"
        + "wrong bb to aa size 1; wrong aa to bb size 1; wrong aa to cc size 1; wrong aa to dd size 1;";
    PardonLamps x = Check.in(town + "wind 3;");
    check.due("dark", x.wind(0, 1), 0);
    x.ask(0);
    check.due("0.7", x.wind(0, 1), 700000);
    check.due("not lit", x.wind(0, 2), 0);
    x.ask(1);
    check.due("1 - 0.09", x.wind(0, 1), 910000);
    check.due("bb's alone", x.wind(0, 2), 700000);
    x.ask(2);
    x.ask(3);
    // aa-bb, bb-cc, cc-dd all lit: bb and (cc or dd), or aa and cc without bb.
    check.due("0.7 * 0.91 + 0.3 * 0.49", x.wind(0, 3), 784000);
    check.due("the same", x.wind(2, 2), -1);
    check.due("others", x.wind(0, 4), -1);
    check.due("others", x.wind(-1, 1), -1);
    x = Check.in(town);
    x.ask(1);
    check.due("no wind", x.wind(0, 2), 1000000);
    x = Check.in(town + "wind 10;");
    x.ask(1);
    check.due("a gale", x.wind(0, 2), 0);
    x = Check.in("person aa plain coins 0; person bb plain coins 0; lane aa bb 1; wind 9; wrong aa to bb size 1; wrong bb to aa size 1;");
    x.ask(0);
    x.ask(1);
    check.due("1 - 0.81", x.wind(1, 0), 190000);
    allSix();
  }

  private static void allSix() {
    StringBuilder b = new StringBuilder("bar 30; wind 1; ");
    for (char p = 'a'; p <= 'f'; p++) {
      b.append("person p").append(p).append(" plain coins 0;");
    }
    for (char p = 'a'; p < 'f'; p++) {
      b.append("lane p").append(p).append(" p").append((char) (p + 1)).append(" 30;");
    }
    for (char p = 'b'; p <= 'f'; p++) {
      b.append("wrong pa to p").append(p).append(" size 9;");
    }
    PardonLamps x = Check.in(b + "wrong pf to pa size 8; walk pa to pf;");
    check.due("the longest way", x.dark(0, 5, 0), 150);
    check.due("the longest way", x.dark(0, 5, 1), 150);
    check.due("harm", x.harm(), 150);
    for (int w = 0; w < 6; w++) {
      check.due("asked", x.ask(w), 1);
    }
    check.due("all burn", x.lamps(), 63);
    check.due("lit", x.dark(0, 5, 0), 0);
    check.due("lit", x.dark(0, 5, 1), 150);
    check.due("no harm", x.harm(), 0);
    check.due("stays", x.stays(0, 5), 9);
    check.due("ab, cd, ef lit and bc, de too", x.need(), 1 + 4 + 16);
    // No two neighbours are out: 1 - that chance, by k out of six (6, 10, 4 sets of 1, 2, 3).
    check.due("wind", x.wind(0, 5), 531441 + 6 * 59049 + 10 * 6561 + 4 * 729);
  }
}
