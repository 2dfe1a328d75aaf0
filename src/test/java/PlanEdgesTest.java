/** The edges of promises 16 to 26, sentence by sentence: coins, asks, what would come, rounds, circles, lamps, wind. */
final class PlanEdgesTest {
  private static final Check check = new Check("PlanEdgesTest");
  private static final String TWO = "person aa plain coins 99;person bb plain coins 99;lane aa bb 7;";
  private static final String FOUR =
      "person aa plain coins 9;person bb plain coins 9;person cc plain coins 9;person dd plain coins 9;";
  private static final int[] NO_NUMBERS = {-1, -2, Integer.MIN_VALUE, Integer.MAX_VALUE, 256, 1 << 16, -256};

  public static void main(String[] args) {
    payOthers();
    payPurse();
    payFewest();
    payThen();
    whenOthers();
    whenRows();
    whenHarm();
    grudges();
    ripe();
    ripeLimits();
    price();
    priceNights();
    stays();
    staysLimits();
    middle();
    roundOthers();
    roundMinutes();
    roundEqualOnes();
    roundRipe();
    circle();
    circleEqualOnes();
    need();
    wind();
    windChances();
    fullTown();
    fullTownNights();
    check.end();
  }

  /** Six plain people, pa to pf. */
  private static String six() {
    StringBuilder b = new StringBuilder();
    for (char p = 'a'; p <= 'f'; p++) {
      b.append("person p").append(p).append(" plain coins 0;");
    }
    return b.toString();
  }

  private static String row(int minutes) {
    StringBuilder b = new StringBuilder();
    for (char p = 'a'; p < 'f'; p++) {
      b.append("lane p").append(p).append(" p").append((char) (p + 1)).append(' ').append(minutes).append(";");
    }
    return b.toString();
  }

  private static void payOthers() {
    check.sentence(16, "NONE: others, the same, by none.");
    PardonLamps x = Check.in(TWO + "wrong aa to bb size 2;");
    for (int what = 0; what <= 1; what++) {
      check.due("there", x.pay(0, 1, what) >= 0, true);
      check.due("and back", x.pay(1, 0, what) >= 0, true);
      check.due("the same", x.pay(0, 0, what), -1);
      check.due("the same", x.pay(1, 1, what), -1);
      check.due("behind the last", x.pay(0, 2, what), -1);
      check.due("behind the last", x.pay(2, 0, what), -1);
      for (int far : NO_NUMBERS) {
        check.due("from " + far, x.pay(far, 0, what), -1);
        check.due("to " + far, x.pay(0, far, what), -1);
      }
    }
    check.due("what 2", x.pay(0, 1, 2), -1);
    for (int far : NO_NUMBERS) {
      check.due("what " + far, x.pay(0, 1, far), -1);
    }
    x = Check.in(FOUR + "lane aa bb 1;lane cc dd 1;wrong aa to cc size 1;");
    check.due("no way", x.pay(0, 2, 0), -1);
    check.due("no way", x.pay(0, 2, 1), -1);
    check.due("a way that none lights", x.pay(0, 1, 0), -1);
    check.due("a way that none lights", x.pay(0, 1, 1), -1);
    check.due("without a wrong", Check.in(TWO).pay(0, 1, 0), -1);
  }

  private static void payPurse() {
    check.sentence(0, "who did them has the coins for all of his together now");
    String town = "lane bb cc 1;lane cc dd 1;wrong aa to bb size 2;wrong aa to dd size 3;";
    // 3 for bb's lamp, 6 for dd's: both lanes take 9 of aa's coins.
    for (int coins = 8; coins <= 9; coins++) {
      PardonLamps x = Check.in(FOUR.replace("aa plain coins 9", "aa plain coins " + coins) + town);
      check.due("of " + coins, x.pay(1, 3, 0), coins == 9 ? 9 : -1);
      check.due("of " + coins, x.pay(1, 3, 1), coins == 9 ? 3 : -1);
      check.due("one lane", x.pay(2, 3, 0), 6);
    }
    // What one is given within does not help him; what he has now does.
    String poor = "person aa plain coins 9;person bb plain coins 0;person cc plain coins 0;lane aa bb 1;lane bb cc 1;"
        + "wrong aa to bb size 2;wrong bb to cc size 2;burns (large=2)*(sore<4);";
    PardonLamps x = Check.in(poor);
    check.due("bb's lamp is enough", x.pay(0, 2, 1), 1);
    x = Check.in("person aa plain coins 9;person bb plain coins 0;person cc plain coins 0;person dd plain coins 0;"
        + "lane aa bb 1;lane cc dd 1;lane bb cc 30;wrong aa to bb size 2;wrong bb to cc size 2;");
    check.due("bb has none now", x.pay(0, 3, 0), -1);
    x.give(0, 3);
    check.due("bb has 3 now", x.pay(0, 3, 0), 3);
    check.due("bb has 3 now", x.pay(0, 3, 1), 3);
  }

  private static void payFewest() {
    check.sentence(0, "the fewest coins; of equal ones the least set (bits)");
    PardonLamps x = Check.in(TWO + "wrong aa to bb size 4;wrong aa to bb size 3;wrong bb to aa size 3;");
    check.due("6", x.pay(0, 1, 0), 6);
    check.due("1 and 2 alike: 1", x.pay(0, 1, 1), 2);
    x.ask(1);
    check.due("2 is cheaper than 1 by now", x.pay(0, 1, 1), 4);
    x.give(0, 4);
    x.give(1, 1);
    check.due("all three 5 or 6", x.pay(0, 1, 0), 5);
    check.due("the first", x.pay(0, 1, 1), 1);
    check.due("lit already, by none", lit().pay(0, 1, 0), 0);
    check.due("lit already, by none", lit().pay(0, 1, 1), 0);
    // Two that cost nothing together are no dearer than one: the least set is the one.
    x = Check.in(TWO + "wrong aa to bb size 1;wrong bb to aa size 1;");
    check.due("0 coins", x.pay(0, 1, 0), 0);
    check.due("the first alone", x.pay(0, 1, 1), 1);
    // The least set is by bits, not by how many: {0, 1} is less than {2}.
    x = Check.in(FOUR + "lane aa bb 1;lane bb cc 1;wrong bb to aa size 1;wrong bb to cc size 1;wrong aa to bb size 1;");
    check.due("0 and 1 ahead of 2", x.pay(0, 2, 1), 3);
  }

  private static PardonLamps lit() {
    PardonLamps x = Check.in(TWO + "wrong aa to bb size 1;wrong bb to aa size 1;");
    x.ask(1);
    return x;
  }

  private static void payThen() {
    check.sentence(0, "for each of which as many coins are given as it is more SORE than its bar");
    check.due("at the bar", Check.in(TWO + "wrong aa to bb size 3;bar 9;").pay(0, 1, 0), 0);
    check.due("one above", Check.in(TWO + "wrong aa to bb size 3;bar 8;").pay(0, 1, 0), 1);
    check.due("below", Check.in(TWO + "wrong aa to bb size 3;bar 10;").pay(0, 1, 0), 0);
    check.due("a saint's", Check.in(TWO.replace("bb plain", "bb saint") + "wrong aa to bb size 3;bar 5;").pay(0, 1, 0), 1);
    PardonLamps x = Check.in(TWO + "wrong aa to bb size 9;bar 0;heals 0-9;");
    for (int i = 0; i < 8; i++) {
      x.night();
    }
    check.due("99 coins", x.pay(0, 1, 0), 99);
    check.sentence(0, "WRONGS that are not forgiven");
    x = Check.in(TWO + "wrong aa to bb size 1;burns 1;");
    check.due("0", x.pay(0, 1, 0), 0);
    x.ask(0);
    x.night();
    check.due("it is forgiven", x.pay(0, 1, 0), -1);
    check.sentence(0, "all of which are asked for then");
    check.due("a pardon of no night", Check.in(TWO + "wrong aa to bb size 1;burns 0;").pay(0, 1, 0), -1);
    check.due("as sore as its bar then", Check.in(TWO + "wrong aa to bb size 3;burns sore=3;").pay(0, 1, 0), 6);
    check.due("not as sore as now", Check.in(TWO + "wrong aa to bb size 3;burns sore=9;").pay(0, 1, 0), -1);
    x = Check.in(TWO + "wrong aa to bb size 3;");
    String before = Picture.of(x);
    x.pay(0, 1, 0);
    check.due("nothing is done", Picture.of(x), before);
  }

  private static void whenOthers() {
    check.sentence(17, "-2: others.");
    PardonLamps x = Check.in(TWO + "walk aa to bb;wrong aa to bb size 1;wrong bb to aa size 1;");
    for (int nights = -1; nights <= 5; nights++) {
      for (int what = -2; what <= 5; what++) {
        boolean others = nights < 1 || nights > 3 || what < 0 || what > nights;
        check.due("when " + nights + " " + what, x.when(nights, what) == -2, others);
      }
    }
    for (int far : NO_NUMBERS) {
      check.due("nights " + far, x.when(far, 0), -2);
      check.due("what " + far, x.when(3, far), -2);
    }
    check.due("nobody", new PardonLamps().when(3, 4), -2);
    check.due("nobody", new PardonLamps().when(3, 3), -1);
    check.sentence(0, "WHEN: so many NIGHTS (1 to 3)");
    int[] harm = {-2, 0, 0, 7, -2};
    for (int nights = 0; nights <= 4; nights++) {
      check.due("when " + nights, x.when(nights, 0), harm[nights]);
    }
    check.sentence(17, "1 + i: the i-th WRONG asked for (NONE: none)");
    check.due("0", x.when(3, 1), 0);
    check.due("1", x.when(3, 2), 1);
    check.due("none is left", x.when(3, 3), -1);
  }

  private static void whenRows() {
    check.sentence(0, "of equal ones the first row (WRONGS by numbers, none behind all)");
    PardonLamps x = Check.in(FOUR + "walk aa to bb;wrong aa to bb size 9;wrong aa to bb size 9;");
    for (int i = 1; i <= 3; i++) {
      check.due("all alike: 0", x.when(3, i), 0);
    }
    x = Check.in(FOUR + "walk aa to bb;wrong aa to bb size 1;wrong aa to bb size 9;");
    check.due("0 is forgiven", x.when(2, 1), 0);
    check.due("then 1, not none", x.when(2, 2), 1);
    x = Check.in(FOUR + "walk aa to bb;");
    check.due("no wrong", x.when(3, 0), 300);
    for (int i = 1; i <= 3; i++) {
      check.due("none", x.when(3, i), -1);
    }
    // Either of two lamps, a night each, in any order: the first row is 0 1; a third night is dark.
    x = Check.in(TWO + "walk aa to bb;wrong aa to bb size 1;wrong bb to aa size 1;");
    check.due("row", x.when(2, 1), 0);
    check.due("row", x.when(2, 2), 1);
    check.sentence(0, "ahead of each one WRONG that is not forgiven then is asked for, or none (it may be refused)");
    // 6 sore, bar 5, heals 1: asked for at once it is 7, then 6; waited for it is 5.
    String late = TWO + "walk aa to bb;wrong aa to bb size 2;bar 5;";
    check.due("waits", Check.in(late).when(2, 1), -1);
    check.due("then asks", Check.in(late).when(2, 2), 0);
    check.due("7 for one night", Check.in(late).when(2, 0), 7);
    x = Check.in(TWO + "walk aa to bb;wrong aa to bb size 1;wrong bb to aa size 1;burns 9;");
    x.ask(0);
    check.due("a forgiven one is not asked for", x.when(1, 1), 1);
  }

  private static void whenHarm() {
    check.sentence(0, "by which the HARM of these is the least");
    PardonLamps x = Check.in(TWO + "walk aa to bb;wrong aa to bb size 1;");
    check.due("1 night", x.when(1, 0), 0);
    check.due("2 nights", x.when(2, 0), 7);
    check.due("3 nights", x.when(3, 0), 14);
    x.night();
    check.due("of these alone", x.when(3, 0), 14);
    String before = Picture.of(x);
    x.when(3, 1);
    check.due("nothing is done", Picture.of(x), before);
    // The least of three nights is not the least of the first one: a pardon is saved.
    x = Check.in(FOUR + "lane aa bb 1;lane cc dd 30;walk aa to bb;walk cc to dd;wrong aa to bb size 1;wrong cc to dd size 1;");
    check.due("dark but the greater one", x.when(1, 1), 1);
    check.due("1 + 30", x.when(2, 0), 31);
    check.due("0 comes first, as good", x.when(2, 1), 0);
  }

  private static void grudges() {
    check.sentence(18, "GRUDGES, as bits; NONE: others.");
    PardonLamps x = Check.in(FOUR + "wrong aa to bb size 1;wrong aa to cc size 1;wrong bb to aa size 1;wrong dd to bb size 1;");
    check.due("the first", x.grudges(0, true), 3);
    check.due("the last", x.grudges(3, true), 8);
    check.due("the last has none", x.grudges(3, false), 0);
    check.due("behind the last", x.grudges(4, true), -1);
    check.due("behind the last", x.grudges(4, false), -1);
    for (int far : NO_NUMBERS) {
      check.due("person " + far, x.grudges(far, true), -1);
      check.due("person " + far, x.grudges(far, false), -1);
    }
    check.sentence(0, "GRUDGES of one: WRONGS to him (by him) that are not forgiven");
    check.due("to bb", x.grudges(1, false), 9);
    x.ask(0);
    check.due("to bb", x.grudges(1, false), 8);
    check.due("by aa", x.grudges(0, true), 2);
    x.ask(3);
    check.due("none", x.grudges(1, false), 0);
    PardonLamps y = Check.in(TWO + "wrong aa to bb size 1;".repeat(8));
    check.due("all eight", y.grudges(0, true), 255);
    check.due("all eight", y.grudges(1, false), 255);
  }

  private static void ripe() {
    check.sentence(19, "NONE: others, forgiven, not within 60.");
    PardonLamps x = Check.in(TWO + "wrong aa to bb size 1;wrong aa to bb size 2;");
    check.due("the first", x.ripe(0), 0);
    check.due("the last", x.ripe(1), 3);
    check.due("behind the last", x.ripe(2), -1);
    for (int far : NO_NUMBERS) {
      check.due("wrong " + far, x.ripe(far), -1);
    }
    x.ask(0);
    check.due("forgiven", x.ripe(0), -1);
    check.due("not another one", x.ripe(1), 3);
    String before = Picture.of(x);
    x.ripe(1);
    check.due("nothing is done", Picture.of(x), before);
  }

  private static void ripeLimits() {
    check.sentence(0, "in how many NIGHTS (0 to 60) a WRONG would not be refused, if nothing is done");
    check.due("at the bar: now", Check.in(TWO + "wrong aa to bb size 2;bar 6;").ripe(0), 0);
    check.due("one above: one night", Check.in(TWO + "wrong aa to bb size 2;bar 5;").ripe(0), 1);
    check.due("a saint's", Check.in(TWO.replace("bb plain", "bb saint") + "wrong aa to bb size 3;bar 5;").ripe(0), 1);
    // 27 to 3: 24 nights that heal, behind some that do not.
    check.due("59", Check.in(TWO + "wrong aa to bb size 9;heals not (nights<35);").ripe(0), 59);
    check.due("60", Check.in(TWO + "wrong aa to bb size 9;heals not (nights<36);").ripe(0), 60);
    check.due("61", Check.in(TWO + "wrong aa to bb size 9;heals not (nights<37);").ripe(0), -1);
    check.due("never", Check.in(TWO + "wrong aa to bb size 9;heals 0;").ripe(0), -1);
    check.due("sorer and sorer", Check.in(TWO + "wrong aa to bb size 9;heals 0-9;").ripe(0), -1);
    // Ripe for a while only: the first night counts.
    check.due("once", Check.in(TWO + "wrong aa to bb size 2;heals 3-nights*3;").ripe(0), 1);
    PardonLamps x = Check.in(TWO + "wrong aa to bb size 9;heals not (nights<37);");
    x.night();
    check.due("60 from now", x.ripe(0), 60);
  }

  private static void price() {
    check.sentence(20, "NONE: others, forgiven.");
    PardonLamps x = Check.in(TWO + "wrong aa to bb size 1;wrong aa to bb size 2;");
    check.due("the first", x.price(0, 0), 0);
    check.due("the last", x.price(1, 0), 3);
    check.due("behind the last", x.price(2, 0), -1);
    check.due("-1 night", x.price(1, -1), -1);
    check.due("31 nights", x.price(1, 31), -1);
    check.due("30 nights", x.price(1, 30), 0);
    for (int far : NO_NUMBERS) {
      check.due("wrong " + far, x.price(far, 0), -1);
      check.due("nights " + far, x.price(1, far), -1);
    }
    x.ask(0);
    check.due("forgiven", x.price(0, 0), -1);
    check.due("not another one", x.price(1, 0), 3);
    String before = Picture.of(x);
    x.price(1, 9);
    check.due("nothing is done", Picture.of(x), before);
  }

  private static void priceNights() {
    check.sentence(0, "if ahead of each of so many (0 to 30) NIGHTS words are said for it, if that can be, and nothing else is done");
    PardonLamps x = Check.in(TWO + "wrong aa to bb size 9;words (nights=29)*4;heals 0;");
    check.due("0 nights: none is said", x.price(0, 0), 24);
    check.due("29 nights", x.price(0, 29), 24);
    check.due("30 nights: the 30th words", x.price(0, 30), 20);
    x = Check.in(TWO + "wrong aa to bb size 9;words 5;heals 1;");
    check.due("words and a night", x.price(0, 1), 18);
    x.say(0);
    check.due("said already", x.price(0, 0), 19);
    check.due("not again", x.price(0, 1), 18);
    check.due("but the second night", x.price(0, 2), 12);
    // The last NIGHT heals behind the last words.
    x = Check.in(TWO + "wrong aa to bb size 9;words sore-20;heals sore-18;");
    check.due("27, 20, 18", x.price(0, 1), 15);
    // Both laws see the nights that have passed: 27 - (0 + 0) - (1 + 2) - (2 + 4) - 3.
    x = Check.in(TWO + "wrong aa to bb size 9;words nights;heals nights*2;");
    check.due("nights 0, 1, 2", x.price(0, 3), 15);
    x.night();
    check.due("nights 1, 2", x.price(0, 2), 15);
    check.sentence(0, "PRICE: the coins that it must be given then so as not to be refused");
    check.due("at the bar", Check.in(TWO + "wrong aa to bb size 2;bar 6;").price(0, 0), 0);
    check.due("one above", Check.in(TWO + "wrong aa to bb size 2;bar 5;").price(0, 0), 1);
    check.due("one below", Check.in(TWO + "wrong aa to bb size 2;bar 7;").price(0, 0), 0);
    check.due("a saint's", Check.in(TWO.replace("bb plain", "bb saint") + "wrong aa to bb size 3;bar 5;").price(0, 0), 1);
    check.due("99", Check.in(TWO + "wrong aa to bb size 9;bar 0;words 0;heals 0-9;").price(0, 30), 99);
    check.due("whether he has them or not",
        Check.in("person aa plain coins 0;person bb plain coins 0;wrong aa to bb size 9;").price(0, 0), 24);
  }

  private static void stays() {
    check.sentence(21, "NONE: others, the same.");
    PardonLamps x = Check.in(TWO + "wrong aa to bb size 1;");
    check.due("0", x.stays(0, 1), 0);
    check.due("the same", x.stays(0, 0), -1);
    check.due("the same", x.stays(1, 1), -1);
    check.due("behind the last", x.stays(0, 2), -1);
    check.due("behind the last", x.stays(2, 1), -1);
    for (int far : NO_NUMBERS) {
      check.due("from " + far, x.stays(far, 0), -1);
      check.due("to " + far, x.stays(0, far), -1);
      check.due("both " + far, x.stays(far, far), -1);
    }
    check.due("no way is 0", Check.in(FOUR).stays(0, 3), 0);
  }

  private static void staysLimits() {
    check.sentence(0, "for how many NIGHTS (0 to 99) yet there is a WAY from a door to another one all LIT, if nothing is done");
    PardonLamps x = Check.in(TWO + "wrong aa to bb size 1;");
    x.ask(0);
    check.due("one", x.stays(0, 1), 1);
    x.night();
    check.due("none", x.stays(0, 1), 0);
    x = Check.in(TWO + "wrong aa to bb size 1;".repeat(4) + "burns 30;");
    for (int w = 0; w < 4; w++) {
      x.ask(w);
    }
    check.due("99", x.stays(0, 1), 99);
    x.night();
    check.due("98", x.stays(1, 0), 98);
    // Two ways, one that lasts 2 nights and one that lasts 5.
    x = Check.in(FOUR + "lane aa bb 1;lane bb dd 1;lane aa cc 9;lane cc dd 9;wrong aa to bb size 2;wrong aa to cc size 5;bar 30;");
    x.ask(0);
    check.due("by bb", x.stays(0, 3), 2);
    x.ask(1);
    check.due("then by cc", x.stays(0, 3), 5);
    String before = Picture.of(x);
    x.stays(0, 3);
    check.due("nothing is done", Picture.of(x), before);
  }

  private static void middle() {
    check.sentence(22, "MIDDLE; NONE: nobody.");
    check.due("nobody", new PardonLamps().middle(), -1);
    check.due("one alone", Check.in("person aa plain coins 1;").middle(), 0);
    check.sentence(0, "(100 for one without a WAY); of equal ones the first");
    check.due("all alike", Check.in(FOUR).middle(), 0);
    check.due("cc and dd have a way", Check.in(FOUR + "lane cc dd 30;").middle(), 2);
    // bb: 30 + 30 + 100, aa and cc: 30 + 60 + 100.
    check.due("the middle one", Check.in(FOUR + "lane aa bb 30;lane bb cc 30;").middle(), 1);
    check.due("the sixth", Check.in(six() + "lane pa pf 1;lane pb pf 1;lane pc pf 1;lane pd pf 1;lane pe pf 1;").middle(), 5);
    check.due("a row: 2 and 3 alike", Check.in(six() + row(5)).middle(), 2);
    check.sentence(0, "MIDDLE: the door from which the least DARK to all others together is the least");
    PardonLamps x = Check.in(FOUR + "lane aa bb 2;lane bb cc 3;lane cc dd 9;wrong aa to dd size 1;");
    check.due("bb: 2 + 3 + 12, cc: 5 + 3 + 9", x.middle(), 1);
    x.ask(0);
    check.due("cc-dd is lit: bb 2 + 3 + 3, cc 5 + 3 + 0", x.middle(), 1);
    x = Check.in(FOUR + "lane aa bb 2;lane bb cc 3;lane cc dd 9;lane bb dd 30;wrong aa to dd size 1;wrong aa to bb size 1;");
    x.ask(1);
    check.due("aa, bb, cc: 0 dark to two, dd: bb-dd is lit", x.middle(), 0);
    x = Check.in(FOUR + "lane aa bb 1;lane bb cc 1;lane cc dd 1;lane bb dd 3;");
    check.due("bb 1 + 1 + 2, cc 2 + 1 + 1", x.middle(), 1);
  }

  private static void roundOthers() {
    check.sentence(23, "NONE: others.");
    PardonLamps x = Check.in(TWO + "wrong aa to bb size 1;");
    for (int what = 0; what <= 2; what++) {
      check.due("0 minutes", x.round(0, 0, what), 0);
      check.due("200 minutes", x.round(1, 200, what) >= 0, true);
      check.due("-1 minute", x.round(0, -1, what), -1);
      check.due("201 minutes", x.round(0, 201, what), -1);
      check.due("behind the last", x.round(2, 9, what), -1);
      for (int far : NO_NUMBERS) {
        check.due("from " + far, x.round(far, 9, what), -1);
        check.due("minutes " + far, x.round(0, far, what), -1);
      }
    }
    check.due("what 3", x.round(0, 9, 3), -1);
    for (int far : NO_NUMBERS) {
      check.due("what " + far, x.round(0, 9, far), -1);
    }
    check.due("nobody", new PardonLamps().round(0, 9, 0), -1);
  }

  private static void roundMinutes() {
    check.sentence(0, "in so many minutes (0 to 200) at most");
    PardonLamps x = Check.in(TWO + "wrong aa to bb size 1;");
    check.due("6 of 7", x.round(0, 6, 0), 0);
    check.due("7 of 7", x.round(0, 7, 0), 1);
    check.due("7 of 7", x.round(0, 7, 1), 7);
    check.due("7 of 7", x.round(0, 7, 2), 2);
    // A star: there and back to 22, 21, 21, 21 and to 30 at last: 200 in all.
    StringBuilder b = new StringBuilder(six() + "lane pa pb 22;lane pa pc 21;lane pa pd 21;lane pa pe 21;lane pa pf 30;");
    for (char p = 'b'; p <= 'f'; p++) {
      b.append("wrong pa to p").append(p).append(" size 1;");
    }
    x = Check.in(b.toString());
    check.due("199", x.round(0, 199, 0), 4);
    check.due("199: without the farthest", x.round(0, 199, 2), 30);
    check.due("199: 2 * 63 + 22", x.round(0, 199, 1), 148);
    check.due("200", x.round(0, 200, 0), 5);
    check.due("200", x.round(0, 200, 1), 200);
    check.due("200", x.round(0, 200, 2), 62);
    check.sentence(0, "not back");
    x = Check.in(TWO + "wrong aa to bb size 1;");
    check.due("one way", x.round(0, 13, 1), 7);
    check.sentence(0, "by LANES (LIT or not)");
    x = Check.in(FOUR + "lane aa bb 30;lane bb dd 30;lane aa cc 1;lane cc dd 1;wrong aa to bb size 1;wrong aa to dd size 1;");
    x.ask(0);
    check.due("by the shorter, dark one", x.round(0, 2, 0), 1);
    check.due("by the shorter, dark one", x.round(0, 200, 1), 2);
  }

  private static void roundEqualOnes() {
    check.sentence(0, "the most such WRONGS; of equal ones the least minutes; of equal ones the least set of doors (bits)");
    String star = FOUR + "wrong bb to aa size 9;wrong aa to bb size 1;wrong aa to cc size 1;wrong aa to dd size 1;";
    PardonLamps x = Check.in(star + "lane aa bb 5;lane aa cc 4;lane aa dd 4;");
    check.due("of three the nearest two, the least", x.round(0, 5, 2), 4);
    check.due("4 minutes", x.round(0, 5, 1), 4);
    check.due("two", x.round(0, 12, 2), 12);
    check.due("two of 13: still the shorter", x.round(0, 13, 1), 12);
    x = Check.in(star + "lane aa bb 4;lane aa cc 4;lane aa dd 4;");
    check.due("all alike", x.round(0, 4, 2), 2);
    check.due("all alike", x.round(0, 12, 2), 6);
    // Two at one door are more than one at a nearer one.
    x = Check.in(FOUR + "lane aa bb 1;lane aa cc 9;wrong aa to bb size 1;wrong aa to cc size 1;wrong dd to cc size 1;");
    check.due("two at cc", x.round(0, 10, 0), 2);
    check.due("two at cc", x.round(0, 10, 2), 4);
    check.due("three", x.round(0, 11, 0), 3);
    check.due("8: one at bb", x.round(0, 8, 2), 2);
  }

  private static void roundRipe() {
    check.sentence(0, "each of one to whom some WRONG was done that would not be refused now (his first door, if it is such a one, at once)");
    PardonLamps x = Check.in(FOUR + "lane aa bb 4;lane bb cc 4;wrong bb to aa size 2;wrong aa to bb size 2;wrong aa to cc size 2;bar 6;");
    check.due("at the bar, at once", x.round(0, 0, 0), 1);
    check.due("at once", x.round(0, 0, 1), 0);
    check.due("at once", x.round(0, 0, 2), 1);
    check.due("all three", x.round(0, 8, 2), 7);
    x = Check.in(FOUR + "lane aa bb 4;lane bb cc 4;wrong bb to aa size 2;wrong aa to bb size 2;wrong aa to cc size 1;bar 5;");
    check.due("one above the bar", x.round(0, 0, 0), 0);
    check.due("one above the bar", x.round(0, 0, 2), 0);
    check.due("bb is no such door", x.round(0, 200, 2), 4);
    check.due("he goes by it", x.round(0, 200, 1), 8);
    x.ask(2);
    check.due("a forgiven one is none", x.round(0, 200, 0), 0);
    check.due("he stays", x.round(0, 200, 1), 0);
    check.due("no door", x.round(0, 200, 2), 0);
    PardonLamps y = Check.in(TWO + "wrong aa to bb size 1;".repeat(8));
    check.due("all eight", y.round(1, 0, 0), 8);
    check.due("no way", Check.in(FOUR + "wrong aa to bb size 1;").round(0, 200, 0), 0);
    // One round after another, from other doors.
    x = Check.in(FOUR + "lane aa bb 5;lane bb cc 5;lane cc dd 5;wrong aa to dd size 1;wrong bb to aa size 1;");
    int[] all = {15, 20, 20, 15};
    for (int from = 3; from >= 0; from--) {
      check.due("from " + from, x.round(from, 200, 0), 2);
      check.due("from " + from, x.round(from, 200, 1), all[from]);
      check.due("from " + from, x.round(from, 200, 2), 9);
    }
    check.due("from cc, dd alone", x.round(2, 9, 2), 8);
    check.due("from bb, aa alone", x.round(1, 9, 2), 1);
    x.ask(1);
    check.due("from aa", x.round(0, 200, 1), 15);
    check.due("from bb", x.round(1, 200, 1), 10);
    check.due("from cc", x.round(2, 200, 1), 5);
  }

  private static void circle() {
    check.sentence(24, "CIRCLE, as bits; NONE: none.");
    check.due("no wrong", Check.in(TWO).circle(), -1);
    check.due("one", Check.in(TWO + "wrong aa to bb size 1;").circle(), -1);
    check.due("eight one way", Check.in(TWO + "wrong aa to bb size 1;".repeat(8)).circle(), -1);
    check.due("two", Check.in(TWO + "wrong aa to bb size 1;wrong bb to aa size 1;").circle(), 3);
    StringBuilder b = new StringBuilder(six() + "wrong pa to pc size 1;wrong pd to pa size 1;");
    for (char p = 'a'; p <= 'f'; p++) {
      b.append("wrong p").append(p).append(" to p").append(p == 'f' ? 'a' : (char) (p + 1)).append(" size 1;");
    }
    PardonLamps x = Check.in(b.toString());
    // pa-pc, pc-pd, pd-pa: 0, 4, 1.
    check.due("three of eight", x.circle(), 19);
    x.ask(0);
    check.due("four: pa-pb, pb-pc, pc-pd, pd-pa", x.circle(), 2 + 4 + 8 + 16);
    x.ask(1);
    check.due("all six", x.circle(), 252);
    x.ask(7);
    check.due("broken", x.circle(), -1);
    check.sentence(0, "from who did it to whom he did it");
    check.due("not against it", Check.in(FOUR + "wrong aa to bb size 1;wrong cc to bb size 1;wrong aa to cc size 1;").circle(), -1);
    check.due("along it", Check.in(FOUR + "wrong aa to bb size 1;wrong cc to aa size 1;wrong bb to cc size 1;").circle(), 7);
  }

  private static void circleEqualOnes() {
    check.sentence(0, "the fewest WRONGS that are not forgiven by which one comes round to oneself");
    PardonLamps x = Check.in(FOUR + "wrong aa to bb size 1;wrong bb to cc size 1;wrong cc to aa size 1;wrong bb to aa size 9;");
    check.due("two, though the set is greater", x.circle(), 9);
    x.ask(0);
    check.due("none is left", x.circle(), -1);
    check.sentence(0, "of equal ones the least set (bits)");
    x = Check.in(FOUR + "wrong aa to bb size 1;wrong aa to bb size 1;wrong bb to aa size 1;wrong bb to aa size 1;"
        + "wrong cc to dd size 1;wrong dd to cc size 1;");
    check.due("0 and 2", x.circle(), 5);
    x.ask(0);
    check.due("1 and 2", x.circle(), 6);
    x.ask(2);
    check.due("1 and 3", x.circle(), 10);
    x.ask(3);
    check.due("4 and 5", x.circle(), 48);
  }

  private static void need() {
    check.sentence(25, "LAMPS walks need, as bits.");
    check.due("nobody", new PardonLamps().need(), 0);
    check.due("no walk", Check.in(TWO).need(), 0);
    check.due("one", Check.in(TWO + "walk aa to bb;").need(), 1);
    check.sentence(0, "left no walk DARK (that has a WAY)");
    check.due("no way", Check.in(FOUR + "walk aa to bb;walk cc to dd;").need(), 0);
    check.due("one has a way", Check.in(FOUR + "lane cc dd 1;walk aa to bb;walk cc to dd;").need(), 4);
    check.sentence(0, "the fewest that, if just these burnt");
    check.due("one for two lanes", Check.in(FOUR + "lane aa bb 1;lane bb cc 1;walk aa to cc;").need(), 2);
    check.due("a row of six: three", Check.in(six() + row(1) + "walk pa to pf;").need(), 1 + 4 + 16);
    check.due("a star: its middle", Check.in(six() + "lane pf pa 1;lane pf pb 1;lane pf pc 1;lane pf pd 1;"
        + "walk pa to pb;walk pc to pd;").need(), 32);
    check.due("a longer way that one lamp lights",
        Check.in(FOUR + "lane aa bb 1;lane bb cc 1;lane cc dd 1;lane aa dd 30;walk aa to dd;").need(), 1);
    PardonLamps x = Check.in(TWO + "walk aa to bb;wrong aa to bb size 1;");
    x.ask(0);
    check.due("whatever burns now", x.need(), 1);
    check.sentence(0, "of equal ones the least set.");
    check.due("aa or bb", Check.in(FOUR + "lane aa bb 1;walk bb to aa;").need(), 1);
    check.due("aa, cc; bb, cc; bb, dd; ..", Check.in(FOUR + "lane aa bb 1;lane cc dd 1;walk bb to aa;walk dd to cc;").need(), 5);
  }

  private static void wind() {
    check.sentence(26, "WIND; NONE: others, the same.");
    PardonLamps x = Check.in(TWO + "wrong aa to bb size 1;wind 3;");
    check.due("dark: 0", x.wind(0, 1), 0);
    check.due("the same", x.wind(0, 0), -1);
    check.due("the same", x.wind(1, 1), -1);
    check.due("behind the last", x.wind(0, 2), -1);
    check.due("behind the last", x.wind(2, 0), -1);
    for (int far : NO_NUMBERS) {
      check.due("from " + far, x.wind(far, 0), -1);
      check.due("to " + far, x.wind(0, far), -1);
      check.due("both " + far, x.wind(far, far), -1);
    }
    check.due("no way: 0", Check.in(FOUR).wind(0, 1), 0);
  }

  private static void windChances() {
    check.sentence(0, "each LAMP that burns is blown out by its odds (of ten), for itself: the chance, in millionths, cut");
    int[] odds = {0, 1, 5, 9, 10};
    for (int o : odds) {
      PardonLamps x = Check.in(TWO + "wrong aa to bb size 1;wrong bb to aa size 1;wind " + o + ";");
      x.ask(0);
      check.due("one, wind " + o, x.wind(0, 1), 100000 * (10 - o));
      x.ask(1);
      check.due("one of two, wind " + o, x.wind(0, 1), 10000 * (100 - o * o));
    }
    // Both are needed: the lanes aa-bb and cc-dd, with bb-cc lit by either.
    PardonLamps x = Check.in(FOUR + "lane aa bb 1;lane bb cc 1;lane cc dd 1;wrong bb to aa size 1;wrong aa to cc size 1;wind 3;");
    x.ask(0);
    x.ask(1);
    check.due("0.7 * 0.7", x.wind(0, 3), 490000);
    check.due("aa's alone", x.wind(0, 1), 700000);
    x.night();
    check.due("out", x.wind(0, 3), 0);
    // A row of six, all burn: each lane is lit unless both its ends are out.
    StringBuilder b = new StringBuilder(six() + row(1) + "wind 1;bar 30;");
    for (char p = 'b'; p <= 'f'; p++) {
      b.append("wrong pa to p").append(p).append(" size 1;");
    }
    x = Check.in(b + "wrong pb to pa size 1;");
    for (int w = 0; w < 6; w++) {
      x.ask(w);
    }
    check.due("six: no two neighbours out", x.wind(0, 5), 531441 + 6 * 59049 + 10 * 6561 + 4 * 729);
    String before = Picture.of(x);
    x.wind(0, 5);
    check.due("nothing is blown out by it", Picture.of(x), before);
  }

  /** Six in a row of 30 minutes, eight wrongs that are ripe, four walks from end to end. */
  private static PardonLamps full() {
    return Check.in(six().replace("coins 0", "coins 9") + row(30) + "walk pa to pf;".repeat(4)
        + "wrong pa to pb size 1;wrong pb to pc size 1;wrong pc to pd size 1;wrong pd to pe size 1;"
        + "wrong pe to pf size 1;wrong pf to pa size 1;wrong pa to pb size 1;wrong pb to pa size 1;");
  }

  private static void fullTown() {
    check.sentence(0, "person: 6 at most");
    PardonLamps x = full();
    check.due("harm", x.harm(), 600);
    check.due("pb's lamp, two lanes", x.when(1, 0), 360);
    check.due("0", x.when(1, 1), 0);
    check.due("one lamp a night", x.when(3, 0), 1080);
    for (int i = 1; i <= 3; i++) {
      check.due("0, 1, 2", x.when(3, i), i - 1);
    }
    check.due("all lit", x.law(1, 0), 0);
    check.due("pa and pb yet", x.law(2, 0), 360);
    check.due("all dark", x.law(3, 0), 960);
    check.due("pb, pc, pe", x.pay(0, 5, 1), 11);
    check.due("for nothing", x.pay(0, 5, 0), 0);
    check.due("pa, pc, pe", x.need(), 21);
    check.due("0 and 7", x.circle(), 129);
    check.due("all eight", x.round(0, 200, 0), 8);
    check.due("all doors", x.round(0, 150, 2), 63);
    check.due("sets", x.sets(0), 256);
    check.due("in some", x.sets(2), 255);
    check.due("pc by 1 alone", x.look(), 20);
    check.due("the middle", x.middle(), 2);
    check.due("by pa", x.grudges(0, true), 65);
    check.due("to pa", x.grudges(0, false), 160);
    check.due("the last", x.ripe(7), 0);
    check.due("the last", x.price(7, 30), 0);
  }

  private static void fullTownNights() {
    check.sentence(0, "wrong: a PERSON told to another one told, size 1 to 9; 8 at most");
    PardonLamps x = full();
    Check.year(x, "ask 7;ask 6;give 7 9;night;say 7;say 5;night;");
    check.due("a forgiven one", x.judged(0), 2);
    check.due("two", x.judged(1), 2);
    check.due("pa and pb, then none", x.judged(2), 960);
    check.due("a night", x.night(), 600);
    check.due("healed", x.wrong(7, 3), 2);
    check.due("words", x.say(7), 0);
    check.due("a gift", x.give(6, 2), 0);
    for (int w = 7; w >= 0; w--) {
      check.due("asked", x.ask(w), 1);
    }
    check.due("all burn", x.lamps(), 63);
    check.due("lit", x.dark(0, 5, 0), 0);
    check.due("in no wind", x.wind(0, 5), 1000000);
    check.due("a night", x.stays(0, 5), 1);
    check.due("a night", x.night(), 0);
    check.due("pa and pb burn yet", x.lamps(), 3);
    check.due("none is left", x.circle(), -1);
    check.due("one set", x.sets(0), 1);
    check.due("by none", x.pay(0, 5, 0), -1);
    check.due("lit by none", x.pay(0, 2, 1), 0);
    check.due("undo", x.undo(), true);
    check.due("all burn", x.lamps(), 63);
  }
}
