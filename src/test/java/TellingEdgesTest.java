/** The edges of promises 1 to 4, sentence by sentence: the TAPE, its TOKENS, TOWN, YEAR, E and FAULTS. */
final class TellingEdgesTest {
  private static final Check check = new Check("TellingEdgesTest");
  private static final String TWO = "person aa plain coins 7;person bb plain coins 8;";
  private static final int[] FAR = {Integer.MIN_VALUE, -1000, 1000, Integer.MAX_VALUE};

  public static void main(String[] args) {
    nobody();
    none();
    feedPlaces();
    feedSigns();
    feedBehind();
    feedBeyond();
    tapeIsTaken();
    tokensAsLongAsCanBe();
    blanks();
    words();
    numbers();
    signs();
    people();
    kinds();
    coins();
    lanes();
    wrongs();
    walks();
    barAndWind();
    onceEach();
    anyNumberOfLines();
    yearNumbers();
    yearLines();
    names();
    comparisons();
    fromTheLeft();
    within();
    facts();
    truths();
    wraps();
    withoutLaws();
    firstToken();
    firstTokenOfEachLine();
    theEnd();
    noPerson();
    toldAlready();
    oneTooMany();
    townFromThenOn();
    townBehindTowns();
    faultLeavesAll();
    yearIsTheYear();
    check.end();
  }

  private static String repeat(String text, int times) {
    return text.repeat(times);
  }

  private static void nobody() {
    check.sentence(1, "Nobody.");
    PardonLamps x = new PardonLamps();
    for (int what = 0; what <= 11; what++) {
      check.due("count(" + what + ")", x.count(what), 0);
    }
    for (int what = 0; what <= 6; what++) {
      check.due("person", x.person(0, what), -1);
      check.due("wrong", x.wrong(0, what), -1);
    }
    check.due("lamps", x.lamps(), 0);
    check.due("harm", x.harm(), 0);
    check.due("middle", x.middle(), -1);
    check.due("undo", x.undo(), false);
    check.due("mark", x.mark(0, true), false);
    check.due("judged", x.judged(0), -1);
    check.due("see", x.see(0, 0, false), false);
  }

  private static void none() {
    check.sentence(0, "The constants: `NONE = -1`: None.");
    check.due("NONE", PardonLamps.NONE, -1);
  }

  private static void feedPlaces() {
    check.sentence(2, "the bytes of a, b, c, of each the highest first");
    for (int i = 0; i < 24; i++) {
      PardonLamps x = new PardonLamps();
      StringBuilder b = new StringBuilder(repeat(" ", 24));
      b.setCharAt(i, '!');
      check.due("24 signs", Check.feed(x, b.toString()), 24);
      check.due("! at " + i, x.town(), 1 + 16 * i);
    }
  }

  private static void feedSigns() {
    check.sentence(2, "others than 10 and 32 .. 126");
    for (int sign = 0; sign < 256; sign++) {
      int kept = sign == 10 || sign >= 32 && sign <= 126 ? 1 : 0;
      PardonLamps x = new PardonLamps();
      check.due("sign " + sign + " in a", x.feed((long) sign << 56, 0, 0), kept);
      check.due("sign " + sign + " in b", x.feed(0, (long) sign << 24, 0), 2 * kept);
      check.due("sign " + sign + " in c", x.feed(0, 0, sign), 3 * kept);
    }
    // What is left out takes no place: b a r 5 ; with others between.
    PardonLamps x = new PardonLamps();
    check.due("between", x.feed(0x0062001F61097200L, 0x35007F3B80FFL, 0), 5);
    check.due("bar5;", x.town(), 0);
  }

  private static void feedBehind() {
    check.sentence(2, "Up to 24 signs come behind the TAPE");
    PardonLamps x = new PardonLamps();
    check.due("none", x.feed(0, 0, 0), 0);
    check.due("24", x.feed(0x2020202020202020L, 0x2020202020202020L, 0x2020202020202020L), 24);
    check.due("1 more", x.feed(0, 0x21L << 32, 0), 25);
    check.due("none more", x.feed(0, 0, 0), 25);
    check.sentence(2, "how many there are");
    check.due("as count says", x.count(11), 25);
    check.due("behind it", x.town(), 1 + 16 * 24);
    check.due("behind what was taken", x.feed(0x21, 0, 0), 1);
  }

  private static void feedBeyond() {
    check.sentence(2, "what is beyond 1,000, are left out");
    PardonLamps x = new PardonLamps();
    check.due("999", Check.feed(x, repeat(" ", 999)), 999);
    check.due("left out ones don't count", x.feed(0x0009FF7F1F800B0DL, 0, 0), 999);
    check.due("1000", x.feed(0, 0, 32), 1000);
    check.due("the 1001st", x.feed(0, 0, 0x21), 1000);
    check.due("24 more", x.feed(0x2121212121212121L, 0x2121212121212121L, 0x2121212121212121L), 1000);
    check.due("none of them is read", x.town(), 0);
    check.sentence(0, "The TAPE has at most 1,000 signs");
    check.due("the last sign that fits", Check.town(x, repeat(" ", 994) + "bar 3;"), 0);
    check.due("one too far back", Check.town(x, repeat(" ", 995) + "bar 3;"), 1 + 16 * 1000);
    // Of a feed that is too long its first signs come in.
    check.due("987 and 13 of 24", Check.town(x, repeat("\n", 987) + "wind 3; bar 4 ;!!!!!!!!!"), 1 + 16 * 1000);
    check.due("986 and 14 of 24", Check.town(x, repeat("\n", 986) + "wind 3; bar 4;!!!!!!!!!!"), 0);
  }

  private static void tapeIsTaken() {
    check.sentence(0, "what reads it takes it: it is empty then");
    PardonLamps x = new PardonLamps();
    check.due("a town", Check.town(x, "bar 4;"), 0);
    check.due("a town takes it", x.count(11), 0);
    check.due("a fault of a town", Check.town(x, "bar 4;!"), 1 + 16 * 6);
    check.due("a fault takes it", x.count(11), 0);
    check.due("a year", Check.year(x, "night;"), 0);
    check.due("a year takes it", x.count(11), 0);
    check.due("a fault of a year", Check.year(x, "night;night;?"), 1 + 16 * 12);
    check.due("a fault takes it", x.count(11), 0);
    check.due("nothing is read again", x.year(), 0);
    check.due("a shorter text behind a longer one", Check.year(x, "nigh"), 1);
    check.due("ends where it ends", Check.year(x, "night"), 1 + 16 * 5);
  }

  private static void tokensAsLongAsCanBe() {
    check.sentence(0, "TOKENS, each as long as can be");
    check.fault("^barwind 3;", 1);
    check.fault("^bars 3;", 1);
    check.fault("^personaa plain coins 1;", 1);
    check.fault("bar ^310;", 4);
    check.fault("words ^notlarge;", 1);
    check.fault("words 1 ^andnot 1;", 1);
    check.fault("wind 1 ^0;", 1);
    check.fault("wind 10;", 0);
  }

  private static void blanks() {
    check.sentence(0, "blanks (10, 32) between where one likes");
    check.fault("bar3;wind4;words(1)+not(2)*large<3and(4=5);", 0);
    check.fault("\n \nbar \n 3\n\n;  wind\n4 ; \n", 0);
    check.fault("person aa plain coins 1;person bb plain coins 2;lane aa bb3;wrong aa to bb size4;walk aa to bb;", 0);
    check.fault("person\naa\nsaint\ncoins\n1\n;\n", 0);
    check.fault("words 1 ^. 2;", 1);
  }

  private static void words() {
    check.sentence(0, "WORDS (letters a .. z, 8 at most)");
    check.fault("person a plain coins 1;person z plain coins 1;lane a z 1;", 0);
    check.fault("person abcdefgh plain coins 1;", 0);
    check.fault("person ^abcdefghi plain coins 1;", 1);
    check.fault("person ^abcdefghijklmnopqrstuvwxyz plain coins 1;", 1);
    check.fault("person ^" + repeat("z", 900) + " plain", 1);
    check.fault("person aa^{ plain coins 1;", 1);
    check.fault("person ^`aa plain coins 1;", 1);
    check.fault("person aa^Z plain coins 1;", 1);
    check.fault("^Bar 1;", 1);
    // Long words that begin or end like words that may stand there.
    check.fault("^abcdefghijklmbar 1;", 1);
    check.fault("person aa plain coins 1; person aaaaaaaa plain coins 1; lane aa ^aaaaaaaaa 1;", 1);
    check.fault("person aa plain coins 1; person aaaaaaaa plain coins 1; lane aa ^aaaaaaa 1;", 2);
    check.fault("person aa plain coins 1; person aaaaaaaa plain coins 1; lane aa aaaaaaaa 1;", 0);
  }

  private static void numbers() {
    check.sentence(0, "NUMBERS (1 to 4 digits; a letter may stand right behind)");
    check.fault("bar 3;", 0);
    check.fault("bar 0003;", 0);
    check.fault("bar ^00003;", 1);
    check.fault("bar ^9999;", 4);
    check.fault("bar ^10000;", 1);
    check.fault("bar ^" + repeat("0", 900) + "3;", 1);
    check.fault("bar ^4294967299;", 1);
    check.fault("words 9999+0123456789;".replace("0123456789", "^0123456789"), 1);
    check.fault("words 0;heals 1or 2;burns 3and not 4;", 0);
    check.fault("bar 5^x;", 1);
    check.fault("bar 5^/;", 1);
    check.fault("bar 5^:;", 1);
    check.fault("bar ^/5;", 1);
    check.fault("bar ^:5;", 1);
    check.sentence(0, "All else (a longer WORD or NUMBER, too, at its first sign) is none");
    check.fault("bar 3; ^windwindw", 1);
    check.fault("bar   ^12345", 1);
  }

  private static void signs() {
    check.sentence(0, "the signs ( ) < = + - * ;");
    for (char sign = 33; sign < 127; sign++) {
      boolean letter = sign >= 'a' && sign <= 'z' || sign >= '0' && sign <= '9';
      if (letter) {
        continue;
      }
      String text = "words 1 " + sign + " 2;";
      int want = 1 + 16 * 8;
      if ("<=+-*".indexOf(sign) >= 0) {
        want = 0;
      } else if (sign == ';') {
        want = 1 + 16 * 10;
      }
      check.due(text, Check.town(new PardonLamps(), text), want);
      int alone = sign == '(' ? 1 + 16 * 7 : 1 + 16 * 6;
      check.due("words " + sign, Check.town(new PardonLamps(), "words " + sign), alone);
    }
    check.fault("words (1);", 0);
    check.fault("words (1^]", 1);
    check.fault("words ^[1)", 1);
  }

  private static String people(int many) {
    StringBuilder b = new StringBuilder();
    for (int p = 0; p < many; p++) {
      b.append("person p").append((char) ('a' + p)).append(" plain coins ").append(p).append(";");
    }
    return b.toString();
  }

  private static void people() {
    check.sentence(0, "person: 6 at most, numbered as told");
    PardonLamps x = Check.in(people(6));
    check.due("six", x.count(0), 6);
    for (int p = 0; p < 6; p++) {
      check.due("the coins of " + p, x.person(p, 1), p);
    }
    check.due("no seventh", x.person(6, 1), -1);
    check.fault(people(6) + "^person pg plain coins 1;", 5);
    check.due("one", Check.in(people(1)).count(0), 1);
  }

  private static void kinds() {
    check.sentence(0, "KIND: plain, sulky, saint, priest");
    PardonLamps x = Check.in("person a priest coins 0;person b saint coins 0;person c sulky coins 0;person d plain coins 0;");
    for (int p = 0; p < 4; p++) {
      check.due("kind of " + p, x.person(p, 0), 3 - p);
    }
    for (String kind : "plai plainn king aa coins person not 1 ; ( priests".split(" ")) {
      check.fault("person aa ^" + kind + " coins 1;", 1);
    }
    check.fault("person aa^", 1);
    check.fault("person aa plain ^coin 1;", 1);
  }

  private static void coins() {
    check.sentence(0, "coins 0 to 999");
    check.due("0", Check.in("person aa plain coins 0;").person(0, 1), 0);
    check.due("999", Check.in("person aa plain coins 999;").person(0, 1), 999);
    check.fault("person aa plain coins ^1000;", 4);
    check.fault("person aa plain coins ^9999;", 4);
    check.fault("person aa plain coins ^-1;", 1);
    check.fault("person aa plain coins ^;", 1);
  }

  private static void lanes() {
    check.sentence(0, "lane: two PEOPLE told, not the same, each pair once; 1 to 30 minutes");
    check.fault("person aa plain coins 1;lane aa ^bb 1;person bb plain coins 1;", 2);
    check.fault("person aa plain coins 1;lane ^bb aa 1;person bb plain coins 1;", 2);
    check.fault(TWO + "lane aa ^aa 1;", 3);
    check.fault(TWO + "lane bb ^bb 1;", 3);
    check.fault(TWO + "lane aa bb 1;lane aa ^bb 2;", 3);
    check.fault(TWO + "lane aa bb 1;lane bb ^aa 2;", 3);
    check.fault(TWO + "lane aa bb 1;lane bb ^bb 2;", 3);
    check.fault(TWO + "person cc plain coins 1;lane aa bb 1;lane aa cc 1;lane cc bb 1;lane cc ^aa 1;", 3);
    check.fault(TWO + "lane aa bb ^0;", 4);
    check.fault(TWO + "lane aa bb ^31;", 4);
    check.due("1 minute", Check.in(TWO + "lane aa bb 1;").dark(0, 1, 1), 1);
    check.due("30 minutes", Check.in(TWO + "lane aa bb 30;").dark(1, 0, 1), 30);
    StringBuilder b = new StringBuilder(people(6));
    for (char p = 'a'; p <= 'f'; p++) {
      for (char q = (char) (p + 1); q <= 'f'; q++) {
        b.append("lane p").append(p).append(" p").append(q).append(" 1;");
      }
    }
    check.due("all pairs of six", Check.in(b.toString()).count(1), 15);
    check.due("no lane", Check.in(TWO).count(1), 0);
  }

  private static void wrongs() {
    check.sentence(0, "wrong: a PERSON told to another one told, size 1 to 9");
    check.fault("person aa plain coins 1;wrong aa to ^bb size 1;person bb plain coins 1;", 2);
    check.fault(TWO + "wrong ^cc to aa size 1;", 2);
    check.fault(TWO + "wrong bb to ^bb size 1;", 3);
    check.fault(TWO + "wrong aa to bb size ^0;", 4);
    check.fault(TWO + "wrong aa to bb size ^10;", 4);
    check.due("size 1", Check.in(TWO + "wrong aa to bb size 1;").wrong(0, 2), 1);
    check.due("size 9", Check.in(TWO + "wrong aa to bb size 9;").wrong(0, 2), 9);
    check.sentence(0, "8 at most, numbered as told (of two there may be more)");
    StringBuilder b = new StringBuilder(TWO);
    for (int w = 1; w <= 8; w++) {
      b.append("wrong aa to bb size ").append(w).append(";");
    }
    PardonLamps x = Check.in(b.toString());
    check.due("eight of two", x.count(2), 8);
    for (int w = 0; w < 8; w++) {
      check.due("the size of " + w, x.wrong(w, 2), w + 1);
    }
    check.due("no ninth", x.wrong(8, 2), -1);
    check.fault(b + "^wrong aa to bb size 1;", 5);
  }

  private static void walks() {
    check.sentence(0, "walk: from a PERSON told to another one; 4 at most");
    check.fault("person aa plain coins 1;walk aa to ^bb;person bb plain coins 1;", 2);
    check.fault(TWO + "walk ^cc to aa;", 2);
    check.fault(TWO + "walk bb to ^bb;", 3);
    String four = TWO + "lane aa bb 7;walk aa to bb;walk aa to bb;walk bb to aa;walk aa to bb;";
    PardonLamps x = Check.in(four);
    check.due("four, alike or not", x.count(3), 4);
    check.due("each counts", x.harm(), 28);
    check.fault(four + "^walk aa to bb;", 5);
  }

  private static void barAndWind() {
    check.sentence(0, "bar 0 to 30 (3), wind 0 to 10 (0)");
    String one = TWO + "lane aa bb 1;wrong aa to bb size 1;";
    check.due("bar 0", Check.in(one + "bar 0;").wrong(0, 6), 0);
    check.due("bar 30", Check.in(one + "bar 30;").wrong(0, 6), 30);
    check.due("without a bar", Check.in(one).wrong(0, 6), 3);
    check.fault("bar ^31;", 4);
    check.fault("bar ^-1;", 1);
    int[] wind = {0, 1, 10};
    for (int odds : wind) {
      PardonLamps x = Check.in(one + "wind " + odds + ";");
      x.ask(0);
      check.due("wind " + odds, x.wind(0, 1), 1000000 - 100000 * odds);
    }
    check.fault("wind ^11;", 4);
    PardonLamps x = Check.in(one);
    x.ask(0);
    check.due("without wind", x.wind(0, 1), 1000000);
  }

  private static void onceEach() {
    check.sentence(0, "bar, wind, words, heals, burns: once each");
    String[] lines = {"bar 1;", "wind 1;", "words 1;", "heals 1;", "burns 1;"};
    StringBuilder all = new StringBuilder();
    for (String line : lines) {
      check.fault(line + "^" + line, 3);
      check.fault(line + " " + TWO + "^" + line, 3);
      // The word itself is wrong, whatever stands behind it.
      check.fault(line + "^" + line.substring(0, line.indexOf(' ')), 3);
      all.append(line);
    }
    check.fault(all.toString(), 0);
    for (String line : lines) {
      check.fault(all + "^" + line, 3);
    }
    PardonLamps x = new PardonLamps();
    check.due("in one town", Check.town(x, all.toString()), 0);
    check.due("in another one", Check.town(x, all.toString()), 0);
    check.due("a fault counts none", Check.town(x, "bar 1;!"), 1 + 16 * 6);
    check.due("again", Check.town(x, "bar 1;"), 0);
  }

  private static void anyNumberOfLines() {
    check.sentence(0, "TOWN: any number of");
    PardonLamps x = Check.in(TWO);
    check.due("no line", Check.town(x, ""), 0);
    check.due("nobody", x.count(0), 0);
    x = Check.in("burns 3;bar 5;person aa plain coins 1;wind 1;person bb plain coins 1;wrong aa to bb size 1;heals 2;"
        + "walk bb to aa;words 1;lane bb aa 2;");
    check.due("in any order", x.harm(), 2);
    check.due("in any order", x.wrong(0, 6), 5);
    check.fault("bar 3^", 1);
    check.fault("bar 3;^;", 1);
    check.sentence(0, "YEAR: any number of");
    check.due("no line", Check.year(x, " \n"), 0);
    check.due("one line", Check.year(x, "night;"), 0);
  }

  private static PardonLamps wrongsOf(int many) {
    return Check.in(TWO + repeat("wrong aa to bb size 1;", many));
  }

  private static void yearNumbers() {
    check.sentence(0, "the number of a WRONG told, 0 to how many less 1");
    for (int many = 1; many <= 8; many++) {
      PardonLamps x = wrongsOf(many);
      check.yearFault(x, "say 0;give 0 1;ask 0;", 0);
      int last = many - 1;
      check.yearFault(x, "say " + last + ";give " + last + " 1;ask " + last + ";", 0);
      check.yearFault(x, "say ^" + many + ";", 4);
      check.yearFault(x, "give ^" + many + " 1;", 4);
      check.yearFault(x, "ask ^" + many + ";", 4);
    }
    check.yearFault(wrongsOf(0), "say ^0;", 4);
    check.yearFault(new PardonLamps(), "ask ^0;", 4);
    check.yearFault(wrongsOf(8), "ask ^9999;", 4);
    check.sentence(0, "of give, behind it, 1 to 99 coins");
    PardonLamps x = wrongsOf(2);
    check.yearFault(x, "give 1 1;give 1 99;give 1 0099;", 0);
    check.yearFault(x, "give 1 ^0;", 4);
    check.yearFault(x, "give 1 ^100;", 4);
    check.yearFault(x, "give 1^;", 1);
    check.yearFault(x, "give 1 1 ^1;", 1);
    check.yearFault(x, "say 1 ^1;", 1);
    check.yearFault(x, "night ^0;", 1);
    check.yearFault(x, "say ^;", 1);
    check.yearFault(x, "^saying 0;", 1);
  }

  private static void yearLines() {
    check.sentence(0, "30 lines at most");
    PardonLamps x = wrongsOf(1);
    check.yearFault(x, repeat("night;", 30), 0);
    check.due("thirty", x.count(8), 30);
    check.yearFault(x, repeat("night;", 29), 0);
    check.due("twenty-nine", x.count(8), 29);
    for (String word : new String[] {"say", "give", "ask", "night"}) {
      check.yearFault(x, repeat("say 0;", 30) + "^" + word, 5);
    }
    // What can't stand there is wrong by less.
    check.yearFault(x, repeat("say 0;", 30) + "^bar", 1);
    check.yearFault(x, repeat("say 0;", 30) + "^;", 1);
    check.yearFault(x, repeat("say 0;", 30) + "\n ", 0);
    check.due("thirty", x.count(8), 30);
  }

  private static void names() {
    check.sentence(0, "A NAME is another WORD than");
    String[] taken = ("person coins lane wrong to size walk bar wind words heals burns say give ask night"
        + " plain sulky saint priest not and or").split(" ");
    check.due("words that are none", taken.length, 23);
    for (String word : taken) {
      check.fault("person ^" + word + " plain coins 1;", 1);
      check.fault(TWO + "lane ^" + word + " bb 1;", 1);
      check.fault(TWO + "lane aa ^" + word + " 1;", 1);
      check.fault(TWO + "wrong ^" + word + " to bb size 1;", 1);
      check.fault(TWO + "wrong aa to ^" + word + " size 1;", 1);
      check.fault(TWO + "walk ^" + word + " to bb;", 1);
      check.fault(TWO + "walk aa to ^" + word + ";", 1);
      String longer = word.length() < 8 ? word + "x" : word;
      check.fault("person " + longer + " plain coins 1;", word.length() < 8 ? 0 : 1);
    }
    // The facts are not in the list.
    check.fault("person large plain coins 1;person sore plain coins 1;person nights plain coins 1;lane large nights 2;", 0);
    check.fault("person ^7 plain coins 1;", 1);
    check.fault("person ^; plain coins 1;", 1);
    check.sentence(0, "no two are alike");
    check.fault(TWO + "person ^aa plain coins 1;", 3);
    check.fault(TWO + "person ^bb saint coins 1;", 3);
    check.fault(TWO + "person a plain coins 1;person aaa plain coins 1;person ab plain coins 1;", 0);
  }

  /** The worth of an E (0 to 27) is how much less SORE a WRONG of size 9 is by words. */
  private static int worth(String law) {
    return 27 - Check.in(TWO + "wrong aa to bb size 9;words " + law + ";").say(0);
  }

  private static void worth(String law, int want) {
    check.due(law, worth(law), want);
  }

  private static void comparisons() {
    check.sentence(0, "TEST: SUM, or SUM < SUM, or SUM = SUM");
    check.fault("words 1<2;", 0);
    check.fault("words 1=2;", 0);
    check.fault("words 1<2^<3;", 1);
    check.fault("words 1<2^=3;", 1);
    check.fault("words 1=2^<3;", 1);
    check.fault("words 1=2^=3;", 1);
    check.fault("words 1<^;", 1);
    check.fault("words ^<1;", 1);
    check.fault("words (1<2)<3 and 1=1 or 2<3;", 0);
    worth("1+1<2*2", 1);
    worth("2*2<3+1", 0);
    worth("1+(1<2)", 2);
    worth("3<4", 1);
    worth("4<4", 0);
    worth("5<4", 0);
    worth("4=4", 1);
    worth("4=5", 0);
  }

  private static void fromTheLeft() {
    check.sentence(0, "E: TEST { and TEST or or TEST }, from the left");
    worth("1 or 1 and 0", 0);
    worth("0 and 0 or 1", 1);
    worth("0 and (0 or 1)", 0);
    worth("1 or (1 and 0)", 1);
    worth("1 and 0 or 0", 0);
    check.fault("words 1 and^;", 1);
    check.fault("words ^or 1;", 1);
    check.fault("words 1 and ^or 1;", 1);
    check.sentence(0, "SUM: PRODUCT { + or - PRODUCT }; PRODUCT: PART { * PART }");
    worth("20-3-2", 15);
    worth("20-3+2", 19);
    worth("1+2*3", 7);
    worth("2*3+1", 7);
    worth("20-2*3*2", 8);
    worth("(1+2)*3", 9);
    check.fault("words ^-1;", 1);
    check.fault("words 1+^-1;", 1);
    check.fault("words 1+^;", 1);
    check.fault("words 2*^*2;", 1);
    check.fault("words 2 ^2;", 1);
    check.sentence(0, "PART: a NUMBER, a fact, not PART, ( E )");
    worth("not 0+4", 5);
    worth("not 0*4", 4);
    worth("not not 4", 1);
    worth("not (0+4)", 0);
    worth("4+not 0", 5);
    worth("4+not 7", 4);
    worth("4*not 0+not 0*3", 7);
    worth("1+2*not(3<2)", 3);
    worth("0 or not 0", 1);
    worth("1 and not 1", 0);
    check.fault("words (^);", 1);
    check.fault("words (1^;", 1);
    check.fault("words 1^);", 1);
    check.fault("words not^;", 1);
    check.fault("words 1 ^not 1;", 1);
    check.fault("words ^size;", 1);
  }

  private static void within() {
    check.sentence(0, "no PART lies within 5 of not and ( )");
    String[] opens = {"(", "not "};
    // All ways in which not and ( lie within one another, four deep, then five deep.
    for (int mix = 0; mix < 32; mix++) {
      StringBuilder four = new StringBuilder("words ");
      StringBuilder back = new StringBuilder();
      for (int i = 0; i < 4; i++) {
        four.append(opens[mix >> i & 1]);
        back.append((mix >> i & 1) == 0 ? ")" : "");
      }
      check.fault(four + "1" + back + ";", 0);
      check.fault(four + "sore" + back + ";", 0);
      String five = four + opens[mix >> 4];
      check.fault(five + "^1" + back, 5);
      check.fault(five + "^large" + back, 5);
      check.fault(five + "^(1)" + back, 5);
      check.fault(five + "^not 1" + back, 5);
    }
    check.fault("heals 1+((((2)*(3))))*not not not not 4-((((5))));", 0);
    check.fault("burns ((((1))))+(((((^2)))));", 5);
    check.sentence(0, "not, or a PART, within 5 others");
    // What is no PART there is wrong by less.
    check.fault("words (((((^;", 1);
    check.fault("words (((((^)", 1);
    check.fault("words (((((^+", 1);
    check.fault("words not not not not not ^and 1;", 1);
    check.fault("words not not not not not ^aa;", 1);
    check.fault("words (((((^12345", 1);
    check.fault("words (((((^", 1);
  }

  private static void facts() {
    check.sentence(0, "Facts: large (its size), sore (how sore it is now), nights (that have passed)");
    worth("large", 9);
    worth("sore", 27);
    worth("nights", 0);
    PardonLamps x = Check.in(TWO + "wrong aa to bb size 9;wrong aa to bb size 5;words large;heals 0;");
    check.due("its own size", x.say(1), 10);
    x = Check.in(TWO + "wrong aa to bb size 9;words sore - 20;heals 0;");
    x.give(0, 3);
    check.due("24 - 4", x.say(0), 20);
    x = Check.in(TWO + "wrong aa to bb size 9;words nights * 3;heals 0;");
    x.night();
    x.night();
    check.due("two nights", x.say(0), 21);
    x.undo();
    x.undo();
    check.due("one night", x.say(0), 24);
  }

  private static void truths() {
    check.sentence(0, "Of not, and, or, < and = comes 1 or 0");
    worth("7 and 8", 1);
    worth("7 and 0", 0);
    worth("0 and 7", 0);
    worth("7 or 8", 1);
    worth("0 or 8", 1);
    worth("8 or 0", 1);
    worth("0 or 0", 0);
    worth("not 7", 0);
    worth("not 0", 1);
    worth("7", 7);
    check.sentence(0, "what is not 0 is so");
    worth("(0-1) and 1", 1);
    worth("(0-1) or 0", 1);
    worth("not (0-1)", 0);
    worth("2 and 4", 1);
    worth("(4-4) and 1", 0);
  }

  private static void wraps() {
    check.sentence(0, "ints wrap");
    // 2 to the 31st is the least int, one less than it the greatest.
    worth("4096*4096*128<0", 1);
    worth("4096*4096*128-1<0", 0);
    worth("0<4096*4096*128-1", 1);
    worth("4096*4096*128-1+1=4096*4096*128", 1);
    worth("4096*4096*256=0", 1);
    worth("4096*4096*256+5", 5);
    worth("4096*4096*128+4096*4096*128+6", 6);
    worth("0-4096*4096*128=4096*4096*128", 1);
    // Neither the least nor the greatest int leaves the limits of words.
    worth("4096*4096*128", 0);
    worth("4096*4096*128-1", 27);
  }

  private static void withoutLaws() {
    check.sentence(0, "Without words: 2; without heals: 1; without burns: large.");
    PardonLamps x = Check.in(TWO + "wrong aa to bb size 9;wrong aa to bb size 4;bar 30;");
    check.due("words", x.say(0), 25);
    x.night();
    check.due("heals", x.wrong(0, 3), 24);
    check.due("heals", x.wrong(1, 3), 11);
    x.ask(1);
    check.due("burns", x.person(1, 2), 4);
    x.ask(0);
    check.due("burns", x.person(1, 2), 13);
    // Those of a town before are gone.
    check.due("others", Check.town(x, "words 5;heals 6;burns 7;"), 0);
    for (int again = 0; again < 3; again++) {
      check.due("none", Check.town(x, TWO + "wrong aa to bb size 3;bar 30;"), 0);
      check.due("words", x.say(0), 7);
      x.night();
      check.due("heals", x.wrong(0, 3), 6);
      x.ask(0);
      check.due("burns", x.person(1, 2), 3);
    }
    // A shorter law has nothing of a longer one ahead of it.
    check.due("a longer one", Check.town(x, "words not 1;"), 0);
    check.due("a longer one", Check.town(x, "words not 1;"), 0);
    for (int again = 0; again < 2; again++) {
      check.due("a shorter one", Check.town(x, TWO + "wrong aa to bb size 3;words 7;"), 0);
      check.due("words", x.say(0), 2);
    }
  }

  private static void firstToken() {
    check.sentence(0, "of the first token from the left that is wrong the least");
    check.fault("person aa plain coins ^1000;person aa king", 4);
    check.fault(TWO + "lane aa ^cc 99;", 2);
    check.fault(TWO + "lane ^dd cc 99;", 2);
    check.fault(TWO + "wrong aa to ^aa size 99;", 3);
    check.fault(people(6) + "^person pa king coins 1000;", 5);
    check.fault("bar 1;^bar 99;!", 3);
    check.yearFault(wrongsOf(1), "give ^1 100;", 4);
    check.yearFault(wrongsOf(1), repeat("night;", 30) + "^give 1 100;", 5);
    check.sentence(0, "1 it is none, or can't stand there");
    check.fault("^#", 1);
    check.fault("^;", 1);
    check.fault("^night;", 1);
    check.yearFault(wrongsOf(1), "^person aa plain coins 1;", 1);
    check.yearFault(wrongsOf(1), "^aa;", 1);
    check.sentence(0, "4 a NUMBER that is not as told");
    check.fault("bar ^31;", 4);
    check.fault("words 9999;", 0);
  }

  /** In each line, at each token but the first, what would begin a line can't stand, whatever is wrong behind it. */
  private static void firstTokenOfEachLine() {
    check.sentence(0, "of the first token from the left that is wrong the least");
    String[] lines = {"person cc plain coins 1 ;", "lane aa bb 1 ;", "wrong aa to bb size 1 ;", "walk aa to bb ;", "wind 1 ;",
        "words 1 + ( not 2 ) * large < 3 and sore = 4 or nights ;", "heals 1 ;", "burns 1 ;"};
    for (String line : lines) {
      String[] tokens = line.split(" ");
      StringBuilder b = new StringBuilder(TWO);
      for (int i = 0; i + 1 < tokens.length; i++) {
        b.append(tokens[i]).append(' ');
        check.fault(b + "^bar 99;", 1);
        check.fault(b + "^! bar 99;", 1);
      }
      check.fault(TWO + line + "bar ^99;", 4);
    }
    for (String line : new String[] {"say 0 ;", "give 0 1 ;", "ask 0 ;", "night ;"}) {
      StringBuilder b = new StringBuilder();
      String[] tokens = line.split(" ");
      for (int i = 0; i + 1 < tokens.length; i++) {
        b.append(tokens[i]).append(' ');
        check.yearFault(wrongsOf(1), b + "^ask 99;", 1);
      }
      check.yearFault(wrongsOf(1), line + "ask ^99;", 4);
    }
  }

  private static void theEnd() {
    check.sentence(0, "the end being one at the text's length");
    String town = "person aa plain coins 1;person bb plain coins 1;lane aa bb 1;wrong aa to bb size 1;walk aa to bb;words 1;";
    // A town that ends anywhere but behind a line ends too soon, blanks or not.
    for (int cut = 0; cut < town.length(); cut++) {
      String part = town.substring(0, cut);
      boolean whole = part.isEmpty() || part.endsWith(";");
      boolean between = cut > 0 && !Character.isLetterOrDigit(town.charAt(cut - 1));
      if (whole) {
        check.fault(part, 0);
        check.fault(part + "  ", 0);
      } else if (between) {
        check.fault(part + "^", 1);
        check.fault(part + "\n  ^", 1);
      }
    }
    check.fault("bar 3^", 1);
    check.fault("bar 3   ^", 1);
    check.fault("bar^", 1);
    check.fault("words 1 +^", 1);
    check.fault("words (1^", 1);
    check.yearFault(wrongsOf(1), "night^", 1);
    check.yearFault(wrongsOf(1), "give 0^", 1);
    check.yearFault(wrongsOf(1), "give 0 1 ^", 1);
  }

  private static void noPerson() {
    check.sentence(0, "2 a NAME of no PERSON (behind lane, wrong, walk, to) told");
    check.fault("lane ^aa", 2);
    check.fault("wrong ^aa", 2);
    check.fault("walk ^aa", 2);
    check.fault(TWO + "lane aa ^cc", 2);
    check.fault(TWO + "wrong aa to ^cc", 2);
    check.fault(TWO + "walk aa to ^cc", 2);
    check.fault(TWO + "walk aa to ^b;", 2);
    check.fault(TWO + "walk aa to ^bbb;", 2);
    // A PERSON of the town before is none of this one.
    PardonLamps x = Check.in(TWO);
    check.due("another town", Check.town(x, "person cc plain coins 1;lane cc bb 1;"), 2 + 16 * 32);
  }

  private static void toldAlready() {
    check.sentence(0, "3 a NAME told already");
    check.fault(TWO + "person ^bb", 3);
    PardonLamps x = Check.in(TWO);
    check.due("in another town it is new", Check.town(x, TWO), 0);
    check.sentence(0, "the second NAME of a line that is the first one, of lane of a pair told, too");
    check.fault(TWO + "lane aa ^aa", 3);
    check.fault(TWO + "wrong aa to ^aa", 3);
    check.fault(TWO + "walk aa to ^aa", 3);
    check.fault(TWO + "lane aa bb 1;lane bb ^aa", 3);
    check.fault(TWO + "lane aa bb 1;wrong aa to bb size 1;wrong aa to bb size 1;walk bb to aa;walk bb to aa;", 0);
    check.due("a pair of another town is none", Check.town(x, TWO + "lane aa bb 4;"), 0);
    check.due("a pair of another town is none", Check.town(x, TWO + "lane bb aa 5;"), 0);
    check.due("a pair of a fault is none", Check.town(x, TWO + "lane bb aa 6;!"), 1 + 16 * 61);
    check.due("a pair of a fault is none", Check.town(x, TWO + "lane bb aa 7;"), 0);
    check.due("7 minutes", x.dark(0, 1, 1), 7);
  }

  private static void oneTooMany() {
    check.sentence(0, "5 one too many: the words person of a seventh, wrong of a ninth, walk of a fifth");
    check.fault(people(6) + "^person", 5);
    check.fault(people(6) + "bar 3; ^person !", 5);
    check.fault(TWO + repeat("wrong aa to bb size 1;", 8) + "^wrong", 5);
    check.fault(TWO + repeat("walk aa to bb;", 4) + "^walk", 5);
    check.fault(TWO + repeat("wrong aa to bb size 1;", 8) + repeat("walk aa to bb;", 4) + "bar 1;", 0);
    check.sentence(0, "the first word of a 31st line of a YEAR");
    check.yearFault(wrongsOf(1), repeat("ask 0;", 30) + "^ask", 5);
  }

  private static final String FULL = TWO + "person cc priest coins 3;lane aa bb 5;lane bb cc 6;wrong aa to bb size 1;"
      + "wrong bb to cc size 3;walk aa to cc;bar 4;wind 2;words 3;";

  private static void touch(PardonLamps x) {
    Check.year(x, "night;ask 0;");
    x.mark(0, false);
    x.mark(3, false);
    x.see(0, 3, true);
    x.say(1);
    x.give(0, 2);
    x.ask(0);
    x.night();
    x.say(1);
  }

  private static void townFromThenOn() {
    check.sentence(0, "night 0, all dark, coins as told, each WRONG is three times as SORE as its size, none is forgiven,"
        + " no harm, no YEAR, no SIGHT, nothing can be undone, no MARK is there");
    PardonLamps x = Check.in(FULL);
    String fresh = Picture.of(x);
    touch(x);
    check.due("it is another picture", Picture.of(x).equals(fresh), false);
    check.due("told again", Check.town(x, FULL), 0);
    x = again(x, fresh);
    check.due("the night", x.count(4), 0);
    check.due("lamps", x.lamps(), 0);
    check.due("coins", x.person(0, 1), 7);
    check.due("sore", x.wrong(0, 3), 3);
    check.due("sore", x.wrong(1, 3), 9);
    check.due("forgiven", x.count(5), 0);
    check.due("said", x.wrong(1, 5), 0);
    check.due("harm", x.count(6), 0);
    check.due("year", x.count(8), 0);
    check.due("sights", x.count(9), 0);
    check.due("undo", x.count(10), 0);
    check.due("undo", x.undo(), false);
    for (int mark = 0; mark < 4; mark++) {
      check.due("mark " + mark, x.mark(mark, true), false);
    }
  }

  private static void townBehindTowns() {
    check.sentence(0, "Without a FAULT a TOWN is the TOWN from then on");
    String bare = TWO + "person cc plain coins 3;wrong aa to bb size 2;";
    String fresh = Picture.of(Check.in(bare));
    PardonLamps x = Check.in(FULL);
    check.due("told", Check.town(x, FULL), 0);
    x.harm();
    check.due("told", Check.town(x, bare), 0);
    check.due("nothing of another one is left", Picture.of(x), fresh);
    check.due("told", Check.town(x, bare), 0);
    check.due("nothing of another one is left", Picture.of(x), fresh);
    // Each of three has the same lanes, told either way.
    x = new PardonLamps();
    for (int i = 1; i <= 3; i++) {
      check.due("lanes", Check.town(x, people(6) + "lane pa pb " + i + ";lane pc pa 5;lane pf pa 6;"), 0);
      check.due("minutes", x.dark(0, 1, 0), i);
      check.due("lanes", x.count(1), 3);
      check.due("no walk", x.count(3), 0);
      check.due("lanes and a walk", Check.town(x, people(6) + "lane pb pa 9;lane pa pc 5;lane pa pf 6;walk pa to pb;"), 0);
      check.due("minutes", x.harm(), 9);
      check.due("a walk", x.count(3), 1);
    }
    // Neither wind nor coins of another one are left.
    x = new PardonLamps();
    for (int i = 0; i < 3; i++) {
      check.due("six and a gale", Check.town(x, people(6).replaceAll("coins .", "coins 9") + "wind 10;"), 0);
      check.due("coins of six", x.count(7), 54);
      for (int again = 0; again < 2; again++) {
        check.due("two", Check.town(x, TWO + "lane aa bb 1;wrong aa to bb size 1;"), 0);
        check.due("coins of two", x.count(7), 15);
        x.ask(0);
        check.due("no wind", x.wind(0, 1), 1000000);
      }
    }
    // Laws as long as the tape, one after another.
    x = new PardonLamps();
    for (int i = 0; i < 8; i++) {
      String law = "words 0" + repeat("+1", 400) + "-" + (400 - i) + ";";
      check.due("a long law", Check.town(x, TWO + "wrong aa to bb size 9;" + law), 0);
      check.due("its worth", x.say(0), 27 - i);
    }
  }

  private static PardonLamps again(PardonLamps x, String fresh) {
    check.due("as new", Picture.of(x), fresh);
    return x;
  }

  private static void faultLeavesAll() {
    String[] faults = {"!", "bar 31;", FULL + "bar 5;", "person dd saint coins 9;lane dd dd 1;", "words 1;heals 2;burns 3^"};
    check.sentence(3, "(all stays then)");
    for (String text : faults) {
      PardonLamps x = Check.in(FULL);
      touch(x);
      String before = Picture.of(x);
      check.due("a fault", Check.town(x, text) > 0, true);
      check.due("all stays", Picture.of(x), before);
      stillUndoneAndMarked(x);
    }
    check.sentence(4, "likewise");
    for (String text : new String[] {"!", "say 2;", "night;night;give 0 0;", repeat("night;", 31), "night"}) {
      PardonLamps x = Check.in(FULL);
      touch(x);
      String before = Picture.of(x);
      check.due("a fault", Check.year(x, text) > 0, true);
      check.due("all stays", Picture.of(x), before);
      stillUndoneAndMarked(x);
    }
  }

  private static void stillUndoneAndMarked(PardonLamps x) {
    check.due("the words", x.undo(), true);
    check.due("the night", x.undo(), true);
    check.due("night 0", x.count(4), 0);
    check.due("the year", x.judged(1), 1);
    check.due("mark", x.mark(3, true), true);
    check.due("no mark", x.mark(1, true), false);
    check.due("not said", x.wrong(1, 3), 9);
  }

  private static void yearIsTheYear() {
    check.sentence(4, "The TAPE is read as a YEAR");
    PardonLamps x = Check.in(FULL);
    x.night();
    String before = Picture.of(x);
    check.due("a year", Check.year(x, "ask 0;night;"), 0);
    check.due("two lines", x.count(8), 2);
    check.due("nothing is done by it", x.count(4), 1);
    check.due("nothing is done by it", x.count(10), 1);
    check.due("judged", x.judged(1), 1);
    check.sentence(0, "A YEAR is the YEAR.");
    check.due("another year", Check.year(x, "night;night;night;"), 0);
    check.due("three lines", x.count(8), 3);
    check.due("judged", x.judged(1), 0);
    check.due("no line", Check.year(x, ""), 0);
    check.due("as before", Picture.of(x), before);
    for (int far : FAR) {
      check.due("count", x.count(far), -1);
    }
  }
}
