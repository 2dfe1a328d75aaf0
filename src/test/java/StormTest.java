import java.util.NoSuchElementException;
import java.util.Random;

/** Calls in any order with any arguments: nothing is thrown but what the document names. */
final class StormTest {
  private static final Check check = new Check("StormTest");
  private static final String[] BITS = {
      "person ", "aa ", "bb ", "cc ", "dd ", "plain ", "sulky ", "saint ", "priest ", "coins ", "lane ", "wrong ", "to ",
      "size ", "walk ", "bar ", "wind ", "words ", "heals ", "burns ", "say ", "give ", "ask ", "night ", "not ", "and ",
      "or ", "large ", "sore ", "nights ", "(", ")", "<", "=", "+", "-", "*", ";", "1", "9", "0", "12345", "abcdefghi",
      "!", "\n", "30 ", "2;", "person aa plain coins 9;", "person bb saint coins 30;", "person cc sulky coins 3;",
      "wrong aa to bb size 2;", "wrong bb to cc size 1;", "lane aa bb 3;", "lane bb cc 30;", "walk aa to cc;",
      "night;", "say 0;", "give 1 3;", "ask 0;", "words sore*sore*sore;", "heals 0-9;", "burns nights+9;"};

  public static void main(String[] args) {
    int runs = args.length > 0 ? Integer.parseInt(args[0]) : 3000;
    for (int seed = 0; seed < runs; seed++) {
      storm(new Random(seed));
    }
    check.due("runs", runs, runs);
    check.end();
  }

  private static void storm(Random r) {
    PardonLamps x = new PardonLamps();
    String log = "";
    try {
      if (r.nextInt(3) > 0) {
        Check.town(x, wholeTown(r));
      }
      for (int i = 0; i < 200; i++) {
        int which = r.nextInt(36);
        int a = arg(r);
        int b = arg(r);
        int c = arg(r);
        log = which + "(" + a + ", " + b + ", " + c + ")";
        call(x, r, which, a, b, c);
        log = "counts behind " + log;
        counts(x);
      }
    } catch (RuntimeException e) {
      check.due(log + " threw " + e, 1, 0);
    }
  }

  private static String wholeTown(Random r) {
    StringBuilder b = new StringBuilder();
    int people = 2 + r.nextInt(5);
    for (int p = 0; p < people; p++) {
      b.append("person p").append((char) ('a' + p)).append(' ').append(BITS[5 + r.nextInt(4)])
          .append("coins ").append(r.nextInt(1000)).append(";");
    }
    for (int i = r.nextInt(9); i > 0; i--) {
      int p = r.nextInt(people);
      int q = (p + 1 + r.nextInt(people - 1)) % people;
      b.append("wrong p").append((char) ('a' + p)).append(" to p").append((char) ('a' + q)).append(" size ")
          .append(1 + r.nextInt(9)).append(";");
    }
    for (int q = 1; q < people; q++) {
      b.append("lane pa p").append((char) ('a' + q)).append(' ').append(1 + r.nextInt(30)).append(";");
      if (q < 5) {
        b.append("walk pa to p").append((char) ('a' + q)).append(";");
      }
    }
    return b.append("bar 20; wind 4; heals sore * sore - 7; burns sore + nights;").toString();
  }

  private static int arg(Random r) {
    return switch (r.nextInt(12)) {
      case 0 -> r.nextInt();
      case 1 -> Integer.MIN_VALUE;
      case 2 -> Integer.MAX_VALUE;
      case 3 -> r.nextInt(256);
      case 4, 5 -> r.nextInt(12) - 2;
      default -> r.nextInt(6);
    };
  }

  private static void counts(PardonLamps x) {
    if (x.count(10) < 0 || x.count(10) > 16 || x.count(11) < 0 || x.count(11) > 1000) {
      throw new IllegalStateException("counts");
    }
  }

  private static void call(PardonLamps x, Random r, int which, int a, int b, int c) {
    switch (which) {
      case 0, 33, 34, 35 -> text(x, r);
      case 1 -> x.town();
      case 2 -> x.year();
      case 3 -> x.person(a, b);
      case 4 -> x.wrong(a, b);
      case 5 -> x.lamps();
      case 6 -> x.dark(a, b, c);
      case 7 -> x.harm();
      case 8 -> x.say(a);
      case 9 -> x.give(a, b);
      case 10 -> x.ask(a);
      case 11 -> x.night();
      case 12 -> x.undo();
      case 13 -> x.judged(a);
      case 14 -> x.pay(a, b, c);
      case 15 -> x.when(a, b);
      case 16 -> x.grudges(a, r.nextBoolean());
      case 17 -> x.ripe(a);
      case 18 -> x.price(a, b);
      case 19 -> x.stays(a, b);
      case 20 -> x.middle();
      case 21 -> x.round(a, b, c);
      case 22 -> x.circle();
      case 23 -> x.need();
      case 24 -> x.wind(a, b);
      case 25 -> x.see(a, b, r.nextBoolean());
      case 26 -> x.sets(a);
      case 27 -> x.look();
      case 28 -> x.law(a, b);
      case 29 -> rests(x, a, b, c);
      case 30 -> x.years(a, b, c);
      case 31 -> x.mark(a, r.nextBoolean());
      default -> x.count(a);
    }
  }

  private static void rests(PardonLamps x, int a, int b, int c) {
    try {
      x.rests(a, b, c);
    } catch (NoSuchElementException e) {
      // The document's own.
    }
  }

  private static void text(PardonLamps x, Random r) {
    if (r.nextInt(4) == 0) {
      x.feed(r.nextLong(), r.nextLong(), r.nextLong());
      return;
    }
    StringBuilder b = new StringBuilder();
    for (int i = r.nextInt(30); i > 0; i--) {
      b.append(BITS[r.nextInt(BITS.length)]);
    }
    Check.feed(x, b.toString());
  }
}
