import java.util.ArrayList;
import java.util.List;
import java.util.Random;

/**
 * Random texts, most of them with something wrong, told to one object one behind another: each answer
 * as TextModel reads it, and behind each all stands as its Model does.
 */
final class TextModelTest {
  private static final Check check = new Check("TextModelTest");
  private static final String[] ODD = {"person", "coins", "lane", "wrong", "to", "size", "walk", "bar", "wind", "words",
      "heals", "burns", "say", "give", "ask", "night", "plain", "sulky", "saint", "priest", "not", "and", "or", "large",
      "sore", "nights", "(", ")", "<", "=", "+", "-", "*", ";", "0", "1", "9", "10", "11", "30", "31", "99", "100", "999",
      "1000", "9999", "00000", "0007", "abcdefgh", "abcdefghi", "aa", "bb", "zz", "A", "!", ",", "~", ":", "_", "1a", "a1",
      ">", "/", "\"", "\t", "\u007f"};
  private static final int KINDS_OF_FAULTS = 6;

  private final Random r;
  private final String where;
  private final PardonLamps x = new PardonLamps();
  private Model m;
  private List<int[]> year = new ArrayList<>();
  private int undone;
  private static final int[] seen = new int[KINDS_OF_FAULTS];

  public static void main(String[] args) throws TextModel.Fault {
    int runs = args.length > 0 ? Integer.parseInt(args[0]) : 1500;
    int first = args.length > 1 ? Integer.parseInt(args[1]) : 1;
    for (int seed = first; seed < first + runs; seed++) {
      new TextModelTest(seed).run();
    }
    for (int kind = 0; kind < KINDS_OF_FAULTS; kind++) {
      check.due("texts of fault " + kind + ": " + seen[kind], runs < 1000 || seen[kind] > 100, true);
    }
    check.end();
  }

  private TextModelTest(int seed) throws TextModel.Fault {
    r = new Random(seed);
    where = "run " + seed + ": ";
    m = TextModel.town("");
  }

  private void run() {
    for (int i = 0; i < 8; i++) {
      if (r.nextInt(3) == 0) {
        tellYear();
      } else {
        tellTown();
      }
      state();
      for (int act = r.nextInt(6); act > 0; act--) {
        byHand();
      }
      state();
    }
  }

  private void tellTown() {
    String text = onTape(spoiled(townTokens()));
    int want = 0;
    Model next = m;
    try {
      next = TextModel.town(text);
    } catch (TextModel.Fault fault) {
      want = fault.number;
    }
    seen[want % 16]++;
    due("town " + text, x.town(), want);
    if (want == 0) {
      m = next;
      year = new ArrayList<>();
      undone = 0;
    }
  }

  private void tellYear() {
    String text = onTape(spoiled(yearTokens()));
    int want = 0;
    List<int[]> next = year;
    try {
      next = TextModel.year(text, m.wrongs);
    } catch (TextModel.Fault fault) {
      want = fault.number;
    }
    seen[want % 16]++;
    due("year of " + m.wrongs + " wrongs " + text, x.year(), want);
    year = next;
  }

  /** Feeds a text; what the TAPE holds of it. */
  private String onTape(String text) {
    Check.feed(x, text);
    StringBuilder b = new StringBuilder();
    for (char sign : text.toCharArray()) {
      if ((sign == 10 || sign >= 32 && sign <= 126) && b.length() < 1000) {
        b.append(sign);
      }
    }
    due("signs", x.count(11), b.length());
    return b.toString();
  }

  private List<String> townTokens() {
    List<String> tokens = new ArrayList<>();
    List<String> names = new ArrayList<>();
    List<Integer> once = new ArrayList<>(List.of(10, 11, 12, 13, 14));
    int lines = r.nextInt(4) == 0 ? r.nextInt(4) : 6 + r.nextInt(22);
    for (int i = 0; i < lines; i++) {
      int pick = names.size() < 2 ? 0 : r.nextInt(15);
      if (pick == 0) {
        names.add(List.of("aa", "bb", "large", "d", "eeeeeeee", "sore", "nights").get(Math.min(6, names.size())));
        add(tokens, "person " + names.get(names.size() - 1) + " " + ODD[16 + r.nextInt(4)] + " coins " + r.nextInt(1000) + " ;");
        continue;
      }
      String one = someName(names, "");
      String two = someName(names, one);
      if (pick >= 10 && !once.remove(Integer.valueOf(pick)) && r.nextInt(30) > 0) {
        continue;
      }
      switch (pick) {
        case 1, 2, 3, 4 -> add(tokens, "wrong " + one + " to " + two + " size " + (1 + r.nextInt(9)) + " ;");
        case 5, 6, 7 -> add(tokens, "lane " + one + " " + two + " " + (1 + r.nextInt(30)) + " ;");
        case 8, 9 -> add(tokens, "walk " + one + " to " + two + " ;");
        case 10 -> add(tokens, "bar " + r.nextInt(31) + " ;");
        case 11 -> add(tokens, "wind " + r.nextInt(11) + " ;");
        default -> add(tokens, ODD[9 + pick - 12] + " " + someLaw() + " ;");
      }
    }
    return tokens;
  }

  /** A name that was told, and another one; now and then neither. */
  private String someName(List<String> names, String other) {
    if (r.nextInt(60) == 0) {
      return r.nextBoolean() ? "zz" : ODD[r.nextInt(ODD.length)];
    }
    String name = names.get(r.nextInt(names.size()));
    for (int i = 0; i < 20 && name.equals(other); i++) {
      name = names.get(r.nextInt(names.size()));
    }
    return name;
  }

  /** A law that is not too deep, or, now and then, one that is or may be. */
  private String someLaw() {
    boolean deep = r.nextInt(6) == 0;
    StringBuilder b = new StringBuilder(Model.law(r, deep ? 0 : 2).text());
    for (int i = deep ? r.nextInt(5) : 0; i > 0; i--) {
      b.insert(0, r.nextBoolean() ? "not (" : "(").append(")");
    }
    return b.toString().replaceAll("([()])", " $1 ");
  }

  private List<String> yearTokens() {
    List<String> tokens = new ArrayList<>();
    for (int i = r.nextInt(4) == 0 ? 29 + r.nextInt(4) : r.nextInt(12); i > 0; i--) {
      int wrong = r.nextInt(Math.max(1, m.wrongs + r.nextInt(20) / 19));
      switch (m.wrongs == 0 && r.nextInt(6) > 0 ? 3 : r.nextInt(4)) {
        case 0 -> add(tokens, "say " + wrong + " ;");
        case 1 -> add(tokens, "give " + wrong + " " + (1 + r.nextInt(99)) + " ;");
        case 2 -> add(tokens, "ask " + wrong + " ;");
        default -> add(tokens, "night ;");
      }
    }
    return tokens;
  }

  private static void add(List<String> tokens, String line) {
    tokens.addAll(List.of(line.trim().split(" +")));
  }

  /** The tokens as a text, in half of the cases with some of them changed. */
  private String spoiled(List<String> tokens) {
    for (int i = r.nextBoolean() ? 0 : 1 + r.nextInt(2); i > 0 && !tokens.isEmpty(); i--) {
      int at = r.nextInt(tokens.size());
      switch (r.nextInt(5)) {
        case 0 -> tokens.remove(at);
        case 1 -> tokens.add(at, ODD[r.nextInt(ODD.length)]);
        case 2 -> tokens.add(r.nextInt(tokens.size() + 1), tokens.get(at));
        case 3 -> tokens.subList(at, tokens.size()).clear();
        default -> tokens.set(at, ODD[r.nextInt(ODD.length)]);
      }
    }
    StringBuilder b = new StringBuilder();
    boolean narrow = r.nextBoolean();
    for (String token : tokens) {
      boolean apart = b.length() == 0 || !isLetterOrDigit(b.charAt(b.length() - 1)) || !isLetterOrDigit(token.charAt(0));
      boolean number = b.length() > 0 && (isDigit(b.charAt(b.length() - 1)) != isDigit(token.charAt(0)));
      if (narrow && (apart || number) || r.nextInt(400) == 0) {
        b.append(token);
      } else {
        b.append(r.nextInt(9) == 0 ? " \n" : r.nextInt(9) == 0 ? "\n" : " ").append(token);
      }
    }
    return b.append(r.nextInt(5) == 0 ? "\n " : "").toString();
  }

  private static boolean isLetterOrDigit(char c) {
    return c >= 'a' && c <= 'z' || isDigit(c);
  }

  private static boolean isDigit(char c) {
    return c >= '0' && c <= '9';
  }

  private void byHand() {
    int w = r.nextInt(m.wrongs + 1);
    int coins = 1 + r.nextInt(r.nextBoolean() ? 5 : 99);
    int got;
    switch (r.nextInt(4)) {
      case 0 -> due("say " + w, x.say(w), got = m.say(w));
      case 1 -> due("give " + w + " " + coins, x.give(w, coins), got = m.give(w, coins));
      case 2 -> due("ask " + w, x.ask(w), got = m.ask(w));
      default -> due("night", x.night(), got = m.night());
    }
    undone = Math.min(16, undone + (got == -1 ? 0 : 1));
  }

  private void state() {
    due("people", x.count(0), m.people);
    int lanes = 0;
    for (int p = 0; p < m.people; p++) {
      due("kind", x.person(p, 0), m.kind[p]);
      due("coins", x.person(p, 1), m.coins[p]);
      due("lamp", x.person(p, 2), m.lamp[p]);
      for (int q = 0; q < m.people; q++) {
        lanes += p < q && m.lane[p][q] > 0 ? 1 : 0;
        due("dark", x.dark(p, q, 0), m.dark(p, q, 0));
        due("minutes", x.dark(p, q, 1), m.dark(p, q, 1));
        due("wind", x.wind(p, q), m.two(p, q) ? m.wind(p, q) : -1);
      }
    }
    due("lanes", x.count(1), lanes);
    due("wrongs", x.count(2), m.wrongs);
    for (int w = 0; w < m.wrongs; w++) {
      due("by", x.wrong(w, 0), m.by[w]);
      due("to", x.wrong(w, 1), m.to[w]);
      due("size", x.wrong(w, 2), m.size[w]);
      due("sore", x.wrong(w, 3), m.sore[w]);
      due("forgiven", x.wrong(w, 4), m.forgiven[w] ? 1 : 0);
      due("said", x.wrong(w, 5), m.said[w] ? 1 : 0);
      due("bar", x.wrong(w, 6), m.barOf(w));
    }
    due("walks", x.count(3), m.walks.size());
    due("night", x.count(4), m.night);
    due("harm", x.count(6), m.harm);
    due("lines", x.count(8), year.size());
    due("undone", x.count(10), undone);
    due("tape", x.count(11), 0);
    int[] judged = m.judged(year);
    for (int what = 0; what < 3; what++) {
      due("judged " + what, x.judged(what), judged[what]);
    }
  }

  private void due(String call, long got, long want) {
    check.due(where + call, got, want);
  }
}
