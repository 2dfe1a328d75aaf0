import java.util.ArrayList;
import java.util.List;
import java.util.Random;

/** Random towns and runs of calls, each answered by the class and by the slow Model. */
final class ModelTest {
  private static final Check check = new Check("ModelTest");
  private static final List<String> KINDS = List.of("plain", "sulky", "saint", "priest");

  public static void main(String[] args) {
    int towns = args.length > 0 ? Integer.parseInt(args[0]) : 300;
    int first = args.length > 1 ? Integer.parseInt(args[1]) : 1;
    for (int seed = first; seed < first + towns; seed++) {
      new ModelTest(seed).run();
    }
    check.end();
  }

  private final Random r;
  private final String where;
  private final PardonLamps x = new PardonLamps();
  private Model m;
  private List<int[]> year = new ArrayList<>();
  private List<int[]> sights = new ArrayList<>();
  private final List<Model> past = new ArrayList<>();
  private final Model[] marks = new Model[4];
  private final List<List<int[]>> markSights = new ArrayList<>();

  private ModelTest(int seed) {
    r = new Random(seed);
    where = "town " + seed + ": ";
    for (int i = 0; i < 4; i++) {
      markSights.add(null);
    }
  }

  private void run() {
    String text = makeTown();
    due("town " + text, Check.town(x, text), 0);
    makeYear();
    for (int i = 0; i < 25; i++) {
      byHand();
      state();
      queries();
    }
  }

  private String makeTown() {
    m = new Model();
    StringBuilder b = new StringBuilder();
    m.people = r.nextInt(8) == 0 ? r.nextInt(3) : 3 + r.nextInt(4);
    m.kind = new int[m.people];
    m.told = new int[m.people];
    for (int p = 0; p < m.people; p++) {
      m.kind[p] = r.nextInt(4);
      m.told[p] = r.nextInt(r.nextBoolean() ? 8 : 40);
      b.append("person ").append(name(p)).append(' ').append(KINDS.get(m.kind[p])).append(" coins ")
          .append(m.told[p]).append(";");
    }
    m.lane = new int[m.people][m.people];
    int odds = 1 + r.nextInt(4);
    int longest = r.nextBoolean() ? 3 : 30;
    for (int p = 0; p < m.people; p++) {
      for (int q = p + 1; q < m.people; q++) {
        if (r.nextInt(5) < odds) {
          m.lane[p][q] = 1 + r.nextInt(longest);
          m.lane[q][p] = m.lane[p][q];
          b.append("lane ").append(name(p)).append(' ').append(name(q)).append(' ').append(m.lane[p][q]).append(";");
        }
      }
    }
    m.wrongs = m.people < 2 ? 0 : r.nextInt(r.nextBoolean() ? 6 : 9);
    m.by = new int[m.wrongs];
    m.to = new int[m.wrongs];
    m.size = new int[m.wrongs];
    int largest = r.nextBoolean() ? 2 : 9;
    for (int w = 0; w < m.wrongs; w++) {
      m.by[w] = r.nextInt(m.people);
      m.to[w] = another(m.by[w]);
      m.size[w] = 1 + r.nextInt(largest);
      b.append("wrong ").append(name(m.by[w])).append(" to ").append(name(m.to[w])).append(" size ")
          .append(m.size[w]).append(";");
    }
    m.walks = new ArrayList<>();
    for (int i = m.people < 2 ? 0 : r.nextInt(5); i > 0; i--) {
      int from = r.nextInt(m.people);
      int to = another(from);
      m.walks.add(new int[] {from, to});
      b.append("walk ").append(name(from)).append(" to ").append(name(to)).append(";");
    }
    makeRules(b);
    m.begin();
    return b.toString();
  }

  private void makeRules(StringBuilder b) {
    if (r.nextBoolean()) {
      m.bar = r.nextInt(12);
      b.append("bar ").append(m.bar).append(";");
    }
    if (r.nextInt(4) > 0) {
      m.wind = r.nextInt(11);
      b.append("wind ").append(m.wind).append(";");
    }
    if (r.nextBoolean()) {
      m.words = shortLaw(b, "words");
    }
    if (r.nextBoolean()) {
      m.heals = shortLaw(b, "heals");
    }
    if (r.nextBoolean()) {
      m.burns = shortLaw(b, "burns");
    }
  }

  private Model.E shortLaw(StringBuilder b, String which) {
    Model.E law = Model.law(r, 0);
    for (int i = 0; i < 100 && b.length() + law.text().length() > 880; i++) {
      law = Model.law(r, 2);
    }
    if (b.length() + law.text().length() > 900) {
      law = new Model.Leaf("3");
    }
    b.append(which).append(' ').append(law.text()).append(";");
    return law;
  }

  private static String name(int p) {
    return "p" + (char) ('a' + p);
  }

  private int another(int p) {
    return (p + 1 + r.nextInt(m.people - 1)) % m.people;
  }

  private int someWrong() {
    return r.nextInt(m.wrongs + 2) - 1;
  }

  private void makeYear() {
    StringBuilder b = new StringBuilder();
    for (int i = r.nextInt(31); i > 0; i--) {
      int deed = m.wrongs == 0 ? 3 : r.nextInt(4);
      int w = deed == 3 ? 0 : r.nextInt(m.wrongs);
      int coins = 1 + r.nextInt(6);
      year.add(new int[] {deed, w, coins});
      b.append(List.of("say ", "give ", "ask ", "night").get(deed));
      if (deed < 3) {
        b.append(w);
      }
      if (deed == 1) {
        b.append(' ').append(coins);
      }
      b.append(";");
    }
    due("year", Check.year(x, b.toString()), 0);
    due("lines", x.count(8), year.size());
  }

  private void byHand() {
    Model before = m.copy();
    int w = someWrong();
    int coins = r.nextInt(6);
    int got = -1;
    switch (r.nextInt(12)) {
      case 0, 1, 2 -> due("say " + w, x.say(w), got = m.say(w));
      case 3, 4 -> due("give " + w + " " + coins, x.give(w, coins), got = m.give(w, coins));
      case 5, 6, 7 -> due("ask " + w, x.ask(w), got = m.ask(w));
      case 8, 9 -> due("night", x.night(), got = m.night());
      case 10 -> undo();
      default -> mark();
    }
    if (got != -1) {
      past.add(before);
      if (past.size() > 16) {
        past.remove(0);
      }
    }
  }

  private void undo() {
    for (int i = r.nextInt(3); i >= 0; i--) {
      due("undo", x.undo() ? 1 : 0, past.isEmpty() ? 0 : 1);
      if (!past.isEmpty()) {
        m = past.remove(past.size() - 1);
      }
    }
  }

  private void mark() {
    int at = r.nextInt(6) - 1;
    boolean back = r.nextBoolean();
    boolean can = at >= 0 && at < 4 && (!back || marks[at] != null);
    due("mark " + at + " " + back, x.mark(at, back) ? 1 : 0, can ? 1 : 0);
    if (can && back) {
      m = marks[at].copy();
      sights = new ArrayList<>(markSights.get(at));
      past.clear();
    } else if (can) {
      marks[at] = m.copy();
      markSights.set(at, new ArrayList<>(sights));
    }
  }

  private void state() {
    int forgiven = 0;
    int coins = 0;
    for (int w = 0; w < m.wrongs; w++) {
      due("by", x.wrong(w, 0), m.by[w]);
      due("to", x.wrong(w, 1), m.to[w]);
      due("size", x.wrong(w, 2), m.size[w]);
      due("sore", x.wrong(w, 3), m.sore[w]);
      due("forgiven", x.wrong(w, 4), m.forgiven[w] ? 1 : 0);
      due("said", x.wrong(w, 5), m.said[w] ? 1 : 0);
      due("bar", x.wrong(w, 6), m.barOf(w));
      forgiven |= m.forgiven[w] ? 1 << w : 0;
    }
    for (int p = 0; p < m.people; p++) {
      due("kind", x.person(p, 0), m.kind[p]);
      due("coins", x.person(p, 1), m.coins[p]);
      due("lamp", x.person(p, 2), m.lamp[p]);
      due("grudges by", x.grudges(p, true), grudges(p, m.by));
      due("grudges to", x.grudges(p, false), grudges(p, m.to));
      coins += m.coins[p];
    }
    due("lamps", x.lamps(), m.lamps());
    due("harm", x.harm(), m.harmNow());
    due("the night", x.count(4), m.night);
    due("forgiven ones", x.count(5), forgiven);
    due("harm in all", x.count(6), m.harm);
    due("coins of all", x.count(7), coins);
    due("sights", x.count(9), sights.size());
    due("what can be undone", x.count(10), past.size());
  }

  private int grudges(int p, int[] whose) {
    int set = 0;
    for (int w = 0; w < m.wrongs; w++) {
      set |= whose[w] == p && !m.forgiven[w] ? 1 << w : 0;
    }
    return set;
  }

  private void queries() {
    int from = r.nextInt(m.people + 1);
    int to = r.nextInt(m.people + 1);
    boolean two = m.two(from, to);
    int[] pay = two ? m.pay(from, to) : new int[] {-1, -1};
    for (int what = 0; what <= 2; what++) {
      due("dark " + from + " " + to + " " + what, x.dark(from, to, what), m.dark(from, to, what));
      due("pay " + from + " " + to + " " + what, x.pay(from, to, what), what < 2 ? pay[what] : -1);
    }
    due("stays " + from + " " + to, x.stays(from, to), two ? m.stays(from, to) : -1);
    due("wind " + from + " " + to, x.wind(from, to), two ? m.wind(from, to) : -1);
    due("middle", x.middle(), m.middle());
    due("circle", x.circle(), m.circle());
    due("need", x.need(), m.need());
    int w = someWrong();
    boolean one = w >= 0 && w < m.wrongs;
    int nights = r.nextInt(31);
    due("ripe " + w, x.ripe(w), one ? m.ripe(w) : -1);
    due("price " + w + " " + nights, x.price(w, nights), one ? m.price(w, nights) : -1);
    ahead();
    round();
    seen();
    if (r.nextInt(6) == 0) {
      int[] judged = m.judged(year);
      for (int what = 0; what < 3; what++) {
        due("judged " + what, x.judged(what), judged[what]);
      }
    }
  }

  private void ahead() {
    int nights = r.nextInt(12) == 0 ? 3 : 1 + r.nextInt(2);
    int[] when = m.when(nights);
    for (int what = 0; what <= nights; what++) {
      due("when " + nights + " " + what, x.when(nights, what), when[what]);
    }
    int lawNights = 1 + r.nextInt(12);
    int more = r.nextInt(10);
    due("law " + lawNights + " " + more, x.law(lawNights, more), m.law(lawNights, more));
    int seed = r.nextInt(10000);
    int yearNights = 1 + r.nextInt(r.nextInt(5) == 0 ? 100 : 20);
    int[] years = m.years(seed, yearNights);
    for (int what = 0; what < 3; what++) {
      due("years " + seed + " " + yearNights + " " + what, x.years(seed, yearNights, what), years[what]);
    }
  }

  private void round() {
    if (m.people == 0) {
      return;
    }
    int from = r.nextInt(m.people);
    int minutes = r.nextInt(r.nextBoolean() ? 12 : 201);
    int[] round = m.round(from, minutes);
    for (int what = 0; what < 3; what++) {
      due("round " + from + " " + minutes + " " + what, x.round(from, minutes, what), round[what]);
    }
  }

  private void seen() {
    if (r.nextInt(5) == 0) {
      int lamp = r.nextInt(m.people + 1);
      int nights = r.nextInt(r.nextBoolean() ? 3 : 11);
      boolean burns = r.nextBoolean();
      boolean can = lamp < m.people && nights < 10 && sights.size() < 8;
      due("see " + lamp + " " + nights + " " + burns, x.see(lamp, nights, burns) ? 1 : 0, can ? 1 : 0);
      if (can) {
        sights.add(new int[] {lamp, nights, burns ? 1 : 0});
      }
    }
    List<Integer> sets = m.sets(sights);
    int all = -1;
    int some = sets.isEmpty() ? -1 : 0;
    for (int set : sets) {
      all = all == -1 ? set : all & set;
      some |= set;
    }
    due("sets 0", x.sets(0), sets.size());
    due("sets 1", x.sets(1), all);
    due("sets 2", x.sets(2), some);
    if (sets.size() <= 32 || r.nextInt(10) == 0) {
      due("look", x.look(), m.look(sights));
    }
  }

  private void due(String call, long got, long want) {
    check.due(where + call, got, want);
  }
}
