import java.util.ArrayList;
import java.util.List;
import java.util.Random;

/**
 * The document read a second time, as plainly and as slowly as can be: all ways, all rows and all
 * sets are tried one by one. The random towns of ModelTest are answered by it and by the class.
 */
final class Model {
  /** A way: its DARK, its minutes, its doors. */
  record Way(int dark, int minutes, List<Integer> doors) {
    boolean before(Way o) {
      if (dark != o.dark) {
        return dark < o.dark;
      }
      if (minutes != o.minutes) {
        return minutes < o.minutes;
      }
      for (int i = 0; i < Math.min(doors.size(), o.doors.size()); i++) {
        int order = Integer.compare(doors.get(i), o.doors.get(i));
        if (order != 0) {
          return order < 0;
        }
      }
      return false;
    }
  }

  /** An E: its text and its worth. */
  interface E {
    String text();

    int worth(int large, int sore, int nights);
  }

  record Leaf(String text) implements E {
    public int worth(int large, int sore, int nights) {
      return switch (text) {
        case "large" -> large;
        case "sore" -> sore;
        case "nights" -> nights;
        default -> Integer.parseInt(text);
      };
    }
  }

  record Not(E part) implements E {
    public String text() {
      return "not " + part.text();
    }

    public int worth(int large, int sore, int nights) {
      return part.worth(large, sore, nights) == 0 ? 1 : 0;
    }
  }

  record Open(E part) implements E {
    public String text() {
      return "(" + part.text() + ")";
    }

    public int worth(int large, int sore, int nights) {
      return part.worth(large, sore, nights);
    }
  }

  record Row(List<E> parts, List<String> joints) implements E {
    public String text() {
      StringBuilder b = new StringBuilder(parts.get(0).text());
      for (int i = 0; i < joints.size(); i++) {
        b.append(' ').append(joints.get(i)).append(' ').append(parts.get(i + 1).text());
      }
      return b.toString();
    }

    public int worth(int large, int sore, int nights) {
      int got = parts.get(0).worth(large, sore, nights);
      for (int i = 0; i < joints.size(); i++) {
        int next = parts.get(i + 1).worth(large, sore, nights);
        got = switch (joints.get(i)) {
          case "*" -> got * next;
          case "+" -> got + next;
          case "-" -> got - next;
          case "<" -> got < next ? 1 : 0;
          case "=" -> got == next ? 1 : 0;
          case "and" -> got != 0 && next != 0 ? 1 : 0;
          default -> got != 0 || next != 0 ? 1 : 0;
        };
      }
      return got;
    }
  }

  static E part(Random r, int within) {
    int pick = r.nextInt(within >= 4 ? 6 : 9);
    if (pick < 3) {
      return new Leaf(String.valueOf(r.nextInt(r.nextInt(8) == 0 ? 10000 : 7)));
    }
    if (pick < 6) {
      return new Leaf(List.of("large", "sore", "nights").get(pick - 3));
    }
    return pick == 6 ? new Not(part(r, within + 1)) : new Open(law(r, within + 1));
  }

  static E law(Random r, int within) {
    return row(r, within, 0);
  }

  private static E row(Random r, int within, int rank) {
    if (rank == 4) {
      return part(r, within);
    }
    List<String> signs = List.of(List.of("and", "or"), List.of("<", "="), List.of("+", "-"), List.of("*")).get(rank);
    int more = r.nextInt(4) == 0 ? 1 + r.nextInt(rank == 1 ? 1 : 2) : 0;
    List<E> parts = new ArrayList<>();
    List<String> joints = new ArrayList<>();
    parts.add(row(r, within, rank + 1));
    for (int i = 0; i < more; i++) {
      joints.add(signs.get(r.nextInt(signs.size())));
      parts.add(row(r, within, rank + 1));
    }
    return new Row(parts, joints);
  }

  // What is told, shared by all copies.
  int people;
  int[] kind;
  int[] told;
  int[][] lane;
  int wrongs;
  int[] by;
  int[] to;
  int[] size;
  List<int[]> walks;
  int bar = 3;
  int wind;
  E words = new Leaf("2");
  E heals = new Leaf("1");
  E burns = new Leaf("large");

  // How all stands.
  int night;
  int harm;
  int[] sore;
  boolean[] forgiven;
  boolean[] said;
  int[] lamp;
  int[] coins;

  void begin() {
    night = 0;
    harm = 0;
    sore = new int[wrongs];
    for (int w = 0; w < wrongs; w++) {
      sore[w] = 3 * size[w];
    }
    forgiven = new boolean[wrongs];
    said = new boolean[wrongs];
    lamp = new int[people];
    coins = told.clone();
  }

  Model copy() {
    Model m = new Model();
    m.people = people;
    m.kind = kind;
    m.told = told;
    m.lane = lane;
    m.wrongs = wrongs;
    m.by = by;
    m.to = to;
    m.size = size;
    m.walks = walks;
    m.bar = bar;
    m.wind = wind;
    m.words = words;
    m.heals = heals;
    m.burns = burns;
    m.night = night;
    m.harm = harm;
    m.sore = sore.clone();
    m.forgiven = forgiven.clone();
    m.said = said.clone();
    m.lamp = lamp.clone();
    m.coins = coins.clone();
    return m;
  }

  static int between(int least, int value, int most) {
    return value < least ? least : value > most ? most : value;
  }

  int barOf(int w) {
    return bar + (kind[to[w]] == 2 ? 3 : 0);
  }

  int say(int w) {
    if (w < 0 || w >= wrongs || forgiven[w] || said[w]) {
      return -1;
    }
    said[w] = true;
    sore[w] = Math.max(0, sore[w] - between(0, words.worth(size[w], sore[w], night), 99));
    return sore[w];
  }

  int give(int w, int n) {
    if (w < 0 || w >= wrongs || n < 1 || n > 99 || forgiven[w] || coins[by[w]] < n) {
      return -1;
    }
    coins[by[w]] -= n;
    coins[to[w]] += n;
    sore[w] = Math.max(0, sore[w] - n);
    return sore[w];
  }

  int ask(int w) {
    return ask(w, 0);
  }

  int ask(int w, int more) {
    if (w < 0 || w >= wrongs || forgiven[w]) {
      return -1;
    }
    if (sore[w] <= barOf(w)) {
      forgiven[w] = true;
      int nights = between(0, burns.worth(size[w], sore[w], night), 30) * (kind[to[w]] == 3 ? 2 : 1) + more;
      lamp[to[w]] = Math.min(99, lamp[to[w]] + nights);
      return 1;
    }
    sore[w] = Math.min(99, sore[w] + (kind[to[w]] == 1 ? 2 : 1));
    return 0;
  }

  int night() {
    int h = harmNow();
    harm += h;
    for (int p = 0; p < people; p++) {
      if (lamp[p] > 0) {
        lamp[p]--;
      }
    }
    for (int w = 0; w < wrongs; w++) {
      if (!forgiven[w]) {
        sore[w] = between(0, sore[w] - between(-9, heals.worth(size[w], sore[w], night), 9), 99);
      }
      said[w] = false;
    }
    night++;
    return h;
  }

  int lamps() {
    int set = 0;
    for (int p = 0; p < people; p++) {
      set |= lamp[p] > 0 ? 1 << p : 0;
    }
    return set;
  }

  Way way(int burning, int from, int goal) {
    List<Integer> doors = new ArrayList<>();
    doors.add(from);
    return way(burning, goal, new Way(0, 0, doors));
  }

  /** The best of all ways without a door twice. */
  private Way way(int burning, int goal, Way so) {
    int at = so.doors.get(so.doors.size() - 1);
    if (at == goal) {
      return so;
    }
    Way best = null;
    for (int next = 0; next < people; next++) {
      if (lane[at][next] > 0 && !so.doors.contains(next)) {
        boolean lit = (burning >> at & 1) == 1 || (burning >> next & 1) == 1;
        List<Integer> doors = new ArrayList<>(so.doors);
        doors.add(next);
        Way on = new Way(so.dark + (lit ? 0 : lane[at][next]), so.minutes + lane[at][next], doors);
        Way found = way(burning, goal, on);
        if (found != null && (best == null || found.before(best))) {
          best = found;
        }
      }
    }
    return best;
  }

  boolean lit(int burning, int from, int goal) {
    Way w = way(burning, from, goal);
    return w != null && w.dark == 0;
  }

  int harmNow() {
    int sum = 0;
    for (int[] walk : walks) {
      Way w = way(lamps(), walk[0], walk[1]);
      sum += w == null ? 100 : w.dark;
    }
    return sum;
  }

  boolean two(int from, int goal) {
    return from >= 0 && goal >= 0 && from < people && goal < people && from != goal;
  }

  int dark(int from, int goal, int what) {
    if (!two(from, goal) || what < 0 || what > 2) {
      return -1;
    }
    Way w = way(lamps(), from, goal);
    if (w == null) {
      return -1;
    }
    return what == 0 ? w.dark : what == 1 ? w.minutes : w.doors.get(1);
  }

  /** By gifts and asks on copies, each set for itself. */
  int[] pay(int from, int goal) {
    int[] best = {-1, -1};
    for (int set = 0; set < 1 << wrongs; set++) {
      Model m = copy();
      int[] purse = coins.clone();
      int sum = 0;
      boolean can = true;
      for (int w = 0; w < wrongs; w++) {
        if ((set >> w & 1) == 1) {
          int price = Math.max(0, sore[w] - barOf(w));
          purse[by[w]] -= price;
          can &= !forgiven[w] && purse[by[w]] >= 0;
          sum += price;
          m.coins[by[w]] += 1000;
          if (can && price > 0) {
            m.give(w, price);
          }
        }
      }
      for (int w = 0; can && w < wrongs; w++) {
        if ((set >> w & 1) == 1 && m.ask(w) != 1) {
          throw new IllegalStateException("refused in spite of its price");
        }
      }
      if (can && (best[0] < 0 || sum < best[0]) && m.lit(m.lamps(), from, goal)) {
        best = new int[] {sum, set};
      }
    }
    return best;
  }

  /** All rows; the answer is the HARM and then the asks. */
  int[] when(int nights) {
    int[] best = null;
    int choices = wrongs + 1;
    int rows = (int) Math.round(Math.pow(choices, nights));
    for (int row = 0; row < rows; row++) {
      int[] picks = new int[nights];
      int rest = row;
      for (int i = nights - 1; i >= 0; i--) {
        picks[i] = rest % choices;
        rest /= choices;
      }
      Model m = copy();
      int sum = 0;
      boolean can = true;
      for (int pick : picks) {
        if (pick < wrongs) {
          can &= m.ask(pick) >= 0;
        }
        sum += m.night();
      }
      if (can && (best == null || sum < best[0])) {
        best = new int[nights + 1];
        best[0] = sum;
        for (int i = 0; i < nights; i++) {
          best[i + 1] = picks[i] < wrongs ? picks[i] : -1;
        }
      }
    }
    return best;
  }

  int ripe(int w) {
    Model m = copy();
    for (int n = 0; n <= 60; n++) {
      if (!forgiven[w] && m.copy().ask(w) == 1) {
        return n;
      }
      m.night();
    }
    return -1;
  }

  int price(int w, int nights) {
    if (forgiven[w]) {
      return -1;
    }
    Model m = copy();
    for (int i = 0; i < nights; i++) {
      m.say(w);
      m.night();
    }
    for (int n = 0; n <= 99; n++) {
      Model gift = m.copy();
      gift.coins[by[w]] = 1000;
      if (n > 0) {
        gift.give(w, n);
      }
      if (gift.ask(w) == 1) {
        return n;
      }
    }
    throw new IllegalStateException("no price");
  }

  int stays(int from, int goal) {
    Model m = copy();
    int n = 0;
    while (n < 99 && m.lit(m.lamps(), from, goal)) {
      m.night();
      n++;
    }
    return n;
  }

  int middle() {
    int best = -1;
    int least = Integer.MAX_VALUE;
    for (int p = 0; p < people; p++) {
      int sum = 0;
      for (int q = 0; q < people; q++) {
        if (p != q) {
          Way w = way(lamps(), p, q);
          sum += w == null ? 100 : w.dark;
        }
      }
      if (sum < least) {
        least = sum;
        best = p;
      }
    }
    return best;
  }

  private int fewestMinutes(int from, int goal) {
    Way w = way((1 << people) - 1, from, goal);
    return w == null ? -1 : w.minutes;
  }

  private int ripeAt(int door) {
    int n = 0;
    for (int w = 0; w < wrongs; w++) {
      n += to[w] == door && copy().ask(w) == 1 ? 1 : 0;
    }
    return n;
  }

  int[] round(int from, int minutes) {
    int set = ripeAt(from) > 0 ? 1 << from : 0;
    int[] best = {ripeAt(from), 0, set};
    return round(from, minutes, best.clone(), best);
  }

  private int[] round(int at, int most, int[] so, int[] best) {
    if (so[0] > best[0] || so[0] == best[0] && (so[1] < best[1] || so[1] == best[1] && so[2] < best[2])) {
      best = so.clone();
    }
    for (int door = 0; door < people; door++) {
      int ripe = ripeAt(door);
      int way = fewestMinutes(at, door);
      if (ripe > 0 && (so[2] >> door & 1) == 0 && way >= 0 && so[1] + way <= most) {
        best = round(door, most, new int[] {so[0] + ripe, so[1] + way, so[2] | 1 << door}, best);
      }
    }
    return best;
  }

  int circle() {
    int best = -1;
    for (int w = 0; w < wrongs; w++) {
      if (!forgiven[w]) {
        best = circle(by[w], to[w], 1 << w, best);
      }
    }
    return best;
  }

  private int circle(int start, int at, int set, int best) {
    if (at == start) {
      boolean less = best < 0 || Integer.bitCount(set) < Integer.bitCount(best)
          || Integer.bitCount(set) == Integer.bitCount(best) && set < best;
      return less ? set : best;
    }
    for (int w = 0; w < wrongs; w++) {
      if (!forgiven[w] && by[w] == at && (set >> w & 1) == 0) {
        best = circle(start, to[w], set | 1 << w, best);
      }
    }
    return best;
  }

  int need() {
    for (int many = 0; many <= people; many++) {
      for (int set = 0; set < 1 << people; set++) {
        boolean all = Integer.bitCount(set) == many;
        for (int[] walk : walks) {
          Way w = way(set, walk[0], walk[1]);
          all &= w == null || w.dark == 0;
        }
        if (all) {
          return set;
        }
      }
    }
    throw new IllegalStateException("all lamps are not enough");
  }

  /** By a tree of chances, a lamp a level. */
  int wind(int from, int goal) {
    double chance = wind(0, 0, 1.0, from, goal);
    return (int) Math.floor(chance * 1_000_000 + 1e-6);
  }

  private double wind(int p, int left, double chance, int from, int goal) {
    if (p == people) {
      return lit(left, from, goal) ? chance : 0;
    }
    if (lamp[p] == 0) {
      return wind(p + 1, left, chance, from, goal);
    }
    return wind(p + 1, left, chance * wind / 10, from, goal)
        + wind(p + 1, left | 1 << p, chance * (10 - wind) / 10, from, goal);
  }

  /** Whether a lamp burns behind nights, if nothing else is done. */
  private boolean burnsBehind(int p, int nights) {
    Model m = copy();
    for (int i = 0; i < nights; i++) {
      m.night();
    }
    return m.lamp[p] > 0;
  }

  List<Integer> sets(List<int[]> sights) {
    List<Integer> found = new ArrayList<>();
    for (int set = 0; set < 1 << wrongs; set++) {
      Model m = asked(set);
      boolean all = m != null;
      for (int[] s : sights) {
        all = all && m.burnsBehind(s[0], s[1]) == (s[2] == 1);
      }
      if (all) {
        found.add(set);
      }
    }
    return found;
  }

  private Model asked(int set) {
    Model m = copy();
    for (int w = 0; w < wrongs; w++) {
      if ((set >> w & 1) == 1 && m.ask(w) != 1) {
        return null;
      }
    }
    return m;
  }

  int look(List<int[]> sights) {
    List<Integer> sets = sets(sights);
    int best = -1;
    int least = sets.size();
    for (int p = 0; p < people; p++) {
      for (int n = 0; n <= 9; n++) {
        int burn = 0;
        for (int set : sets) {
          burn += asked(set).burnsBehind(p, n) ? 1 : 0;
        }
        int greater = Math.max(burn, sets.size() - burn);
        if (greater < least) {
          least = greater;
          best = p * 10 + n;
        }
      }
    }
    return best;
  }

  int law(int nights, int more) {
    Model m = copy();
    int sum = 0;
    for (int i = 0; i < nights; i++) {
      for (int w = 0; w < wrongs; w++) {
        if (m.copy().ask(w) == 1) {
          m.ask(w, more);
        }
      }
      sum += m.night();
    }
    return sum;
  }

  int[] years(int seed, int nights) {
    Model m = copy();
    java.math.BigInteger[] g = {java.math.BigInteger.valueOf(seed)};
    int sum = 0;
    for (int i = 0; i < nights; i++) {
      if (wrongs > 0) {
        int w = draw(g, wrongs);
        int deed = draw(g, 3);
        if (deed == 0) {
          m.say(w);
        } else if (deed == 1) {
          m.give(w, 1);
        } else {
          m.ask(w);
        }
      }
      sum += m.night();
    }
    int lampNights = 0;
    for (int n : m.lamp) {
      lampNights += n;
    }
    return new int[] {sum, m.forgivenCount(), lampNights};
  }

  private static int draw(java.math.BigInteger[] g, int below) {
    g[0] = g[0].multiply(java.math.BigInteger.valueOf(1103515245L)).add(java.math.BigInteger.valueOf(12345L))
        .mod(java.math.BigInteger.valueOf(2147483648L));
    return (int) (g[0].longValue() / 65536 % below);
  }

  int forgivenCount() {
    int n = 0;
    for (boolean f : forgiven) {
      n += f ? 1 : 0;
    }
    return n;
  }

  /** Lines of a YEAR, each of deed (0 say, 1 give, 2 ask, 3 night), wrong, coins. */
  int[] judged(List<int[]> year) {
    Model m = copy();
    m.begin();
    int first = -1;
    for (int i = 0; i < year.size(); i++) {
      int[] l = year.get(i);
      int got = switch (l[0]) {
        case 0 -> m.say(l[1]);
        case 1 -> m.give(l[1], l[2]);
        case 2 -> m.ask(l[1]);
        default -> m.night();
      };
      if (got == -1 && first == -1) {
        first = i;
      }
    }
    return new int[] {first, m.forgivenCount(), m.harm};
  }
}
