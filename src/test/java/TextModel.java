import java.util.ArrayDeque;
import java.util.ArrayList;
import java.util.Deque;
import java.util.List;
import java.util.Map;
import java.util.Set;
import java.util.regex.Matcher;
import java.util.regex.Pattern;

/**
 * The telling of towns and years read a second time, by other means than the class: tokens by a
 * pattern, lines by rows of what may stand where, E by a stack of what is open, and the worth of an E
 * by joining neighbours until one number is left.
 */
final class TextModel {
  /** The first token that is wrong. */
  static final class Fault extends Exception {
    private static final long serialVersionUID = 1L;
    final int number;

    Fault(int kind, int place) {
      super("kind " + kind + " at " + place);
      number = kind + 16 * place;
    }
  }

  private static final Pattern TOKEN = Pattern.compile("[a-z]+|[0-9]+|[^ \n]");
  private static final List<String> KINDS = List.of("plain", "sulky", "saint", "priest");
  private static final Set<String> NO_NAMES = Set.of("person", "coins", "lane", "wrong", "to", "size", "walk", "bar",
      "wind", "words", "heals", "burns", "say", "give", "ask", "night", "plain", "sulky", "saint", "priest", "not", "and",
      "or");
  /** What stands behind the first word of each line: words and signs, and in capitals what is told. */
  private static final Map<String, String> TOWN_LINES = Map.of(
      "person", "NEW KIND coins N:0:999 ;",
      "lane", "DOOR PAIR N:1:30 ;",
      "wrong", "DOOR to OTHER size N:1:9 ;",
      "walk", "DOOR to OTHER ;",
      "bar", "N:0:30 ;",
      "wind", "N:0:10 ;",
      "words", "E ;",
      "heals", "E ;",
      "burns", "E ;");
  private static final Map<String, Integer> MOST = Map.of("person", 6, "wrong", 8, "walk", 4);
  private static final Set<String> ONCE = Set.of("bar", "wind", "words", "heals", "burns");
  private static final Map<String, String> YEAR_LINES = Map.of("say", "W ;", "give", "W N:1:99 ;", "ask", "W ;", "night", ";");
  private static final Map<String, Integer> DEEDS = Map.of("say", 0, "give", 1, "ask", 2, "night", 3);
  private static final int MOST_LINES = 30;
  private static final int MOST_WITHIN = 5;

  private final List<String> tokens = new ArrayList<>();
  private final List<Integer> places = new ArrayList<>();
  private int at;
  private final List<String> names = new ArrayList<>();
  /** The first words of all lines, and what each line told. */
  private final List<String> heads = new ArrayList<>();
  private final List<List<Object>> lines = new ArrayList<>();
  private int wrongs;

  private TextModel(String text) {
    Matcher m = TOKEN.matcher(text);
    while (m.find()) {
      tokens.add(m.group());
      places.add(m.start());
    }
    tokens.add("");
    places.add(text.length());
  }

  static Model town(String text) throws Fault {
    TextModel t = new TextModel(text);
    while (!t.token().isEmpty()) {
      t.line(TOWN_LINES);
    }
    return t.build();
  }

  /** Lines of deed, wrong, coins, as Model.judged takes them. */
  static List<int[]> year(String text, int wrongs) throws Fault {
    TextModel t = new TextModel(text);
    t.wrongs = wrongs;
    List<int[]> year = new ArrayList<>();
    while (!t.token().isEmpty()) {
      t.line(YEAR_LINES);
      List<Object> told = t.lines.get(year.size());
      year.add(new int[] {DEEDS.get(t.heads.get(year.size())), told.isEmpty() ? 0 : (int) told.get(0),
          told.size() > 1 ? (int) told.get(1) : 0});
    }
    return year;
  }

  private String token() {
    return tokens.get(at);
  }

  private Fault fault(int kind) {
    return new Fault(kind, places.get(at));
  }

  private void must(boolean so, int kind) throws Fault {
    if (!so) {
      throw fault(kind);
    }
  }

  private boolean isName() {
    return token().matches("[a-z]{1,8}") && !NO_NAMES.contains(token());
  }

  private void line(Map<String, String> rows) throws Fault {
    String head = token();
    must(rows.containsKey(head), 1);
    if (rows == YEAR_LINES) {
      must(heads.size() < MOST_LINES, 5);
    } else {
      long before = heads.stream().filter(head::equals).count();
      must(!ONCE.contains(head) || before == 0, 3);
      must(before < MOST.getOrDefault(head, 1000), 5);
    }
    at++;
    List<Object> told = new ArrayList<>();
    for (String piece : rows.get(head).split(" ")) {
      piece(piece, told);
    }
    heads.add(head);
    lines.add(told);
  }

  private void piece(String piece, List<Object> told) throws Fault {
    switch (piece.split(":")[0]) {
      case "NEW" -> {
        must(isName(), 1);
        must(!names.contains(token()), 3);
        names.add(token());
      }
      case "KIND" -> {
        must(KINDS.contains(token()), 1);
        told.add(KINDS.indexOf(token()));
      }
      case "DOOR", "OTHER", "PAIR" -> door(piece, told);
      case "N" -> {
        int least = Integer.parseInt(piece.split(":")[1]);
        int most = Integer.parseInt(piece.split(":")[2]);
        number(least, most, told);
      }
      case "W" -> number(0, wrongs - 1, told);
      case "E" -> {
        told.add(law());
        return;
      }
      default -> must(token().equals(piece), 1);
    }
    at++;
  }

  private void number(int least, int most, List<Object> told) throws Fault {
    must(token().matches("[0-9]{1,4}"), 1);
    int number = Integer.parseInt(token());
    must(number >= least && number <= most, 4);
    told.add(number);
  }

  private void door(String piece, List<Object> told) throws Fault {
    must(isName(), 1);
    must(names.contains(token()), 2);
    Integer door = names.indexOf(token());
    if (!piece.equals("DOOR")) {
      must(!door.equals(told.get(0)), 3);
    }
    if (piece.equals("PAIR")) {
      for (int i = 0; i < heads.size(); i++) {
        boolean same = heads.get(i).equals("lane")
            && Set.of(lines.get(i).get(0), lines.get(i).get(1)).equals(Set.of(told.get(0), door));
        must(!same, 3);
      }
    }
    told.add(door);
  }

  /** Takes the tokens of an E; what stands behind it is left. */
  private Model.E law() throws Fault {
    int from = at;
    Deque<String> open = new ArrayDeque<>();
    // Whether the TEST within each ( that is open has its < or = already, the outermost first.
    List<Boolean> compared = new ArrayList<>(List.of(false));
    boolean partIsDue = true;
    while (true) {
      String token = token();
      if (partIsDue) {
        boolean opens = token.equals("not") || token.equals("(");
        must(opens || token.matches("[0-9]{1,4}|large|sore|nights"), 1);
        must(open.size() < MOST_WITHIN, 5);
        if (opens) {
          open.push(token);
        }
        if (token.equals("(")) {
          compared.add(false);
        }
        partIsDue = opens;
      } else {
        while ("not".equals(open.peek())) {
          open.pop();
        }
        boolean isTest = token.equals("<") || token.equals("=");
        boolean isJoint = token.equals("and") || token.equals("or");
        int last = compared.size() - 1;
        if (token.equals(")") && !open.isEmpty()) {
          open.pop();
          compared.remove(last);
        } else if (isJoint || "+-*".contains(token) && !token.isEmpty() || isTest && !compared.get(last)) {
          partIsDue = true;
          compared.set(last, !isJoint && (isTest || compared.get(last)));
        } else {
          must(open.isEmpty(), 1);
          return new Reduced(List.copyOf(tokens.subList(from, at)));
        }
      }
      at++;
    }
  }

  /** An E by its tokens. */
  record Reduced(List<String> tokens) implements Model.E {
    public String text() {
      return String.join(" ", tokens);
    }

    public int worth(int large, int sore, int nights) {
      List<String> row = new ArrayList<>();
      for (String token : tokens) {
        row.add(switch (token) {
          case "large" -> "" + large;
          case "sore" -> "" + sore;
          case "nights" -> "" + nights;
          default -> token;
        });
      }
      int close = row.indexOf(")");
      while (close >= 0) {
        int open = row.subList(0, close).lastIndexOf("(");
        String inner = reduce(new ArrayList<>(row.subList(open + 1, close)));
        row.subList(open, close + 1).clear();
        row.add(open, inner);
        close = row.indexOf(")");
      }
      return Integer.parseInt(reduce(row));
    }

    private static String reduce(List<String> row) {
      for (int i = row.lastIndexOf("not"); i >= 0; i = row.lastIndexOf("not")) {
        boolean none = Integer.parseInt(row.get(i + 1)) == 0;
        row.subList(i, i + 2).clear();
        row.add(i, none ? "1" : "0");
      }
      for (List<String> rank : List.of(List.of("*"), List.of("+", "-"), List.of("<", "="), List.of("and", "or"))) {
        for (int i = 1; i < row.size();) {
          if (!rank.contains(row.get(i))) {
            i += 2;
            continue;
          }
          String joined = "" + join(Integer.parseInt(row.get(i - 1)), row.get(i), Integer.parseInt(row.get(i + 1)));
          row.subList(i - 1, i + 2).clear();
          row.add(i - 1, joined);
        }
      }
      return row.get(0);
    }

    private static int join(int left, String by, int right) {
      return switch (by) {
        case "*" -> left * right;
        case "+" -> left + right;
        case "-" -> left - right;
        case "<" -> left < right ? 1 : 0;
        case "=" -> left == right ? 1 : 0;
        case "and" -> left == 0 || right == 0 ? 0 : 1;
        default -> left == 0 && right == 0 ? 0 : 1;
      };
    }
  }

  private List<List<Object>> told(String head) {
    List<List<Object>> found = new ArrayList<>();
    for (int i = 0; i < heads.size(); i++) {
      if (heads.get(i).equals(head)) {
        found.add(lines.get(i));
      }
    }
    return found;
  }

  private int[] column(String head, int column) {
    return told(head).stream().mapToInt(line -> (int) line.get(column)).toArray();
  }

  private Model build() {
    Model m = new Model();
    m.people = names.size();
    m.kind = column("person", 0);
    m.told = column("person", 1);
    m.lane = new int[m.people][m.people];
    for (List<Object> lane : told("lane")) {
      int p = (int) lane.get(0);
      int q = (int) lane.get(1);
      m.lane[p][q] = (int) lane.get(2);
      m.lane[q][p] = (int) lane.get(2);
    }
    m.by = column("wrong", 0);
    m.to = column("wrong", 1);
    m.size = column("wrong", 2);
    m.wrongs = m.by.length;
    m.walks = new ArrayList<>();
    for (List<Object> walk : told("walk")) {
      m.walks.add(new int[] {(int) walk.get(0), (int) walk.get(1)});
    }
    for (int bar : column("bar", 0)) {
      m.bar = bar;
    }
    for (int wind : column("wind", 0)) {
      m.wind = wind;
    }
    for (List<Object> law : told("words")) {
      m.words = (Model.E) law.get(0);
    }
    for (List<Object> law : told("heals")) {
      m.heals = (Model.E) law.get(0);
    }
    for (List<Object> law : told("burns")) {
      m.burns = (Model.E) law.get(0);
    }
    m.begin();
    return m;
  }
}
