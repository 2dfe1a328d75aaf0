import java.io.IOException;
import java.nio.file.Files;
import java.nio.file.Path;
import java.util.NoSuchElementException;

/** What the tests share: telling texts, and answers that are due. */
final class Check {
  private static final String DOCUMENT = document();

  private final String name;
  private int done;
  private int wrong;
  /** The sentence that the answers are due by, and how many there were ahead of it. */
  private String sentence = "";
  private int doneBefore;

  Check(String name) {
    this.name = name;
  }

  /** The words of the document by which the answers that follow are due; 0: of its Terms. */
  void sentence(int promise, String words) {
    leaveSentence();
    sentence = (promise == 0 ? "Terms" : "Promise " + promise) + " \"" + words + "\": ";
    doneBefore = done;
    if (!DOCUMENT.isEmpty() && !part(promise).contains(words)) {
      System.out.println(name + ": note: the document does not say (any more) " + sentence);
    }
  }

  private void leaveSentence() {
    if (!sentence.isEmpty() && done == doneBefore) {
      wrong++;
      System.out.println(name + ": nothing is tested of " + sentence);
    }
  }

  void due(String call, long got, long want) {
    done++;
    if (got != want) {
      wrong++;
      System.out.println(name + ": " + sentence + call + " answered " + got + ", due is " + want);
    }
  }

  void due(String call, String got, String want) {
    due(call + "\n  " + got + "\n  is not\n  " + want + "\n ", got.equals(want), true);
  }

  void due(String call, boolean got, boolean want) {
    due(call, got ? 1 : 0, want ? 1 : 0);
  }

  /** That rests throws the exception of the document. */
  void dueNone(PardonLamps x, int dark, int pride, int what) {
    boolean thrown = false;
    try {
      x.rests(dark, pride, what);
    } catch (NoSuchElementException e) {
      thrown = true;
    }
    due("rests(" + dark + ", " + pride + ", " + what + ") throws", thrown, true);
  }

  void end() {
    leaveSentence();
    System.out.println(name + ": " + done + " answers, " + wrong + " not as due");
    if (wrong != 0 || done == 0) {
      System.exit(1);
    }
  }

  /** Reads a text as a TOWN, in which ^ stands ahead of the TOKEN of the FAULT; kind 0: without one. */
  void fault(String text, int kind) {
    due("town " + text, town(new PardonLamps(), text.replace("^", "")), fault(text.indexOf('^'), kind));
  }

  /** The same with a YEAR. */
  void yearFault(PardonLamps x, String text, int kind) {
    due("year " + text, year(x, text.replace("^", "")), fault(text.indexOf('^'), kind));
  }

  private static int fault(int place, int kind) {
    return kind == 0 ? 0 : kind + 16 * place;
  }

  /** The document with single blanks; empty if it is not there. */
  private static String document() {
    String shared = System.getenv("SHARED");
    Path path = Path.of(shared == null ? "../shared" : shared, "DOC.md");
    try {
      return Files.exists(path) ? Files.readString(path).replaceAll("\\s+", " ") : "";
    } catch (IOException e) {
      return "";
    }
  }

  /** One promise of the document, or all that stands ahead of them. */
  private static String part(int promise) {
    int from = promise == 0 ? 0 : DOCUMENT.indexOf("## Promise " + promise + ":");
    int to = DOCUMENT.indexOf("## Promise " + (promise + 1) + ":");
    return from < 0 ? "" : DOCUMENT.substring(from, to < 0 ? DOCUMENT.length() : to);
  }

  /** Feeds a text, 24 signs a call. */
  static int feed(PardonLamps x, String text) {
    int length = x.count(11);
    for (int at = 0; at < text.length(); at += 24) {
      length = x.feed(eight(text, at), eight(text, at + 8), eight(text, at + 16));
    }
    return length;
  }

  static long eight(String text, int at) {
    long packed = 0;
    for (int i = 0; i < 8; i++) {
      packed = packed << 8 | (at + i < text.length() ? text.charAt(at + i) & 255 : 0);
    }
    return packed;
  }

  static int town(PardonLamps x, String text) {
    feed(x, text);
    return x.town();
  }

  static int year(PardonLamps x, String text) {
    feed(x, text);
    return x.year();
  }

  /** A new object with a TOWN that must have no FAULT. */
  static PardonLamps in(String text) {
    PardonLamps x = new PardonLamps();
    int fault = town(x, text);
    if (fault != 0) {
      throw new IllegalStateException("fault " + fault % 16 + " at " + fault / 16 + " of " + text);
    }
    return x;
  }
}
