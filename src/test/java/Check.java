import java.util.NoSuchElementException;

/** What the tests share: telling texts, and answers that are due. */
final class Check {
  private final String name;
  private int done;
  private int wrong;

  Check(String name) {
    this.name = name;
  }

  void due(String call, long got, long want) {
    done++;
    if (got != want) {
      wrong++;
      System.out.println(name + ": " + call + " answered " + got + ", due is " + want);
    }
  }

  void due(String call, boolean got, boolean want) {
    due(call, got ? 1 : 0, want ? 1 : 0);
  }

  /** That rests throws the exception of the document. */
  void dueNone(PardonLamps x, int dark, int pride, int what) {
    boolean thrown = false;
    try {
      x.rests(dark, pride, what);
    } catch (NoSuchElementException e) {
      thrown = true;
    }
    due("rests(" + dark + ", " + pride + ", " + what + ") throws", thrown, true);
  }

  void end() {
    System.out.println(name + ": " + done + " answers, " + wrong + " not as due");
    if (wrong != 0 || done == 0) {
      System.exit(1);
    }
  }

  /** Feeds a text, 24 signs a call. */
  static int feed(PardonLamps x, String text) {
    int length = x.count(11);
    for (int at = 0; at < text.length(); at += 24) {
      length = x.feed(eight(text, at), eight(text, at + 8), eight(text, at + 16));
    }
    return length;
  }

  static long eight(String text, int at) {
    long packed = 0;
    for (int i = 0; i < 8; i++) {
      packed = packed << 8 | (at + i < text.length() ? text.charAt(at + i) & 255 : 0);
    }
    return packed;
  }

  static int town(PardonLamps x, String text) {
    feed(x, text);
    return x.town();
  }

  static int year(PardonLamps x, String text) {
    feed(x, text);
    return x.year();
  }

  /** A new object with a TOWN that must have no FAULT. */
  static PardonLamps in(String text) {
    PardonLamps x = new PardonLamps();
    int fault = town(x, text);
    if (fault != 0) {
      throw new IllegalStateException("fault " + fault % 16 + " at " + fault / 16 + " of " + text);
    }
    return x;
  }
}
