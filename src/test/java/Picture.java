/** All that an object answers by asking alone, as a text: two pictures alike, nothing has changed. */
final class Picture {
  private Picture() {
  }

  /** Some 130 calls, so that two of them leave room among the 512 of an object. */
  static String of(PardonLamps x) {
    StringBuilder b = new StringBuilder("counts");
    for (int what = 0; what <= 10; what++) {
      b.append(' ').append(x.count(what));
    }
    for (int p = 0; p < x.count(0); p++) {
      b.append(" person ").append(x.person(p, 0)).append(' ').append(x.person(p, 1)).append(' ').append(x.person(p, 2));
    }
    for (int w = 0; w < x.count(2); w++) {
      b.append(" wrong");
      for (int what = 0; what <= 6; what++) {
        b.append(' ').append(x.wrong(w, what));
      }
    }
    b.append(" now ").append(x.lamps()).append(' ').append(x.harm()).append(' ').append(x.middle()).append(' ')
        .append(x.circle()).append(' ').append(x.need()).append(" dark");
    for (int what = 0; what <= 2; what++) {
      b.append(' ').append(x.dark(0, 1, what)).append(' ').append(x.dark(0, 2, what));
    }
    return b.append(ahead(x)).toString();
  }

  private static String ahead(PardonLamps x) {
    StringBuilder b = new StringBuilder(" ahead ").append(x.look()).append(' ').append(x.law(9, 1)).append(' ')
        .append(x.wind(0, 1)).append(' ').append(x.stays(0, 1)).append(' ').append(x.pay(0, 1, 0)).append(' ')
        .append(x.pay(0, 2, 1)).append(' ').append(x.when(2, 0)).append(' ').append(x.when(2, 1)).append(' ')
        .append(x.ripe(0)).append(' ').append(x.price(0, 3)).append(' ').append(x.grudges(0, true)).append(' ')
        .append(x.grudges(1, false));
    for (int what = 0; what <= 2; what++) {
      b.append(' ').append(x.judged(what)).append(' ').append(x.sets(what)).append(' ').append(x.round(0, 20, what))
          .append(' ').append(x.years(7, 9, what));
    }
    return b.toString();
  }
}
