import java.lang.management.ManagementFactory;

/** That calls make no objects: all rows are made with the object and used again. */
final class RoomTest {
  private static final Check check = new Check("RoomTest");

  public static void main(String[] args) {
    if (!(ManagementFactory.getThreadMXBean() instanceof com.sun.management.ThreadMXBean meter)
        || !meter.isThreadAllocatedMemorySupported()) {
      check.due("this machine can't measure", 0, 0);
      check.end();
      return;
    }
    PardonLamps x = Check.in("person aa plain coins 10; person bb sulky coins 5; person cc saint coins 0;"
        + "person dd priest coins 20; lane aa bb 4; lane bb cc 3; lane aa dd 6; lane dd cc 2;"
        + "wrong aa to bb size 2; wrong bb to cc size 3; wrong cc to dd size 1; wrong dd to aa size 1;"
        + "walk aa to cc; walk bb to dd; wind 5; words large+1; heals not sore or 1;");
    long sum = all(x);
    long before = meter.getCurrentThreadAllocatedBytes();
    sum += all(x);
    long made = meter.getCurrentThreadAllocatedBytes() - before;
    // The meter itself may make a little.
    check.due("bytes made by calls: " + made + " (" + sum + ")", made < 2000, true);
    before = meter.getCurrentThreadAllocatedBytes();
    PardonLamps y = new PardonLamps();
    made = meter.getCurrentThreadAllocatedBytes() - before;
    check.due("bytes of an object: " + made + " " + y.count(0), made < 60000, true);
    check.end();
  }

  private static long all(PardonLamps x) {
    long sum = 0;
    x.mark(0, false);
    for (int i = 0; i < 4; i++) {
      sum += x.say(i) + x.give(i, 1) + x.ask(i) + x.night() + x.harm() + x.lamps() + x.middle() + x.circle() + x.need();
      sum += x.dark(0, i, 0) + x.pay(0, i, 0) + x.stays(0, i) + x.wind(0, i) + x.round(i, 50, 0) + x.look() + x.sets(1);
      sum += x.when(3, i) + x.law(30, i) + x.years(i, 100, 0) + x.judged(i) + x.ripe(i) + x.price(i, 30) + x.grudges(i, true);
      sum += x.person(i, 1) + x.wrong(i, 3) + x.rests(i, 1, 0) + x.count(i);
      x.see(i, 1, true);
      x.undo();
    }
    x.mark(0, true);
    x.feed(0x6E696768743B0000L, 0x6E696768743B0000L, 0x6173626B3B000000L);
    sum += x.year();
    x.feed(0x626172203B000000L, 0, 0);
    return sum + x.town();
  }
}
