/** Promises 1 to 4: a new object, THE TAPE and THE OUT. */
final class OfTape {
  private static final Checks C = Checks.ALL;
  private static final int MIN = Integer.MIN_VALUE;
  private static final int MAX = Integer.MAX_VALUE;

  private OfTape() {
  }

  static void run() {
    newObject();
    allCalls();
    feed();
    feedFull();
    end();
    endRefused();
    out();
    outRefused();
  }

  private static void newObject() {
    C.sentence("Promise 1", "makes an object in the state that the terms give.");
    C.due("NONE", LineGuard.NONE, -1);
    Guard x = new Guard();
    for (int side = 0; side < 2; side++) {
      for (int what = 0; what < 7; what++) {
        C.due("about", x.about(side, what), 0);
      }
      for (int which = 0; which < 7; which++) {
        C.due("secret", x.secret(side, which, 0), Face.NONE);
      }
      C.due("seal", x.seal(side, false, Checks.many("00", 16)), Face.NONE);
    }
    C.due("out", x.out(0), Face.NONE);
    C.due("line", x.line(0), Face.NONE);
    C.due("alter", x.alter(0, 1), Face.NONE);
    C.due("cut(0)", x.cut(0), 0);
    C.due("cut(1)", x.cut(1), Face.NONE);
    C.due("end(0)", x.end(0), 0);
    C.due("end(1)", x.end(1), Face.NONE);
    C.due("start", x.start(0), Face.NONE);
    C.due("prove", x.prove(0), Face.NONE);
    C.due("send", x.send("00000000"), Face.NONE);
    C.due("take", x.take(), Face.NONE);
    C.due("answer", x.answer("", 0), Face.NONE);
    C.due("accept", x.accept(0), Face.NONE);
    C.due("slip", x.slip(), 0);
    C.due("name", x.name(), 0);
    Guard y = new Guard();
    y.counter(7);
    y.key(3, Face.KEYS);
    C.due("another object has its own counter", new Guard().about(1, 4), 0);
    C.due("another object has its own keys", new Guard().about(0, 2), 0);
  }

  /** The document promises 512 calls: the last of them is right, with COUNT as high as they make it. */
  private static void allCalls() {
    C.part("What it is, 'at most 512 calls'");
    for (int rule = 2; rule <= 3; rule++) {
      Guard x = Guard.opened(rule, rule == 2 ? 0x13 : 0x33);
      int commands = 0;
      while (x.calls() + 4 <= Guard.CALLS_MOST) {
        x.feed(commands, commands, commands, commands, commands);
        C.due("send", x.send(), rule == 2 ? 36 : 44);
        C.due("take", x.take(), 0x9000);
        C.due("out(3)", x.out(3), commands);
        commands++;
      }
      while (x.calls() < Guard.CALLS_MOST) {
        C.due("the last", x.about(1, 0), 2);
      }
      C.due("commands", commands >= 120 ? 1 : 0, 1);
      // Those that only send come further.
      Guard y = Guard.opened(rule, 3);
      int sent = 0;
      while (y.calls() + 2 <= Guard.CALLS_MOST) {
        y.feed(sent, sent, sent, sent, sent);
        C.due("send", y.send(), rule == 2 ? 36 : 44);
        sent++;
      }
      C.due("sent", sent >= 240 ? 1 : 0, 1);
    }
  }

  private static void feed() {
    C.sentence("Promise 2", "Twenty bytes come behind those on THE TAPE, the highest of each int "
        + "first: how many there are;");
    Guard x = new Guard();
    C.due("feed", x.feed(0x01020304, -1, MIN, MAX, 0), 20);
    C.due("end(1)", x.end(1), 1);
    C.due("feed behind one", x.feed(0x0a0b0c0d, 1, 2, 3, 4), 21);
    C.due("feed behind 21", x.feed(5, 6, 7, 8, 0xf1f2f3f4), 41);
    x.slip();
    C.due("bytes", x.line(), "01" + "0a0b0c0d00000001000000020000000300000004"
        + "00000005000000060000000700000008f1f2f3f4");
    x.feed(0x01020304, -1, MIN, MAX, 0);
    x.slip();
    C.due("bytes", x.line(), "01020304" + "ffffffff" + "80000000" + "7fffffff" + "00000000");
  }

  private static void feedFull() {
    C.sentence("Promise 2", "NONE, and none come, if there would be more than 400.");
    for (int had : new int[] {379, 380, 381, 399, 400}) {
      Guard x = Guard.begun(2);
      x.tape(Checks.rising(had));
      boolean right = had <= 380;
      C.due("feed behind " + had, x.feed(1, 1, 1, 1, 1), right ? had + 20 : Face.NONE);
      int has = right ? had + 20 : had;
      C.due("end above", x.end(has + 1), Face.NONE);
      C.due("end", x.end(has), has);
      C.due("again", x.feed(1, 1, 1, 1, 1), Face.NONE);
      C.due("end", x.end(has), has);
      C.due("end(300)", x.end(300), 300);
      x.slip();
      C.due("the first stay", x.line(), Checks.rising(300));
    }
    Guard x = new Guard();
    x.tape(Checks.rising(400));
    x.feed(-1, -1, -1, -1, -1);
    x.end(381);
    x.feed(-1, -1, -1, -1, -1);
    C.due("381 stay", x.end(382), Face.NONE);
    x.end(380);
    C.due("380 have room", x.feed(-1, -1, -1, -1, -1), 400);
  }

  private static void end() {
    C.sentence("Promise 3", "THE TAPE has its first n bytes alone: n;");
    for (int n : new int[] {20, 19, 1, 0}) {
      Guard x = new Guard();
      x.tape(Checks.rising(20));
      C.due("end(" + n + ")", x.end(n), n);
      C.due("again", x.end(n), n);
      C.due("one more", x.end(n + 1), Face.NONE);
      C.due("slip", x.slip(), n);
      C.due("line", x.line(), Checks.rising(n));
    }
    Guard x = new Guard();
    x.tape(Checks.rising(20));
    x.end(2);
    C.due("feed", x.feed(-1, -1, -1, -1, -1), 22);
    x.slip();
    C.due("what comes stands behind them", x.line(), "0102" + Checks.many("ff", 20));
    x.tape(Checks.rising(400));
    C.due("all 400", x.end(400), 400);
  }

  private static void endRefused() {
    C.sentence("Promise 3", "NONE if there are not so many, or n is below 0.");
    for (int had : new int[] {0, 1, 20, 400}) {
      Guard x = new Guard();
      x.tape(Checks.rising(had));
      for (int n : new int[] {had + 1, had + 2, 401, MAX, -1, -2, MIN}) {
        C.due("end(" + n + ") of " + had, x.end(n), Face.NONE);
      }
      C.due("all are there", x.end(had), had);
      x.end(had > 300 ? 300 : had);
      x.slip();
      C.due("line", x.line(), Checks.rising(had > 300 ? 300 : had));
    }
  }

  private static void out() {
    C.sentence("Promise 4", "Byte i of THE OUT;");
    Guard x = Guard.opened(3, 0x11);
    x.command("80ff007f" + "0181");
    int[] dues = {0x80, 0xff, 0, 0x7f, 1, 0x81};
    for (int i = 0; i < dues.length; i++) {
      C.due("out(" + i + ")", x.out(i), dues[i]);
      C.due("it stays", x.out(i), dues[i]);
    }
  }

  private static void outRefused() {
    C.sentence("Promise 4", "NONE if there is none such.");
    Guard x = Guard.opened(3, 0x11);
    C.due("nothing is written", x.out(0), Face.NONE);
    for (int size : new int[] {16, 384, 400, 32}) {
      x.seal(0, false, Checks.many("00", size));
      C.due("the last of " + size, x.out(size - 1) >= 0 ? 1 : 0, 1);
      for (int i : new int[] {size, size + 1, 400, MAX, -1, MIN}) {
        C.due("out(" + i + ") of " + size, x.out(i), Face.NONE);
      }
    }
    x.command("00010203");
    C.due("out(3)", x.out(3), 3);
    C.due("out(4)", x.out(4), Face.NONE);
  }
}
