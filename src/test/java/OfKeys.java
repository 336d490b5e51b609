/** Promises 9 to 11: KEYS, THE NAME and the COUNTER. */
final class OfKeys {
  private static final Checks C = Checks.ALL;

  private OfKeys() {
  }

  static void run() {
    keys();
    keysAnew();
    keysRefused();
    name();
    nameRefused();
    counter();
    counterBetween();
    counterRefused();
  }

  private static void keys() {
    C.sentence("Promise 9",
        "THE TAPE's bytes are the KEYS of a SIDE by a RULE, ENC, MAC, SEAL, all of one length: 1;");
    int[][] right = {{2, 48}, {3, 48}, {3, 72}, {3, 96}};
    for (int[] one : right) {
      for (int side = 0; side < 2; side++) {
        Guard x = new Guard();
        C.due("keys by " + one[0], x.keys(side, one[0], Checks.rising(one[1])), 1);
        C.due("rule", x.about(side, 2), one[0]);
        C.due("length", x.about(side, 3), one[1] / 3);
        C.due("the other's rule", x.about(1 - side, 2), 0);
        C.due("the other's length", x.about(1 - side, 3), 0);
        C.due("tape", x.end(1), Face.NONE);
      }
    }
    Guard x = new Guard();
    x.key(3, Checks.rising(72));
    x.start(1);
    C.due("SEAL is the last third", x.secret(1, 3), Checks.rising(72).substring(96));
  }

  /** Longer, shorter and by the other rule: nothing of those before is left. */
  private static void keysAnew() {
    C.part("Promise 9, keys told again");
    int[][] turns = {{3, 96}, {2, 48}, {3, 72}, {3, 48}, {3, 96}};
    Guard x = new Guard();
    for (int[] turn : turns) {
      x.key(turn[0], Checks.rising(turn[1]));
      C.due("rule", x.about(0, 2), turn[0]);
      C.due("length", x.about(1, 3), turn[1] / 3);
      Guard y = new Guard();
      y.key(turn[0], Checks.rising(turn[1]));
      x.start(1);
      y.start(1);
      for (int which = 0; which < 4; which++) {
        C.due("secret " + which, x.secret(0, which, 15), y.secret(0, which, 15));
        C.due("secret " + which, x.secret(0, which, 16), y.secret(0, which, 16));
      }
    }
  }

  private static void keysRefused() {
    C.sentence("Promise 9",
        "NONE, and nothing else, if there is no such SIDE or RULE, or they are not three such keys.");
    int[][] wrong = {{-1, 3, 48}, {2, 3, 48}, {0, 1, 48}, {0, 4, 48}, {0, 0, 48}, {0, -1, 48},
      {1, 2, 47}, {1, 2, 49}, {1, 2, 51}, {1, 2, 72}, {1, 2, 96}, {1, 2, 0}, {1, 2, 24},
      {1, 3, 47}, {1, 3, 49}, {1, 3, 51}, {1, 3, 71}, {1, 3, 73}, {1, 3, 60}, {1, 3, 84},
      {1, 3, 95}, {1, 3, 97}, {1, 3, 99}, {1, 3, 120}, {1, 3, 0}, {1, 3, 24}, {1, 3, 399},
      {1, 3, 400}, {1, Integer.MAX_VALUE, 48}, {Integer.MIN_VALUE, 2, 48}};
    for (int[] one : wrong) {
      Guard x = Guard.opened(3, 0x11);
      x.slip("01");
      C.due("keys(" + one[0] + ", " + one[1] + ") of " + one[2],
          x.keys(one[0], one[1], Checks.many("77", one[2])), Face.NONE);
      C.due("tape", x.end(1), Face.NONE);
      C.due("sessions stay", x.sessions(), 22);
      C.due("levels stay", x.about(0, 1) + x.about(1, 1), 0x22);
      C.due("rules stay", x.about(0, 2) + x.about(1, 2), 6);
      C.due("lengths stay", x.about(0, 3) + x.about(1, 3), 32);
      C.due("line stays", x.line(), "01");
      C.due("the session goes on", x.command("00010203"), 0x9000);
      C.due("start", x.start(Face.H), 1);
      C.due("keys stay", x.secret(0, 3) + x.secret(1, 3), Face.SEAL + Face.SEAL);
    }
  }

  private static void name() {
    C.sentence("Promise 10", "THE TAPE's bytes are THE NAME: how many;");
    for (int rule = 2; rule <= 3; rule++) {
      for (int size = 0; size <= 16; size++) {
        Guard x = Guard.opened(rule, 1);
        x.slip("01");
        C.due("name of " + size, x.name(Checks.rising(size)), size);
        C.due("tape", x.end(1), Face.NONE);
        C.due("sessions", x.sessions(), 0);
        C.due("line", x.about(0, 5), 0);
        C.due("keys stay", x.about(0, 2) + x.about(1, 2), 2 * rule);
        x.counter(7);
        C.due("start", x.start(1), 1);
        byte[] told = Checks.bytes(Checks.rising(size));
        byte[] due = rule == 3
            ? Reference.kdf(Checks.bytes(Face.ENC), 2, 8, Reference.join(0, 0, 7, told))
            : Reference.part(Reference.retail(
                Reference.sk(Checks.bytes(Face.MAC), 0x0101, 7), new byte[8], told), 0, 6);
        C.due("c", x.secret(0, 6), Checks.hex(due));
      }
    }
  }

  private static void nameRefused() {
    C.sentence("Promise 10", "NONE, and nothing else, if there are more than 16.");
    for (int size : new int[] {17, 18, 20, 32, 400}) {
      Guard x = Guard.opened(3, 0x11);
      x.slip("01");
      String c = x.secret(0, 6);
      C.due("name of " + size, x.name(Checks.rising(size)), Face.NONE);
      C.due("tape", x.end(1), Face.NONE);
      C.due("sessions stay", x.sessions(), 22);
      C.due("line stays", x.line(), "01");
      C.due("the session goes on", x.command("00010203"), 0x9000);
      x.counter(Face.COUNTER);
      x.start(Face.H);
      C.due("the name stays", x.secret(0, 6), c);
    }
  }

  private static void counter() {
    C.sentence("Promise 11", "The HOLDER's COUNTER is n: 1;");
    for (int n : new int[] {0, 1, 0xFF, 0x100, 0xFFFF, 0x10000, 0xFFFFFE, 0xFFFFFF}) {
      Guard x = Guard.opened(3, 0x11);
      C.due("counter(" + n + ")", x.counter(n), 1);
      C.due("about", x.about(0, 4), n);
      C.due("about", x.about(1, 4), n);
      C.due("sessions stay", x.sessions(), 22);
      x.start(1);
      byte[] told = Reference.join(Reference.number(n, 3), Checks.bytes(Face.NAME));
      C.due("c", x.secret(1, 6), Checks.hex(Reference.kdf(Checks.bytes(Face.ENC), 2, 8, told)));
    }
  }

  /** A session has the number that it began with; the one that is told later is counted on. */
  private static void counterBetween() {
    C.part("Promise 11, between start and take");
    for (int rule = 2; rule <= 3; rule++) {
      Guard x = Guard.begun(rule);
      String enc = x.secret(1, 0);
      x.counter(9);
      C.due("the key stays", x.secret(1, 0), enc);
      x.prove(0x13);
      x.counter(0x20);
      C.due("take", x.take(), 0x9000);
      C.due("one more", x.about(1, 4), 0x21);
      C.due("a command counts none", x.command("0001020304"), 0x9000);
      C.due("about", x.about(1, 4), 0x21);
    }
  }

  private static void counterRefused() {
    C.sentence("Promise 11", "NONE if n is not 0 .. 0xFFFFFF.");
    int[] wrong = {-1, -2, 0x1000000, 0x1000001, 0x2000000, Integer.MAX_VALUE, Integer.MIN_VALUE};
    for (int had : new int[] {0, 5, 0xFFFFFF}) {
      Guard x = Guard.opened(2, 1);
      x.counter(had);
      for (int n : wrong) {
        C.due("counter(" + n + ")", x.counter(n), Face.NONE);
        C.due("it stays", x.about(1, 4), had);
      }
      C.due("sessions stay", x.sessions(), 22);
    }
  }
}
