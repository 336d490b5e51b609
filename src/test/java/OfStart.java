/** Promises 12 and 13: start and prove. */
final class OfStart {
  private static final Checks C = Checks.ALL;

  private OfStart() {
  }

  static void run() {
    lineEmpty();
    holderTells();
    callerMakes();
    callerUnlike();
    callerReckonsAnother();
    startAgain();
    startRefused();
    prove();
    proveOpens();
    proveRefused();
    proveNoLevel();
  }

  private static byte[] b(String hex) {
    return Checks.bytes(hex);
  }

  /** The caller's keys have other bytes from one on. */
  private static Guard unlike(int rule, int from, String bytes) {
    Guard x = new Guard();
    String keys = Face.KEYS.substring(0, 2 * from) + bytes
        + Face.KEYS.substring(2 * from + bytes.length());
    x.keys(0, rule, keys);
    x.keys(1, rule, Face.KEYS);
    x.name(Face.NAME);
    x.counter(Face.COUNTER);
    return x;
  }

  private static void lineEmpty() {
    C.sentence("Promise 12", "A SESSION from h (eight bytes, the highest first): THE LINE is empty;");
    for (int rule = 2; rule <= 3; rule++) {
      for (long h : new long[] {0, 1, -1, Long.MIN_VALUE, Long.MAX_VALUE, 0x0102030405060708L}) {
        Guard x = Guard.keyed(rule);
        x.slip(Checks.rising(300));
        C.due("start", x.start(h), 1);
        C.due("line", x.about(0, 5), 0);
        C.due("line(0)", x.line(0), Face.NONE);
        byte[] told = Reference.number(h, 8);
        byte[] c = b(x.secret(1, 6));
        byte[] due = rule == 2
            ? Reference.mac3(Reference.sk(b(Face.ENC), 0x0182, 0), Reference.join(told, 0, 0, c))
            : Reference.kdf(Reference.kdf(b(Face.MAC), 6, 16, Reference.join(told, c)), 0, 8,
                Reference.join(told, c));
        C.due("proof", x.secret(1, 4), Checks.hex(due));
      }
    }
    Guard x = unlike(2, 0, "fe");
    x.slip("01");
    C.due("start", x.start(1), 0);
    C.due("with 0 the line is empty, too", x.about(0, 5), 0);
  }

  private static void holderTells() {
    C.sentence("Promise 12", "the HOLDER's is BEGUN, and it tells n, c and its PROOF;");
    for (int rule = 2; rule <= 3; rule++) {
      Guard x = Guard.keyed(rule);
      C.due("start", x.start(1), 1);
      C.due("holder", x.about(1, 0), 1);
      C.due("level", x.about(1, 1), 0);
      C.due("n counts none", x.about(1, 4), 0);
      C.due("nothing is written", x.about(1, 6), 0);
      x.prove(1);
      x.take();
      C.due("open", x.about(1, 0), 2);
      x.start(1);
      C.due("begun again", x.about(1, 0), 1);
      C.due("level", x.about(1, 1), 0);
      x = unlike(rule, rule == 2 ? 0 : 16, "fe");
      C.due("start", x.start(1), 0);
      C.due("with 0, too", x.about(1, 0), 1);
    }
  }

  /** By RULE 2 the PROOF is by ENC, by RULE 3 by MAC: the other keys show only later, or never. */
  private static void callerMakes() {
    C.sentence("Promise 12", "the CALLER makes all by its own KEYS and these: 1, and its SESSION is "
        + "BEGUN, if the PROOF is what it reckons;");
    for (int rule = 2; rule <= 3; rule++) {
      int other = rule == 2 ? 16 : 0;
      Guard x = unlike(rule, other, "fe");
      C.due("start", x.start(Face.H), 1);
      C.due("sessions", x.sessions(), 11);
      C.due("c is the holder's", x.secret(0, 6), x.secret(1, 6));
      C.due("the proof is the holder's", x.secret(0, 4), x.secret(1, 4));
      int which = rule == 2 ? 1 : 0;
      C.unlike("the key is its own", x.secret(0, which), x.secret(1, which));
      String own = Face.KEYS.substring(2 * other, 2 * other + 32).replaceFirst("^..", "fe");
      byte[] due = rule == 2 ? Reference.sk(b(own), 0x0101, 0x0203)
          : Reference.kdf(b(own), 4, 16, Reference.join(Reference.number(Face.H, 8), b(x.secret(0, 6))));
      C.due("the key", x.secret(0, which), Checks.hex(due));
      x.prove(3);
      C.due("take", x.take(), rule == 2 ? 0x6300 : 0x9000);
      C.due("a command hidden by another key", x.command("0001020304"),
          rule == 2 ? Face.NONE : 0x6982);
      x = unlike(rule, 32, "fe");
      C.due("another SEAL", x.start(Face.H), 1);
      C.unlike("is its own", x.secret(0, 3), x.secret(1, 3));
      x.prove(3);
      C.due("take", x.take(), 0x9000);
    }
    // DES leaves the lowest bit of each byte out: FIPS 46-3.
    Guard x = unlike(2, 0, "1100");
    C.due("other lowest bits", x.start(Face.H), 1);
    C.due("the key", x.secret(0, 0), x.secret(1, 0));
  }

  /** Each bit of the PROOF's key is enough to make it another. */
  private static void callerUnlike() {
    C.sentence("Promise 12", "else 0, and its SESSION is none.");
    for (int rule = 2; rule <= 3; rule++) {
      int key = rule == 2 ? 0 : 16;
      for (int i = 0; i < 16; i++) {
        for (int bit = rule == 2 ? 2 : 1; bit < 256; bit *= 2) {
          int was = b(Face.KEYS)[key + i];
          Guard x = unlike(rule, key + i, Checks.hex(new byte[] {(byte) (was ^ bit)}));
          C.due("start with bit " + bit + " of byte " + i, x.start(Face.H), 0);
          C.due("sessions", x.sessions(), 1);
        }
      }
      Guard x = unlike(rule, key, "fe");
      x.start(Face.H);
      C.due("level", x.about(0, 1), 0);
      C.due("secret", x.secret(0, 0, 0), Face.NONE);
      C.due("seal", x.seal(0, false, Checks.many("00", 16)), Face.NONE);
      C.due("prove", x.prove(0), Face.NONE);
      C.due("send", x.send("00010203"), Face.NONE);
      C.due("accept", x.accept(0), Face.NONE);
      C.due("the holder's secret", x.secret(1, 6, 0) >= 0 ? 1 : 0, 1);
      C.due("the holder's seal", x.seal(1, false, Checks.many("00", 16)), 16);
    }
  }

  private static void callerReckonsAnother() {
    C.part("Promise 12, unlike keys and like ones by turns");
    for (int rule = 2; rule <= 3; rule++) {
      Guard x = Guard.opened(rule, 0x13);
      x.keys(0, rule, "ff" + Face.KEYS.substring(2, 32) + "ff" + Face.KEYS.substring(34));
      C.due("start", x.start(1), 0);
      C.due("sessions", x.sessions(), 1);
      x.keys(0, rule, Face.KEYS);
      C.due("sessions", x.sessions(), 0);
      C.due("start", x.start(1), 1);
      x.prove(0x13);
      C.due("take", x.take(), 0x9000);
    }
  }

  private static void startAgain() {
    C.part("Promise 12, a session that was open");
    for (int rule = 2; rule <= 3; rule++) {
      int level = rule == 2 ? 0x13 : 0x33;
      Guard x = Guard.commanded(rule, level, "0001020304");
      x.answer("61", 0x9000);
      C.due("start", x.start(5), 1);
      C.due("sessions", x.sessions(), 11);
      C.due("levels", x.about(0, 1) + x.about(1, 1), 0);
      C.due("line", x.about(0, 5), 0);
      C.due("out stays", x.out(), "0001020304");
      C.due("send", x.send("00010203"), Face.NONE);
      C.due("prove", x.prove(level), 20);
      C.due("take", x.take(), 0x9000);
      C.due("took none yet", x.answer("", 0), Face.NONE);
      C.due("sent none yet", x.accept(0), Face.NONE);
      C.due("take", x.command("0001020304"), 0x9000);
      x.answer("62", 0x9000);
      C.due("accept", x.accept(0x9000), 1);
    }
  }

  private static void startRefused() {
    C.sentence("Promise 12",
        "NONE, and nothing else, if one has no KEYS, or RULES or lengths are unlike.");
    int[][] twos = {{0, 0, 0, 0}, {2, 48, 0, 0}, {0, 0, 2, 48}, {3, 96, 0, 0}, {0, 0, 3, 72},
      {2, 48, 3, 48}, {3, 48, 2, 48}, {3, 48, 3, 72}, {3, 72, 3, 48}, {3, 96, 3, 72},
      {3, 72, 3, 96}, {2, 48, 3, 96}, {3, 48, 3, 96}};
    for (int[] two : twos) {
      Guard x = new Guard();
      x.keys(0, two[0], Checks.rising(two[1]));
      x.keys(1, two[2], Checks.rising(two[3]));
      x.counter(5);
      x.slip("0102");
      x.tape("03");
      C.due("start", x.start(1), Face.NONE);
      C.due("sessions", x.sessions(), 0);
      C.due("line stays", x.line(), "0102");
      C.due("tape stays", x.end(1), 1);
      C.due("counter stays", x.about(1, 4), 5);
      C.due("rules stay", 10 * x.about(0, 2) + x.about(1, 2), 10 * two[0] + two[2]);
      C.due("lengths stay", 100 * x.about(0, 3) + x.about(1, 3), 100 * (two[1] / 3) + two[3] / 3);
      C.due("prove", x.prove(0), Face.NONE);
      C.due("take", x.take(), Face.NONE);
      if (two[0] > 0) {
        x.keys(1, two[0], Checks.rising(two[1]));
        C.due("with like ones", x.start(1), 1);
      }
    }
  }

  private static void prove() {
    C.sentence("Promise 13", "THE PROVING command with a LEVEL comes to THE LINE "
        + "(CLA, INS, P1, P2, data),");
    for (int rule = 2; rule <= 3; rule++) {
      for (int level : new int[] {0, 1, 3, 0x11, 0x13, 0x33}) {
        if (rule == 2 && level == 0x33) {
          continue;
        }
        Guard x = Guard.begun(rule);
        x.slip(Checks.rising(30));
        C.due("prove(" + level + ")", x.prove(level), 20);
        C.due("about", x.about(1, 5), 20);
        int[] head = {0x84, 0x82, level, 0};
        for (int i = 0; i < 4; i++) {
          C.due("line(" + i + ")", x.line(i), head[i]);
        }
        for (int i = 0; i < 8; i++) {
          C.due("proof", x.line(4 + i), x.secret(0, 5, i));
        }
        C.due("line(20)", x.line(20), Face.NONE);
      }
    }
  }

  private static void proveOpens() {
    C.sentence("Promise 13", "and the CALLER's SESSION is OPEN: how many bytes.");
    for (int rule = 2; rule <= 3; rule++) {
      Guard x = Guard.begun(rule);
      x.tape("01");
      C.due("prove", x.prove(0x13), 20);
      C.due("sessions", x.sessions(), 21);
      C.due("the caller's level", x.about(0, 1), 0x13);
      C.due("the holder's level", x.about(1, 1), 0);
      C.due("counter", x.about(1, 4), Face.COUNTER);
      C.due("out", x.about(1, 6), 0);
      C.due("tape stays", x.end(1), 1);
      // The caller goes on, whatever the holder does.
      x.alter(19, 1);
      C.due("take", x.take(), 0x6300);
      C.due("sessions", x.sessions(), 20);
      C.due("send", x.send("0001020304"), rule == 2 ? 20 : 28);
    }
  }

  private static void notBegun(String what, Guard x) {
    x.slip("0102");
    int sessions = x.sessions();
    int level = x.about(0, 1);
    for (int told : new int[] {0, 1, 3, 0x11, 0x13, 0x33}) {
      C.due(what + ": prove(" + told + ")", x.prove(told), Face.NONE);
    }
    C.due(what + ": line stays", x.line(), "0102");
    C.due(what + ": sessions stay", x.sessions(), sessions);
    C.due(what + ": level stays", x.about(0, 1), level);
  }

  private static void proveRefused() {
    C.sentence("Promise 13", "NONE, and nothing else, if it is not BEGUN,");
    notBegun("new", new Guard());
    for (int rule = 2; rule <= 3; rule++) {
      notBegun("keyed", Guard.keyed(rule));
      notBegun("level 0", Guard.opened(rule, 0));
      notBegun("open", Guard.opened(rule, 0x11));
      Guard x = Guard.begun(rule);
      x.prove(3);
      notBegun("proved", x);
      x = unlike(rule, rule == 2 ? 0 : 16, "fe");
      x.start(1);
      notBegun("begun with another proof", x);
      // What was refused has changed no code.
      x = Guard.opened(rule, 0x11);
      x.prove(0x11);
      C.due("take", x.command("00010203"), 0x9000);
      x.prove(0x11);
      x.answer("61", 0x9000);
      C.due("accept", x.accept(0x9000), 1);
    }
  }

  private static void proveNoLevel() {
    C.sentence("Promise 13", "or there is no such LEVEL by its RULE.");
    for (int rule = 2; rule <= 3; rule++) {
      for (int level = -2; level <= 0x140; level++) {
        Guard x = Guard.begun(rule);
        boolean some = level == 0 || level == 1 || level == 3 || level == 0x11 || level == 0x13
            || rule == 3 && level == 0x33;
        if (some) {
          continue;
        }
        x.slip("0102");
        C.due("prove(" + level + ") by " + rule, x.prove(level), Face.NONE);
        C.due("line stays", x.line(), "0102");
        C.due("sessions stay", x.sessions(), 11);
        C.due("level", x.about(0, 1), 0);
        C.due("prove", x.prove(0x13), 20);
        C.due("take", x.take(), 0x9000);
      }
      for (int level : new int[] {Integer.MIN_VALUE, Integer.MAX_VALUE, -0xED, 0x10001, -255}) {
        C.due("prove(" + level + ")", Guard.begun(rule).prove(level), Face.NONE);
      }
    }
  }
}
