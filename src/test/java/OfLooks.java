/** Promises 18 to 20: seal, secret and about. */
final class OfLooks {
  private static final Checks C = Checks.ALL;
  private static final int MIN = Integer.MIN_VALUE;
  private static final int MAX = Integer.MAX_VALUE;
  private static final int[] NO_SIDES = {-1, 2, 3, MIN, MAX};

  private OfLooks() {
  }

  static void run() {
    seal();
    sealBack();
    sealRefused();
    sealNoBlocks();
    secret();
    secretRefused();
    secretNone();
    aboutSessions();
    aboutKeys();
    aboutBoth();
    aboutRefused();
  }

  private static byte[] b(String hex) {
    return Checks.bytes(hex);
  }

  private static String sealed(Guard x, int side, boolean back, String told) {
    Reference.Side s = x.ref.sides[side];
    if (s.rule == 3) {
      return Checks.hex(Reference.aes(!back, s.seal, new byte[16], b(told)));
    }
    StringBuilder all = new StringBuilder();
    for (int i = 0; i < told.length(); i += 16) {
      byte[] block = b(told.substring(i, i + 16));
      all.append(Checks.hex(Reference.des3(!back, s.seal, new byte[8], block)));
    }
    return all.toString();
  }

  private static void seal() {
    C.sentence("Promise 18", "THE TAPE's bytes, one block or several, by SEAL of a SIDE's SESSION "
        + "(BEGUN or OPEN): by RULE 2 DES3 in ECB, by RULE 3 AES in CBC from 0s, there or back: "
        + "how many are written.");
    for (int rule = 2; rule <= 3; rule++) {
      for (int side = 0; side < 2; side++) {
        for (int size : new int[] {8, 16, 24, 32, 384, 392, 400}) {
          if (rule == 3 && size % 16 != 0) {
            continue;
          }
          for (boolean back : new boolean[] {false, true}) {
            Guard x = size > 300 ? Guard.begun(rule) : Guard.opened(rule, 0x11);
            x.slip("01");
            String told = Checks.rising(size);
            C.due("seal " + size, x.seal(side, back, told), size);
            C.due("tape", x.end(1), Face.NONE);
            C.due("how many", x.about(side, 6), size);
            C.due("out", x.out(), sealed(x, side, back, told));
            C.due("line stays", x.line(), "01");
            C.due("sessions stay", x.sessions(), size > 300 ? 11 : 22);
          }
        }
      }
    }
  }

  private static void sealBack() {
    C.part("Promise 18, there and back, each side by its own session");
    for (int rule = 2; rule <= 3; rule++) {
      Guard x = new Guard();
      x.keys(0, rule, Face.KEYS.substring(0, 94) + "f0");
      x.keys(1, rule, Face.KEYS);
      x.start(1);
      String told = Checks.rising(48);
      for (int side = 0; side < 2; side++) {
        x.seal(side, false, told);
        String hidden = x.out();
        C.due("there", hidden, sealed(x, side, false, told));
        x.seal(side, true, hidden);
        C.due("back", x.out(), told);
        x.seal(1 - side, true, hidden);
        C.unlike("by the other", x.out(), told);
      }
      // The caller's stands though the holder's has ended, and it is no part of any chain.
      x = Guard.opened(rule, 0x13);
      x.seal(0, false, told);
      x.seal(1, false, told);
      C.due("take", x.command("0001020304"), 0x9000);
      x.seal(0, true, told);
      x.seal(1, true, told);
      x.answer("61", 0);
      C.due("accept", x.accept(0), 1);
      x.slip("01");
      x.take();
      C.due("the caller's", x.seal(0, false, told), 48);
      C.due("the holder's", x.seal(1, false, told), Face.NONE);
    }
  }

  private static void notSealed(String what, Guard x, int side, int size) {
    int sessions = x.sessions();
    x.slip("01");
    String out = x.about(0, 6) > 60 ? "" : x.out();
    for (boolean back : new boolean[] {false, true}) {
      C.due(what + ": seal " + size, x.seal(side, back, Checks.rising(size)), Face.NONE);
      C.due(what + ": tape", x.end(1), Face.NONE);
    }
    C.due(what + ": out stays", x.about(0, 6) > 60 ? "" : x.out(), out);
    C.due(what + ": line stays", x.line(), "01");
    C.due(what + ": sessions stay", x.sessions(), sessions);
  }

  private static void sealRefused() {
    C.sentence("Promise 18", "NONE if it is none,");
    for (int side = 0; side < 2; side++) {
      notSealed("new", new Guard(), side, 16);
      for (int rule = 2; rule <= 3; rule++) {
        notSealed("keyed", Guard.keyed(rule), side, 16);
        Guard x = Guard.opened(rule, 1);
        x.seal(side, false, Checks.rising(16));
        x.name("01");
        notSealed("ended", x, side, 16);
      }
    }
    for (int rule = 2; rule <= 3; rule++) {
      Guard x = Guard.commanded(rule, 1, "00010203");
      for (int side : NO_SIDES) {
        notSealed("side " + side, x, side, 16);
      }
    }
  }

  private static void sealNoBlocks() {
    C.sentence("Promise 18", "or they are not blocks.");
    for (int rule = 2; rule <= 3; rule++) {
      for (int side = 0; side < 2; side++) {
        for (int size : new int[] {0, 1, 7, 8, 9, 15, 16, 17, 24, 31, 33, 392, 396, 399}) {
          boolean blocks = size > 0 && size % (rule == 2 ? 8 : 16) == 0;
          if (!blocks) {
            Guard x = Guard.commanded(rule, 1, "00010203");
            notSealed("not blocks", x, side, size);
            C.due("blocks", x.seal(side, false, Checks.rising(16)), 16);
          }
        }
      }
    }
  }

  private static void secret() {
    C.sentence("Promise 19", "Of a SIDE's SESSION (BEGUN or OPEN) byte i of its key which, 0 ENC, "
        + "1 MAC, 2 BACK, 3 SEAL, 4 the HOLDER'S PROOF, 5 the CALLER'S, 6 c;");
    for (int rule = 2; rule <= 3; rule++) {
      for (int way = 0; way < 3; way++) {
        Guard x = way == 0 ? Guard.begun(rule) : Guard.opened(rule, way == 1 ? 0 : 0x13);
        for (int side = 0; side < 2; side++) {
          Reference.Side s = x.ref.sides[side];
          byte[][] dues = {s.enc, s.mac, s.back, s.seal, s.holderProof, s.callerProof, s.c};
          for (int which = 0; which < 7; which++) {
            C.due("secret " + which, x.secret(side, which), Checks.hex(dues[which]));
          }
        }
      }
    }
    // Each is another.
    Guard x = Guard.begun(3);
    for (int which = 0; which < 6; which++) {
      C.unlike("secret " + which, x.secret(0, which).substring(0, 16),
          x.secret(0, which + 1).substring(0, 16));
    }
  }

  private static void bounds(Guard x, int which, int size) {
    for (int side = 0; side < 2; side++) {
      C.due("the first of " + which, x.secret(side, which, 0) >= 0 ? 1 : 0, 1);
      C.due("the last of " + which, x.secret(side, which, size - 1) >= 0 ? 1 : 0, 1);
      for (int i : new int[] {size, size + 1, 32, MAX, -1, MIN}) {
        C.due("secret(" + side + ", " + which + ", " + i + ")", x.secret(side, which, i), Face.NONE);
      }
    }
  }

  private static void secretRefused() {
    C.sentence("Promise 19", "NONE if there is none such.");
    for (int length = 16; length <= 32; length += 8) {
      Guard x = new Guard();
      x.key(3, Checks.rising(3 * length));
      x.start(1);
      for (int which = 0; which < 7; which++) {
        bounds(x, which, which < 4 ? length : 8);
      }
    }
    Guard x = Guard.begun(2);
    for (int which = 0; which < 7; which++) {
      bounds(x, which, which < 4 ? 16 : which < 6 ? 8 : 6);
    }
    for (int which : new int[] {-1, 7, 8, MIN, MAX}) {
      C.due("which " + which, x.secret(0, which, 0), Face.NONE);
      C.due("which " + which, x.secret(1, which, 0), Face.NONE);
    }
    for (int side : NO_SIDES) {
      C.due("side " + side, x.secret(side, 0, 0), Face.NONE);
    }
  }

  private static void secretNone() {
    C.part("Promise 19, a SESSION that is none");
    for (int rule = 2; rule <= 3; rule++) {
      for (int which = 0; which < 7; which++) {
        Guard x = Guard.keyed(rule);
        C.due("keyed", x.secret(0, which, 0), Face.NONE);
        C.due("keyed", x.secret(1, which, 0), Face.NONE);
        x = Guard.opened(rule, 1);
        x.slip("01");
        x.take();
        C.due("the holder's has ended", x.secret(1, which, 0), Face.NONE);
        C.due("the caller's has not", x.secret(0, which, 0) >= 0 ? 1 : 0, 1);
        x.name("01");
        C.due("both have", x.secret(0, which, 0), Face.NONE);
      }
    }
    // Longer keys leave nothing behind in shorter ones.
    Guard x = new Guard();
    x.key(3, Checks.rising(96));
    x.start(1);
    x.key(3, Checks.rising(48));
    x.start(1);
    for (int which = 0; which < 7; which++) {
      bounds(x, which, which < 4 ? 16 : 8);
    }
  }

  private static void aboutSessions() {
    C.sentence("Promise 20", "What 0: the SIDE's SESSION (0 none, 1 BEGUN, 2 OPEN), "
        + "1: its LEVEL (0 if it is not OPEN),");
    for (int rule = 2; rule <= 3; rule++) {
      for (int level : new int[] {0, 1, 3, 0x11, 0x13, rule == 2 ? 0x13 : 0x33}) {
        Guard x = Guard.keyed(rule);
        C.due("none", x.about(0, 0) + x.about(1, 0) + x.about(0, 1) + x.about(1, 1), 0);
        x.start(1);
        C.due("begun", x.sessions(), 11);
        C.due("level", x.about(0, 1) + x.about(1, 1), 0);
        x.prove(level);
        C.due("the caller is open", x.sessions(), 21);
        C.due("its level", x.about(0, 1), level);
        C.due("the holder's", x.about(1, 1), 0);
        x.take();
        C.due("both are open", x.sessions(), 22);
        C.due("its level", x.about(0, 1), level);
        C.due("the holder's", x.about(1, 1), level);
        x.slip("01");
        x.take();
        C.due("the holder's, if it has ended", x.about(1, 1), 0);
        C.due("the caller's", x.about(0, 1), level);
        x.start(1);
        C.due("begun again", x.about(0, 1) + x.about(1, 1), 0);
      }
    }
  }

  private static void aboutKeys() {
    C.sentence("Promise 20", "2: the RULE of its KEYS (0 without), 3: their length (0),");
    int[][] keys = {{2, 48}, {3, 48}, {3, 72}, {3, 96}};
    for (int[] one : keys) {
      for (int side = 0; side < 2; side++) {
        Guard x = new Guard();
        C.due("without", x.about(side, 2) + x.about(side, 3), 0);
        x.keys(side, one[0], Checks.rising(one[1]));
        C.due("rule", x.about(side, 2), one[0]);
        C.due("length", x.about(side, 3), one[1] / 3);
        C.due("the other without", x.about(1 - side, 2) + x.about(1 - side, 3), 0);
      }
    }
  }

  private static void aboutBoth() {
    C.sentence("Promise 20", "4: the HOLDER's COUNTER, 5: bytes on THE LINE, 6: in THE OUT "
        + "(4 to 6 of either SIDE).");
    Guard x = Guard.begun(3);
    for (int side = 0; side < 2; side++) {
      for (int n : new int[] {0, 1, 0xFFFFFF}) {
        x.counter(n);
        C.due("counter", x.about(side, 4), n);
      }
      for (int size : new int[] {0, 1, 299, 300}) {
        x.slip(Checks.rising(size));
        C.due("line", x.about(side, 5), size);
      }
      x.cut(7);
      C.due("cut", x.about(side, 5), 7);
    }
    C.due("out", x.about(0, 6) + x.about(1, 6), 0);
    for (int size : new int[] {16, 400, 32}) {
      x.seal(0, false, Checks.rising(size));
      C.due("out", x.about(0, 6), size);
      C.due("out", x.about(1, 6), size);
    }
  }

  private static void aboutRefused() {
    C.sentence("Promise 20", "NONE for another SIDE or what.");
    for (int way = 0; way < 3; way++) {
      Guard x = way == 0 ? new Guard() : way == 1 ? Guard.begun(3) : Guard.opened(2, 0x13);
      for (int side : NO_SIDES) {
        for (int what = -1; what <= 7; what++) {
          C.due("about(" + side + ", " + what + ")", x.about(side, what), Face.NONE);
        }
      }
      for (int side = 0; side < 2; side++) {
        for (int what : new int[] {-1, -2, 7, 8, MIN, MAX}) {
          C.due("about(" + side + ", " + what + ")", x.about(side, what), Face.NONE);
        }
        C.due("about(" + side + ", 0)", x.about(side, 0), way);
        C.due("about(" + side + ", 6)", x.about(side, 6), 0);
      }
    }
  }
}
