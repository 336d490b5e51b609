/** The terms' SIDES, and what a SESSION is by each RULE. */
final class OfSides {
  private static final Checks C = Checks.ALL;
  private static final int[] NO_SIDES = {-1, 2, 3, Integer.MIN_VALUE, Integer.MAX_VALUE};

  private OfSides() {
  }

  static void run() {
    sides();
    keysAtFirst();
    keysOfRules();
    nameAtFirst();
    counterAtFirst();
    sessions();
    keysStay();
    olderNumber();
    olderKeys();
    olderProofs();
    newerNumber();
    newerKeys();
    newerProofs();
    levels();
  }

  private static byte[] b(String hex) {
    return Checks.bytes(hex);
  }

  private static void sides() {
    C.sentence("Terms", "SIDE 0 is the CALLER, 1 the HOLDER.");
    Guard x = Guard.begun(3);
    x.prove(0x11);
    C.due("the caller is open", x.about(0, 0), 2);
    C.due("the holder is begun", x.about(1, 0), 1);
    for (int side : NO_SIDES) {
      C.due("keys", x.keys(side, 3, Face.KEYS), Face.NONE);
      C.due("seal", x.seal(side, false, Checks.many("00", 16)), Face.NONE);
      C.due("secret", x.secret(side, 0, 0), Face.NONE);
      C.due("about", x.about(side, 0), Face.NONE);
      C.due("about the counter", x.about(side, 4), Face.NONE);
      C.due("sessions", x.sessions(), 21);
    }
    C.due("the holder takes", x.take(), 0x9000);
    C.due("keys of the caller", x.keys(0, 2, Face.KEYS), 1);
    C.due("the caller's rule", x.about(0, 2), 2);
    C.due("the holder's rule", x.about(1, 2), 3);
  }

  private static void keysAtFirst() {
    C.sentence("Terms", "Each has KEYS (at first none):");
    for (int side = 0; side < 2; side++) {
      Guard x = new Guard();
      C.due("rule", x.about(side, 2), 0);
      C.due("length", x.about(side, 3), 0);
      C.due("start without", x.start(1), Face.NONE);
      x.keys(side, 3, Face.KEYS);
      C.due("start with one's alone", x.start(1), Face.NONE);
      C.due("the other's rule", x.about(1 - side, 2), 0);
      C.due("the other's length", x.about(1 - side, 3), 0);
      x.keys(1 - side, 3, Face.KEYS);
      C.due("start with both", x.start(1), 1);
    }
  }

  private static void keysOfRules() {
    C.sentence("Terms", "a RULE, 2 (keys of 16 bytes) or 3 (of 16, 24 or 32), and three of them, "
        + "ENC, MAC, SEAL.");
    for (int rule = 0; rule <= 5; rule++) {
      for (int size = 0; size <= 102; size++) {
        Guard x = new Guard();
        boolean right = size == 48 && (rule == 2 || rule == 3)
            || rule == 3 && (size == 72 || size == 96);
        C.due("keys by " + rule + " of " + size, x.keys(1, rule, Checks.many("5a", size)),
            right ? 1 : Face.NONE);
        C.due("rule", x.about(1, 2), right ? rule : 0);
        C.due("length", x.about(1, 3), right ? size / 3 : 0);
      }
    }
    Guard x = new Guard();
    x.key(3, Face.KEYS);
    x.start(1);
    C.due("the third is SEAL", x.secret(0, 3), Face.SEAL);
    byte[] c = b(x.secret(0, 6));
    C.due("the first is ENC", x.secret(0, 6),
        Checks.hex(Reference.kdf(b(Face.ENC), 2, 8, new byte[3])));
    C.due("the second is MAC", x.secret(0, 1), Checks.hex(
        Reference.kdf(b(Face.MAC), 6, 16, Reference.join(Reference.number(1, 8), c))));
  }

  private static String challenge(int rule, String name, int counter) {
    if (rule == 2) {
      byte[] mac = Reference.sk(b(Face.MAC), 0x0101, counter);
      return Checks.hex(Reference.retail(mac, new byte[8], b(name))).substring(0, 12);
    }
    return Checks.hex(Reference.kdf(b(Face.ENC), 2, 8,
        Reference.join(Reference.number(counter, 3), b(name))));
  }

  private static void nameAtFirst() {
    C.sentence("Terms", "Both have THE NAME (0 to 16 bytes, at first none);");
    for (int rule = 2; rule <= 3; rule++) {
      Guard x = Guard.keyed(rule);
      x.start(1);
      C.due("c at first", x.secret(0, 6), challenge(rule, "", 0));
      for (int size = 0; size <= 18; size++) {
        x = Guard.keyed(rule);
        x.name("41");
        boolean right = size <= 16;
        C.due("name of " + size, x.name(Checks.rising(size)), right ? size : Face.NONE);
        x.start(1);
        C.due("c", x.secret(0, 6), challenge(rule, right ? Checks.rising(size) : "41", 0));
        C.due("c of both", x.secret(1, 6), x.secret(0, 6));
      }
    }
  }

  private static void counterAtFirst() {
    C.sentence("Terms", "the HOLDER has a COUNTER (0 .. 0xFFFFFF, at first 0).");
    Guard x = new Guard();
    C.due("at first", x.about(1, 4), 0);
    C.due("0xFFFFFF", x.counter(0xFFFFFF), 1);
    C.due("about", x.about(1, 4), 0xFFFFFF);
    C.due("0x1000000", x.counter(0x1000000), Face.NONE);
    C.due("-1", x.counter(-1), Face.NONE);
    C.due("about", x.about(1, 4), 0xFFFFFF);
    C.due("0", x.counter(0), 1);
    C.due("about", x.about(1, 4), 0);
  }

  private static void sessions() {
    C.sentence("Terms", "Each has a SESSION: none, BEGUN or OPEN; when KEYS or THE NAME are told, "
        + "both are none, and THE LINE is empty.");
    for (int way = 0; way < 6; way++) {
      Guard x = new Guard();
      C.due("none at first", x.sessions(), 0);
      x.begin(way < 3 ? 2 : 3);
      C.due("begun", x.sessions(), 11);
      for (int open = 0; open < 3; open++) {
        x.start(1);
        if (open > 0) {
          x.prove(0x13);
        }
        if (open > 1) {
          x.take();
        }
        C.due("sessions", x.sessions(), 11 + (open > 0 ? 10 : 0) + (open > 1 ? 1 : 0));
        x.slip("0102");
        if (way % 3 < 2) {
          x.keys(way % 3, x.about(0, 2), Face.KEYS);
        } else {
          x.name(Face.NAME);
        }
        C.due("both are none", x.sessions(), 0);
        C.due("the line", x.about(0, 5), 0);
        C.due("level", x.about(0, 1) + x.about(1, 1), 0);
        C.due("secret", x.secret(0, 0, 0) + x.secret(1, 0, 0), -2);
        C.due("prove", x.prove(1), Face.NONE);
        C.due("slip", x.slip("0102"), 2);
        C.due("take", x.take(), Face.NONE);
      }
    }
  }

  /** Whatever a session did, the next one is made of what was told. */
  private static void keysStay() {
    C.part("Terms, KEYS and THE NAME are those told, whatever comes behind");
    for (int rule = 2; rule <= 3; rule++) {
      Guard x = Guard.commanded(rule, 0x13, "8001020304");
      x.answer("61", 0x9000);
      x.accept(0x9000);
      x.seal(0, false, Checks.rising(32));
      x.seal(1, true, Checks.rising(32));
      x.slip("0102");
      x.alter(0, 1);
      x.cut(1);
      x.line(0);
      x.out(0);
      x.secret(1, 3, 0);
      x.about(1, 2);
      x.take();
      x.accept(0);
      x.name(Checks.rising(17));
      x.keys(0, 2, Checks.rising(49));
      x.counter(Face.COUNTER);
      x.start(Face.H);
      Guard y = Guard.begun(rule);
      for (int which = 0; which < 7; which++) {
        C.due("the caller's " + which, x.secret(0, which), y.secret(0, which));
        C.due("the holder's " + which, x.secret(1, which), y.secret(1, which));
      }
    }
  }

  private static Guard counted(int rule, int counter) {
    Guard x = Guard.keyed(rule);
    x.name(Face.NAME);
    x.counter(counter);
    C.due("start", x.start(Face.H), 1);
    return x;
  }

  private static void olderNumber() {
    C.sentence("Terms", "With h, the CALLER's eight bytes, a SESSION is, by RULE 2: "
        + "n the COUNTER's two lowest bytes.");
    int[][] counters = {{0, 0x10000}, {0xFFFF, 0x1FFFF}, {0xFFFF, 0xFFFFFF}, {1, 0xFF0001}};
    for (int[] two : counters) {
      Guard x = counted(2, two[0]);
      Guard y = counted(2, two[1]);
      for (int which = 0; which < 7; which++) {
        C.due("secret " + which + " of " + two[1], y.secret(1, which), x.secret(1, which));
      }
      C.due("c", x.secret(1, 6), challenge(2, Face.NAME, two[0]));
      C.due("about", y.about(1, 4), two[1]);
    }
    C.unlike("ENC of 0x100", counted(2, 0x100).secret(1, 0), counted(2, 0).secret(1, 0));
    C.unlike("ENC of 0xFFFF", counted(2, 0xFFFF).secret(1, 0), counted(2, 0xFF).secret(1, 0));
  }

  private static void olderKeys() {
    C.sentence("Terms", "SK(k, c): c (two bytes), n, 12 0s, by DES3 with k in CBC from 0s. "
        + "Its keys: ENC: SK(ENC, 0x0182), MAC: SK(MAC, 0x0101), BACK: SK(MAC, 0x0102), "
        + "SEAL: SK(SEAL, 0x0181).");
    String[] keys = {Face.ENC, Face.MAC, Face.MAC, Face.SEAL};
    String[] constants = {"0182", "0101", "0102", "0181"};
    for (int counter : new int[] {0, 1, 0xFF, 0x100, 0xFFFE, 0xFFFF}) {
      Guard x = counted(2, counter);
      for (int which = 0; which < 4; which++) {
        String told = constants[which] + Checks.hex(Reference.number(counter, 2))
            + Checks.many("00", 12);
        String due = Checks.hex(Reference.des3(true, b(keys[which]), new byte[8], b(told)));
        C.due("key " + which, x.secret(0, which), due);
        C.due("key " + which, x.secret(1, which), due);
      }
    }
  }

  private static void olderProofs() {
    C.sentence("Terms", "c: the first 6 bytes of RETAIL(its MAC, 0s, THE NAME). "
        + "THE HOLDER'S PROOF: MAC3(its ENC, (h, n, c)); the CALLER'S: MAC3(the same, (n, c, h)).");
    for (int counter : new int[] {0, 0xFFFF, 0x123456}) {
      Guard x = counted(2, counter);
      String c = challenge(2, Face.NAME, counter);
      byte[] enc = Reference.sk(b(Face.ENC), 0x0182, counter);
      String h = "40a62c37fa6304f8";
      String n = Checks.hex(Reference.number(counter, 2));
      for (int side = 0; side < 2; side++) {
        C.due("c", x.secret(side, 6), c);
        C.due("c has 6 bytes", x.secret(side, 6, 6), Face.NONE);
        C.due("the holder's", x.secret(side, 4), Checks.hex(Reference.mac3(enc, b(h + n + c))));
        C.due("the caller's", x.secret(side, 5), Checks.hex(Reference.mac3(enc, b(n + c + h))));
      }
    }
  }

  private static void newerNumber() {
    C.sentence("Terms", "By RULE 3: n the COUNTER (three bytes). c: KDF(ENC, 2, 8, (n, THE NAME)).");
    for (int counter : new int[] {0, 0xFF, 0x100, 0xFFFF, 0x10000, 0x800000, 0xFFFFFF}) {
      Guard x = counted(3, counter);
      C.due("c of " + counter, x.secret(0, 6), challenge(3, Face.NAME, counter));
      C.due("c has 8 bytes", x.secret(1, 6, 8), Face.NONE);
    }
    C.unlike("c of 0x10000", counted(3, 0x10000).secret(1, 6), counted(3, 0).secret(1, 6));
  }

  private static void newerKeys() {
    C.sentence("Terms", "Its keys, as long as those told: ENC: KDF(ENC, 4, length, (h, c)), "
        + "MAC: KDF(MAC, 6, .., ..), BACK: KDF(MAC, 7, .., ..), SEAL: that told.");
    for (int length = 16; length <= 32; length += 8) {
      String enc = Checks.rising(length);
      String mac = Checks.many("c3", length);
      String seal = Checks.rising(length - 1) + "ff";
      Guard x = new Guard();
      x.key(3, enc + mac + seal);
      x.start(Face.H);
      byte[] hc = b("40a62c37fa6304f8" + x.secret(1, 6));
      String[] dues = {Checks.hex(Reference.kdf(b(enc), 4, length, hc)),
        Checks.hex(Reference.kdf(b(mac), 6, length, hc)),
        Checks.hex(Reference.kdf(b(mac), 7, length, hc)), seal};
      for (int which = 0; which < 4; which++) {
        C.due("key " + which, x.secret(0, which), dues[which]);
        C.due("key " + which, x.secret(1, which), dues[which]);
      }
    }
  }

  private static void newerProofs() {
    C.sentence("Terms", "THE HOLDER'S PROOF: KDF(its MAC, 0, 8, (h, c)); "
        + "the CALLER'S: KDF(the same, 1, 8, (h, c)).");
    for (int length = 16; length <= 32; length += 8) {
      Guard x = new Guard();
      x.key(3, Checks.rising(3 * length));
      x.start(Face.H);
      byte[] hc = b("40a62c37fa6304f8" + x.secret(1, 6));
      byte[] mac = b(x.secret(1, 1));
      for (int side = 0; side < 2; side++) {
        C.due("the holder's", x.secret(side, 4), Checks.hex(Reference.kdf(mac, 0, 8, hc)));
        C.due("the caller's", x.secret(side, 5), Checks.hex(Reference.kdf(mac, 1, 8, hc)));
      }
    }
  }

  private static void levels() {
    C.sentence("Terms", "LEVELS: 0, 1 (commands have MACs), 3 (and are hidden), "
        + "0x11, 0x13 (answers have MACs, too); by RULE 3 also 0x33 (answers are hidden).");
    for (int rule = 2; rule <= 3; rule++) {
      for (int level : new int[] {0, 1, 3, 0x11, 0x13, 0x33}) {
        Guard x = Guard.begun(rule);
        boolean some = level != 0x33 || rule == 3;
        C.due("prove(" + level + ")", x.prove(level), some ? 20 : Face.NONE);
        C.due("take", x.take(), some ? 0x9000 : Face.NONE);
        boolean hidden = level % 16 == 3;
        int block = rule == 2 ? 8 : 16;
        C.due("send", x.send("0001020304"),
            !some || level == 0 ? Face.NONE : 4 + (hidden ? block : 1) + 8);
        x.take();
        C.due("answer", x.answer("61", 0x9000),
            !some || level < 0x10 ? Face.NONE : (level == 0x33 ? 16 : 1) + 8);
      }
    }
  }
}
