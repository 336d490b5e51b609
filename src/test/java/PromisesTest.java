/** Each promise by itself: ordinary inputs, the edges that the document names, wrong inputs. */
public final class PromisesTest {
  private static final Checks C = new Checks();
  private static final String ENC = "100102030405060708090a0b0c0d0e0f";
  private static final String MAC = "202122232425262728292a2b2c2d2e2f";
  private static final String SEAL = "000102030405060708090a0b0c0d0e0f";
  private static final String KEYS = ENC + MAC + SEAL;
  private static final String OTHER = "ff";

  public static void main(String[] args) {
    newObject();
    feed();
    end();
    out();
    line();
    alter();
    cut();
    slip();
    keys();
    keysEndSessions();
    name();
    counter();
    start();
    startUnlike();
    prove();
    sendOlder();
    sendNewer();
    sendRefused();
    takeProving();
    takeCommands();
    takeRefused();
    takeLimits();
    answerOlder();
    answerNewer();
    answerRefused();
    accept();
    acceptLong();
    seal();
    secret();
    about();
    C.end();
  }

  // Helpers

  private static LineGuard keyed(int rule, String keys) {
    LineGuard x = new LineGuard();
    Checks.keys(x, 0, rule, keys);
    Checks.keys(x, 1, rule, keys);
    return x;
  }

  private static LineGuard begun(int rule) {
    LineGuard x = keyed(rule, KEYS);
    Checks.name(x, "a000000151000000");
    x.counter(0x010203);
    x.start(0x40A62C37FA6304F8L);
    return x;
  }

  /** Both open, by a level. */
  private static LineGuard open(int rule, int level) {
    LineGuard x = begun(rule);
    x.prove(level);
    x.take();
    return x;
  }

  private static LineGuard commanded(int rule, int level, String command) {
    LineGuard x = open(rule, level);
    Checks.send(x, command);
    x.take();
    return x;
  }

  private static byte[] key(LineGuard x, int side, int which) {
    return Checks.bytes(Checks.secret(x, side, which));
  }

  private static byte[] b(String hex) {
    return Checks.bytes(hex);
  }

  private static String code(byte[] bytes) {
    return Checks.hex(Reference.part(bytes, 0, 8));
  }

  // Promises

  private static void newObject() {
    C.part("promise 1");
    C.due("NONE", LineGuard.NONE, -1);
    LineGuard x = new LineGuard();
    for (int side = 0; side < 2; side++) {
      for (int what = 0; what < 7; what++) {
        C.due("about", x.about(side, what), 0);
      }
      for (int which = 0; which < 7; which++) {
        C.due("secret", x.secret(side, which, 0), -1);
      }
      C.due("seal", Checks.seal(x, side, false, Checks.many("00", 16)), -1);
    }
    C.due("out", x.out(0), -1);
    C.due("line", x.line(0), -1);
    C.due("end(0)", x.end(0), 0);
    C.due("end(1)", x.end(1), -1);
    C.due("start", x.start(0), -1);
    C.due("prove", x.prove(0), -1);
    C.due("send", Checks.send(x, "00000000"), -1);
    C.due("take", x.take(), -1);
    C.due("answer", x.answer(0), -1);
    C.due("accept", x.accept(0), -1);
    // No name yet: c is that of no bytes.
    LineGuard y = keyed(3, KEYS);
    y.start(0);
    C.due("c", Checks.secret(y, 1, 6), Checks.hex(Reference.kdf(b(ENC), 2, 8, new byte[3])));
  }

  private static void feed() {
    C.part("promise 2");
    LineGuard x = new LineGuard();
    C.due("feed", x.feed(0x01020304, -1, 0x80000000, 0x7fffffff, 5), 20);
    for (int i = 2; i <= 20; i++) {
      C.due("feed", x.feed(i, i, i, i, i), 20 * i);
    }
    C.due("feed beyond 400", x.feed(9, 9, 9, 9, 9), -1);
    C.due("end(401)", x.end(401), -1);
    C.due("end(400)", x.end(400), 400);
    C.due("end(381)", x.end(381), 381);
    C.due("feed to 401", x.feed(9, 9, 9, 9, 9), -1);
    C.due("end(380)", x.end(380), 380);
    C.due("feed to 400", x.feed(9, 9, 9, 9, 9), 400);
    x.end(40);
    x.slip();
    C.due("bytes", Checks.line(x),
        "01020304ffffffff800000007fffffff00000005" + Checks.many("00000002", 5));
  }

  private static void end() {
    C.part("promise 3");
    LineGuard x = new LineGuard();
    x.feed(0x01020304, 0x05060708, 0, 0, 0);
    C.due("end(21)", x.end(21), -1);
    C.due("end(-1)", x.end(-1), -1);
    C.due("end(min)", x.end(Integer.MIN_VALUE), -1);
    C.due("end(20)", x.end(20), 20);
    C.due("end(6)", x.end(6), 6);
    C.due("end(7)", x.end(7), -1);
    C.due("slip", x.slip(), 6);
    C.due("line", Checks.line(x), "010203040506");
    x.feed(1, 1, 1, 1, 1);
    C.due("end(0)", x.end(0), 0);
    C.due("slip", x.slip(), 0);
  }

  private static void out() {
    C.part("promise 4");
    LineGuard x = begun(3);
    Checks.seal(x, 0, false, "00112233445566778899aabbccddeeff");
    C.due("out(0)", x.out(0), 0x69);
    C.due("out(15)", x.out(15), 0x5a);
    C.due("out(16)", x.out(16), -1);
    C.due("out(-1)", x.out(-1), -1);
    C.due("out(max)", x.out(Integer.MAX_VALUE), -1);
    // What fails writes nothing, and what takes up the tape or starts anew neither.
    Checks.seal(x, 0, false, "00");
    x.start(1);
    C.due("out stays", Checks.out(x), "69c4e0d86a7b0430d8cdb78070b4c55a");
  }

  private static void line() {
    C.part("promise 5");
    LineGuard x = new LineGuard();
    Checks.slip(x, "80ff017f");
    C.due("line(0)", x.line(0), 128);
    C.due("line(1)", x.line(1), 255);
    C.due("line(3)", x.line(3), 127);
    C.due("line(4)", x.line(4), -1);
    C.due("line(-1)", x.line(-1), -1);
    C.due("line(min)", x.line(Integer.MIN_VALUE), -1);
  }

  private static void alter() {
    C.part("promise 6");
    LineGuard x = new LineGuard();
    Checks.slip(x, "80ff01");
    C.due("alter", x.alter(0, 1), 0x81);
    C.due("alter", x.alter(1, 0x1ff), 0);
    C.due("alter", x.alter(2, -1), 0xfe);
    C.due("alter", x.alter(2, 0x100), 0xfe);
    C.due("alter(3)", x.alter(3, 1), -1);
    C.due("alter(-1)", x.alter(-1, 1), -1);
    C.due("line", Checks.line(x), "8100fe");
    C.due("about", x.about(1, 5), 3);
  }

  private static void cut() {
    C.part("promise 7");
    LineGuard x = new LineGuard();
    Checks.slip(x, "80ff017f");
    C.due("cut(5)", x.cut(5), -1);
    C.due("cut(-1)", x.cut(-1), -1);
    C.due("cut(4)", x.cut(4), 4);
    C.due("cut(2)", x.cut(2), 2);
    C.due("cut(3)", x.cut(3), -1);
    C.due("line", Checks.line(x), "80ff");
    C.due("cut(0)", x.cut(0), 0);
    C.due("line(0)", x.line(0), -1);
  }

  private static void slip() {
    C.part("promise 8");
    LineGuard x = new LineGuard();
    C.due("slip 300", Checks.slip(x, Checks.many("17", 300)), 300);
    C.due("line(299)", x.line(299), 0x17);
    C.due("slip 301", Checks.slip(x, Checks.many("18", 301)), -1);
    C.due("tape is empty", x.end(1), -1);
    C.due("line stays", Checks.line(x), Checks.many("17", 300));
    C.due("slip 400", Checks.slip(x, Checks.many("18", 400)), -1);
    C.due("slip 3", Checks.slip(x, "010203"), 3);
    C.due("line", Checks.line(x), "010203");
    C.due("tape is empty", x.end(1), -1);
    C.due("slip 0", x.slip(), 0);
    C.due("line is empty", x.line(0), -1);
  }

  private static void keys() {
    C.part("promise 9");
    int[] rules = {-1, 0, 1, 2, 3, 4};
    int[] sizes = {0, 3, 47, 48, 49, 50, 51, 71, 72, 73, 95, 96, 97, 120, 144, 400};
    for (int rule : rules) {
      for (int size : sizes) {
        for (int side = -1; side <= 2; side++) {
          LineGuard x = new LineGuard();
          boolean right = (side == 0 || side == 1)
              && (size == 48 && (rule == 2 || rule == 3) || rule == 3 && (size == 72 || size == 96));
          C.due("keys(" + side + ", " + rule + ") of " + size,
              Checks.keys(x, side, rule, Checks.many("ab", size)), right ? 1 : -1);
          C.due("tape is empty", x.end(1), -1);
          for (int s = 0; s < 2; s++) {
            C.due("rule", x.about(s, 2), right && s == side ? rule : 0);
            C.due("length", x.about(s, 3), right && s == side ? size / 3 : 0);
          }
        }
      }
    }
  }

  private static void keysEndSessions() {
    C.part("promise 9, sessions");
    LineGuard x = open(3, 1);
    Checks.slip(x, "01");
    C.due("wrong keys", Checks.keys(x, 0, 2, KEYS + "00"), -1);
    C.due("wrong side", Checks.keys(x, 2, 2, KEYS), -1);
    C.due("rule stays", x.about(0, 2), 3);
    C.due("session stays", x.about(0, 0), 2);
    C.due("session stays", x.about(1, 0), 2);
    C.due("line stays", x.about(0, 5), 1);
    C.due("keys", Checks.keys(x, 0, 2, KEYS), 1);
    C.due("session", x.about(0, 0), 0);
    C.due("session", x.about(1, 0), 0);
    C.due("level", x.about(1, 1), 0);
    C.due("line", x.about(0, 5), 0);
    C.due("rule", x.about(1, 2), 3);
    C.due("counter stays", x.about(1, 4), 0x010204);
    x = open(2, 1);
    Checks.slip(x, "01");
    C.due("keys", Checks.keys(x, 1, 2, KEYS), 1);
    C.due("sessions and line", x.about(0, 0) + x.about(1, 0) + x.about(0, 5), 0);
  }

  private static void name() {
    C.part("promise 10");
    LineGuard x = open(2, 1);
    Checks.slip(x, "01");
    C.due("17", Checks.name(x, Checks.many("41", 17)), -1);
    C.due("tape is empty", x.end(1), -1);
    C.due("session stays", x.about(0, 0) + x.about(1, 0), 4);
    C.due("line stays", x.about(0, 5), 1);
    C.due("16", Checks.name(x, Checks.many("41", 16)), 16);
    C.due("sessions and line", x.about(0, 0) + x.about(1, 0) + x.about(0, 5), 0);
    x.counter(7);
    x.start(5);
    byte[] mac = Reference.sk(b(MAC), 0x0101, 7);
    C.due("c", Checks.secret(x, 0, 6), Checks.hex(Reference.retail(mac, new byte[8],
        b(Checks.many("41", 16)))).substring(0, 12));
    C.due("0", Checks.name(x, ""), 0);
    C.due("sessions", x.about(0, 0) + x.about(1, 0), 0);
    x.start(5);
    C.due("c", Checks.secret(x, 0, 6),
        Checks.hex(Reference.retail(mac, new byte[8], b(""))).substring(0, 12));
  }

  private static void counter() {
    C.part("promise 11");
    LineGuard x = open(2, 0x11);
    C.due("counter(max)", x.counter(0xFFFFFF), 1);
    C.due("counter(-1)", x.counter(-1), -1);
    C.due("counter(max + 1)", x.counter(0x1000000), -1);
    C.due("about", x.about(0, 4), 0xFFFFFF);
    C.due("counter(0)", x.counter(0), 1);
    C.due("about", x.about(1, 4), 0);
    C.due("session stays", x.about(0, 0) + x.about(1, 0), 4);
  }

  private static void start() {
    C.part("promise 12");
    byte[] h = b("40a62c37fa6304f8");
    byte[] name = b("a000000151000000");
    LineGuard x = keyed(2, KEYS);
    Checks.name(x, "a000000151000000");
    x.counter(0x010203);
    Checks.slip(x, "0102");
    C.due("start", x.start(0x40A62C37FA6304F8L), 1);
    C.due("line", x.about(0, 5), 0);
    C.due("counter stays", x.about(0, 4), 0x010203);
    byte[] enc = Reference.sk(b(ENC), 0x0182, 0x0203);
    byte[] mac = Reference.sk(b(MAC), 0x0101, 0x0203);
    byte[] c = Reference.part(Reference.retail(mac, new byte[8], name), 0, 6);
    String[] older = {Checks.hex(enc), Checks.hex(mac),
        Checks.hex(Reference.sk(b(MAC), 0x0102, 0x0203)),
        Checks.hex(Reference.sk(b(SEAL), 0x0181, 0x0203)),
        Checks.hex(Reference.mac3(enc, Reference.join(h, 2, 3, c))),
        Checks.hex(Reference.mac3(enc, Reference.join(2, 3, c, h))), Checks.hex(c)};
    for (int side = 0; side < 2; side++) {
      C.due("session", x.about(side, 0), 1);
      C.due("level", x.about(side, 1), 0);
      for (int which = 0; which < 7; which++) {
        C.due("secret " + which, Checks.secret(x, side, which), older[which]);
      }
    }
    for (int length = 16; length <= 32; length += 8) {
      String e = Checks.many("1f", length);
      String m = Checks.many("d0e1", length / 2);
      String s = Checks.many("37", length);
      x = keyed(3, e + m + s);
      Checks.name(x, "a000000151000000");
      x.counter(0x810203);
      C.due("start", x.start(0x40A62C37FA6304F8L), 1);
      c = Reference.kdf(b(e), 2, 8, Reference.join(0x81, 2, 3, name));
      byte[] hc = Reference.join(h, c);
      mac = Reference.kdf(b(m), 6, length, hc);
      String[] newer = {Checks.hex(Reference.kdf(b(e), 4, length, hc)), Checks.hex(mac),
          Checks.hex(Reference.kdf(b(m), 7, length, hc)), s,
          Checks.hex(Reference.kdf(mac, 0, 8, hc)), Checks.hex(Reference.kdf(mac, 1, 8, hc)),
          Checks.hex(c)};
      for (int which = 0; which < 7; which++) {
        C.due("secret " + which, Checks.secret(x, 0, which), newer[which]);
        C.due("secret " + which, Checks.secret(x, 1, which), newer[which]);
      }
    }
  }

  private static void startUnlike() {
    C.part("promise 12, unlike keys");
    LineGuard x = new LineGuard();
    Checks.keys(x, 0, 3, KEYS);
    Checks.slip(x, "01");
    C.due("holder without", x.start(1), -1);
    C.due("line stays", x.about(0, 5), 1);
    Checks.keys(x, 1, 2, KEYS);
    Checks.slip(x, "01");
    C.due("rules unlike", x.start(1), -1);
    Checks.keys(x, 1, 3, Checks.many("01", 72));
    Checks.slip(x, "01");
    C.due("lengths unlike", x.start(1), -1);
    C.due("line stays", x.about(0, 5), 1);
    C.due("sessions", x.about(0, 0) + x.about(1, 0), 0);
    x = new LineGuard();
    Checks.keys(x, 1, 3, KEYS);
    C.due("caller without", x.start(1), -1);

    // The proof is by ENC in the older rule, by MAC in the newer one.
    String unlikeEnc = OTHER + KEYS.substring(2);
    String unlikeMac = KEYS.substring(0, 32) + OTHER + KEYS.substring(34);
    for (int rule = 2; rule <= 3; rule++) {
      x = open(rule, 1);
      Checks.keys(x, 0, rule, rule == 2 ? unlikeEnc : unlikeMac);
      Checks.slip(x, "01");
      C.due("start", x.start(1), 0);
      C.due("line", x.about(0, 5), 0);
      C.due("caller", x.about(0, 0), 0);
      C.due("holder", x.about(1, 0), 1);
      C.due("caller's secret", x.secret(0, 0, 0), -1);
      C.due("holder's secret", Checks.secret(x, 1, 0).length(), 32);
      Checks.keys(x, 0, rule, rule == 2 ? unlikeMac : unlikeEnc);
      C.due("start", x.start(1), 1);
      C.due("c is the holder's", Checks.secret(x, 0, 6), Checks.secret(x, 1, 6));
      C.due("key is the caller's",
          Checks.secret(x, 0, rule == 2 ? 1 : 0).equals(Checks.secret(x, 1, rule == 2 ? 1 : 0)) ? 1 : 0, 0);
    }
    // A session that was open ends with a start that fails, and one that starts begins again.
    x = open(2, 0x13);
    C.due("start again", x.start(3), 1);
    C.due("state", x.about(0, 0) + x.about(1, 0), 2);
    C.due("level", x.about(0, 1) + x.about(1, 1), 0);
    C.due("prove", x.prove(3), 20);
    C.due("take", x.take(), 0x9000);
  }

  private static void prove() {
    C.part("promise 13");
    for (int rule = 2; rule <= 3; rule++) {
      for (int level = -1; level <= 0x140; level++) {
        LineGuard x = begun(rule);
        boolean right = level == 0 || level == 1 || level == 3 || level == 0x11 || level == 0x13
            || rule == 3 && level == 0x33;
        Checks.slip(x, "01");
        C.due("prove(" + level + ") by " + rule, x.prove(level), right ? 20 : -1);
        C.due("caller", x.about(0, 0), right ? 2 : 1);
        C.due("level", x.about(0, 1), right ? level : 0);
        C.due("holder", x.about(1, 0), 1);
        if (!right) {
          C.due("line stays", Checks.line(x), "01");
          continue;
        }
        String head = "8482" + Checks.hex(new byte[] {(byte) level}) + "00";
        byte[] proof = key(x, 0, 5);
        byte[] text = Reference.join(b(head), 16, proof);
        byte[] mac = key(x, 0, 1);
        String due = head + Checks.hex(proof) + (rule == 2
            ? code(Reference.retail(mac, new byte[8], text))
            : code(Reference.cmac(mac, Reference.join(new byte[16], text))));
        C.due("line", Checks.line(x), due);
        C.due("prove again", x.prove(level), -1);
        C.due("line stays", Checks.line(x), due);
      }
    }
    LineGuard x = keyed(2, KEYS);
    C.due("none", x.prove(1), -1);
    // A second one begins at 0s again.
    x = commanded(2, 3, "0001020304");
    x.start(0x40A62C37FA6304F8L);
    x.prove(3);
    C.due("take", x.take(), 0x9000);
  }

  private static String securedOlder(LineGuard x, byte[] before, String command, boolean hidden) {
    byte[] all = b(command);
    byte[] data = Reference.part(all, 4, all.length);
    byte[] mac = key(x, 0, 1);
    byte[] iv = Reference.des(true, Reference.part(mac, 0, 8), new byte[8], before);
    byte[] code = Reference.retail(mac, iv,
        Reference.join(all[0] & 0xF8 | 4, all[1], all[2], all[3], data.length + 8, data));
    byte[] shown = hidden && data.length > 0
        ? Reference.des3(true, key(x, 0, 0), new byte[8], Reference.padded(data, 8)) : data;
    return Checks.hex(Reference.join(all[0] | 4, all[1], all[2], all[3], shown, code));
  }

  private static final String[] COMMANDS = {"00a40400", "80e20001aabb", "ff01020300", "070102030000",
    "8401020301020304050607", "84010203" + "0102030405060708", "fb010203" + "80".repeat(200),
    "03000000" + "00".repeat(15), "000000ff" + "01".repeat(16), "00000000" + "7f".repeat(199)};

  private static byte[] lastCode(String line) {
    return b(line.substring(line.length() - 16));
  }

  private static void sendOlder() {
    C.part("promise 14, rule 2");
    for (int level : new int[] {1, 3, 0x11, 0x13}) {
      LineGuard x = begun(2);
      x.prove(level);
      byte[] before = lastCode(Checks.line(x));
      for (String command : COMMANDS) {
        String due = securedOlder(x, before, command, (level & 2) != 0);
        C.due("send", Checks.send(x, command), due.length() / 2);
        C.due("line", Checks.line(x), due);
        C.due("tape is empty", x.end(1), -1);
        before = lastCode(due);
      }
    }
  }

  private static void sendNewer() {
    C.part("promise 14, rule 3");
    for (int level : new int[] {1, 3, 0x11, 0x13, 0x33}) {
      LineGuard x = begun(3);
      x.prove(level);
      byte[] mac = key(x, 0, 1);
      byte[] chain = Reference.cmac(mac, Reference.join(new byte[16], 0x84, 0x82, level, 0, 16,
          key(x, 0, 5)));
      int count = 0;
      for (String command : COMMANDS) {
        count++;
        byte[] all = b(command);
        byte[] data = Reference.part(all, 4, all.length);
        if ((level & 2) != 0 && data.length > 0) {
          byte[] iv = Reference.aes(true, key(x, 0, 0), new byte[16], Reference.number(count, 16));
          data = Reference.aes(true, key(x, 0, 0), iv, Reference.padded(data, 16));
        }
        chain = Reference.cmac(mac, Reference.join(chain, all[0] & 0xF8 | 4, all[1], all[2], all[3],
            data.length + 8, data));
        String due = Checks.hex(Reference.join(all[0] | 4, all[1], all[2], all[3], data,
            Reference.part(chain, 0, 8)));
        C.due("send", Checks.send(x, command), due.length() / 2);
        C.due("line", Checks.line(x), due);
      }
    }
  }

  private static void sendRefused() {
    C.part("promise 14, refused");
    for (int rule = 2; rule <= 3; rule++) {
      LineGuard x = begun(rule);
      C.due("begun", Checks.send(x, "00000000"), -1);
      C.due("tape is empty", x.end(1), -1);
      x.prove(0);
      String line = Checks.line(x);
      C.due("level 0", Checks.send(x, "00000000"), -1);
      C.due("line stays", Checks.line(x), line);
      x = open(rule, 0x13);
      Checks.slip(x, "01");
      C.due("no bytes", Checks.send(x, ""), -1);
      C.due("3 bytes", Checks.send(x, "000000"), -1);
      C.due("205 bytes", Checks.send(x, Checks.many("00", 205)), -1);
      C.due("400 bytes", Checks.send(x, Checks.many("00", 400)), -1);
      C.due("tape is empty", x.end(1), -1);
      C.due("line stays", Checks.line(x), "01");
      C.due("none sent yet", x.accept(0), -1);
      // What was refused has no count and no code.
      C.due("4 bytes", Checks.send(x, "00000000"), 12);
      C.due("take", x.take(), 0x9000);
      C.due("204 bytes", Checks.send(x, Checks.many("00", 204)), rule == 2 ? 220 : 220);
      C.due("take", x.take(), 0x9000);
    }
  }

  private static void takeProving() {
    C.part("promise 15, the proving command");
    for (int rule = 2; rule <= 3; rule++) {
      for (int level : new int[] {0, 1, 3, 0x11, 0x13, 0x33}) {
        LineGuard x = begun(rule);
        if (x.prove(level) != 20) {
          continue;
        }
        x.counter(0xFFFFFF);
        C.due("take", x.take(), 0x9000);
        C.due("holder", x.about(1, 0), 2);
        C.due("level", x.about(1, 1), level);
        C.due("counter", x.about(1, 4), 0);
        C.due("line", x.about(1, 5), 0);
        C.due("out", x.about(1, 6), 0);
        C.due("take again", x.take(), -1);
      }
      for (int i = 0; i < 20; i++) {
        for (int bit = 1; bit < 256; bit *= 2) {
          LineGuard x = begun(rule);
          x.prove(1);
          x.alter(i, bit);
          C.due("altered " + i, x.take(), 0x6300);
          C.due("holder", x.about(1, 0), 0);
          C.due("counter", x.about(1, 4), 0x010203);
          C.due("line", x.about(1, 5), 0);
        }
      }
      LineGuard x = begun(rule);
      x.prove(1);
      String line = Checks.line(x);
      for (int n = 1; n < 20; n++) {
        x = begun(rule);
        x.prove(1);
        x.cut(n);
        C.due("cut to " + n, x.take(), 0x6300);
      }
      C.due("line is empty", begun(rule).take(), -1);
      x = begun(rule);
      Checks.slip(x, line + "00");
      C.due("longer", x.take(), 0x6300);
      x = begun(rule);
      C.due("slipped", Checks.slip(x, line), 20);
      C.due("told by somebody else", x.take(), 0x9000);
      // A right MAC does not make another level, P2 or proof right.
      wrongProving(rule, "84820200", true);
      wrongProving(rule, "84824100", true);
      wrongProving(rule, rule == 2 ? "84823300" : "84823200", true);
      wrongProving(rule, "84820101", true);
      wrongProving(rule, "84830100", true);
      wrongProving(rule, "85820100", true);
      wrongProving(rule, "04820100", true);
      wrongProving(rule, "84820100", false);
    }
  }

  private static void wrongProving(int rule, String head, boolean rightProof) {
    LineGuard x = begun(rule);
    byte[] h = b(head);
    byte[] proof = key(x, 1, rightProof ? 5 : 4);
    byte[] text = Reference.join(h[0] & 0xF8 | 4, h[1], h[2], h[3], 16, proof);
    byte[] mac = key(x, 1, 1);
    String code = rule == 2 ? code(Reference.retail(mac, new byte[8], text))
        : code(Reference.cmac(mac, Reference.join(new byte[16], text)));
    Checks.slip(x, head + Checks.hex(proof) + code);
    C.due("proving " + head, x.take(), 0x6300);
    C.due("holder", x.about(1, 0), 0);
  }

  private static void takeCommands() {
    C.part("promise 15, commands");
    for (int rule = 2; rule <= 3; rule++) {
      for (int level : new int[] {1, 3, 0x11, 0x13, 0x33}) {
        if (rule == 2 && level == 0x33) {
          continue;
        }
        LineGuard x = open(rule, level);
        for (String command : COMMANDS) {
          Checks.send(x, command);
          C.due("take", x.take(), 0x9000);
          byte[] due = b(command);
          due[0] &= ~4;
          C.due("out", Checks.out(x), Checks.hex(due));
          C.due("line", x.about(0, 5), 0);
          C.due("counter", x.about(0, 4), 0x010204);
        }
        C.due("nothing more", x.take(), -1);
        C.due("holder", x.about(1, 0), 2);
      }
      LineGuard x = open(rule, 0);
      Checks.slip(x, "01");
      C.due("level 0", x.take(), -1);
      C.due("line stays", x.about(0, 5), 1);
      x = keyed(rule, KEYS);
      Checks.slip(x, "01");
      C.due("no session", x.take(), -1);
      C.due("line stays", x.about(0, 5), 1);
      // Bits 0 and 1 of CLA are in no code.
      x = open(rule, 3);
      Checks.send(x, "8001020304");
      x.alter(0, 3);
      C.due("take", x.take(), 0x9000);
      C.due("out", Checks.out(x), "8301020304");
    }
  }

  private static void refused(LineGuard x, String what) {
    int counter = x.about(1, 4);
    String out = Checks.out(x);
    C.due(what, x.take(), 0x6982);
    C.due(what + ": holder", x.about(1, 0), 0);
    C.due(what + ": caller", x.about(0, 0), 2);
    C.due(what + ": line", x.about(1, 5), 0);
    C.due(what + ": counter", x.about(1, 4), counter);
    C.due(what + ": out", Checks.out(x), out);
    Checks.slip(x, "01");
    C.due(what + ": take again", x.take(), -1);
  }

  private static void takeRefused() {
    C.part("promise 15, refused");
    for (int rule = 2; rule <= 3; rule++) {
      for (int level : new int[] {1, 3}) {
        LineGuard x = open(rule, level);
        Checks.send(x, "0001020304050607");
        int length = x.about(0, 5);
        for (int i = 0; i < length; i++) {
          x = open(rule, level);
          Checks.send(x, "0001020304050607");
          x.alter(i, i == 0 ? 4 : 0x80);
          refused(x, "altered " + i);
        }
        for (int n = 1; n < length; n++) {
          x = open(rule, level);
          Checks.send(x, "0001020304050607");
          x.cut(n);
          refused(x, "cut to " + n);
        }
        x = open(rule, level);
        Checks.send(x, "00010203");
        String line = Checks.line(x);
        x.take();
        Checks.slip(x, line);
        refused(x, "told twice");
        x = open(rule, level);
        Checks.send(x, "0001020304");
        Checks.send(x, "0001020304");
        refused(x, "left out");
        x = open(rule, level);
        Checks.send(x, "00010203");
        x.cut(0);
        C.due("left out whole", x.take(), -1);
        x = begun(rule);
        x.prove(level);
        line = Checks.line(x);
        x.take();
        Checks.slip(x, line);
        refused(x, "the proving one again");
      }
    }
  }

  /** A command of plain data by the first code behind the proving command. */
  private static void forge(int rule, int level, byte[] data, int due) {
    LineGuard x = begun(rule);
    x.prove(level);
    byte[] proving = lastCode(Checks.line(x));
    x.take();
    byte[] mac = key(x, 1, 1);
    byte[] head = b("84010203");
    byte[] code;
    if (rule == 2) {
      byte[] plain = data;
      if ((level & 2) != 0 && data.length % 8 == 0) {
        byte[] shown = Reference.des3(false, key(x, 1, 0), new byte[8], data);
        plain = Reference.unpadded(shown) == null ? shown : Reference.unpadded(shown);
      }
      byte[] iv = Reference.des(true, Reference.part(mac, 0, 8), new byte[8], proving);
      code = Reference.retail(mac, iv, Reference.join(head, plain.length + 8, plain));
    } else {
      byte[] chain = Reference.cmac(mac, Reference.join(new byte[16], 0x84, 0x82, level, 0, 16,
          key(x, 1, 5)));
      code = Reference.part(
          Reference.cmac(mac, Reference.join(chain, head, data.length + 8, data)), 0, 8);
    }
    C.due("forged", Checks.slip(x, Checks.hex(Reference.join(head, data, code))), data.length + 12);
    C.due("forged " + data.length + " by " + rule + ", " + level, x.take(), due);
  }

  private static byte[] hidden(int rule, int level, byte[] padded) {
    LineGuard x = open(rule, level);
    if (rule == 2) {
      return Reference.des3(true, key(x, 1, 0), new byte[8], padded);
    }
    byte[] iv = Reference.aes(true, key(x, 1, 0), new byte[16], Reference.number(1, 16));
    return Reference.aes(true, key(x, 1, 0), iv, padded);
  }

  private static void takeLimits() {
    C.part("promise 15, limits");
    for (int rule = 2; rule <= 3; rule++) {
      forge(rule, 1, new byte[200], 0x9000);
      forge(rule, 1, new byte[201], 0x6982);
      forge(rule, 1, new byte[288], 0x6982);
      forge(rule, 3, new byte[0], 0x9000);
      int width = rule == 2 ? 8 : 16;
      forge(rule, 3, new byte[width - 1], 0x6982);
      forge(rule, 3, new byte[width + 1], 0x6982);
      forge(rule, 3, hidden(rule, 3, Reference.padded(b("01"), width)), 0x9000);
      // Wrong paddings: no byte ahead, no byte at all, another last byte.
      forge(rule, 3, hidden(rule, 3, Reference.padded(b(""), width)), 0x6982);
      forge(rule, 3, hidden(rule, 3, new byte[width]), 0x6982);
      forge(rule, 3, hidden(rule, 3, b(Checks.many("81", width))), 0x6982);
      forge(rule, 3, hidden(rule, 3, b(Checks.many("80", width))), 0x9000);
      byte[] most = new byte[200];
      forge(rule, 3, hidden(rule, 3, Reference.padded(most, width)), 0x9000);
      most = new byte[201];
      forge(rule, 3, hidden(rule, 3, Reference.padded(most, width)), 0x6982);
      most = new byte[271];
      forge(rule, 3, hidden(rule, 3, Reference.padded(most, width)), 0x6982);
    }
  }

  private static final String[] ANSWERS = {"", "61", "0102030405060708", "00".repeat(15),
    "80".repeat(16), "fe".repeat(200)};

  private static void answerOlder() {
    C.part("promises 16 and 17, rule 2");
    for (int level : new int[] {0x11, 0x13}) {
      LineGuard x = begun(2);
      x.prove(level);
      byte[] chain = lastCode(Checks.line(x));
      x.take();
      int sw = 0x9000;
      for (String command : COMMANDS) {
        for (String told : ANSWERS) {
          Checks.send(x, command);
          x.take();
          byte[] c = b(command);
          byte[] data = b(told);
          chain = Reference.retail(key(x, 1, 2), chain, Reference.join(c[0] & 0xF8, c[1], c[2], c[3],
              c.length - 4, Reference.part(c, 4, c.length), data.length, data,
              Reference.number(sw, 2)));
          C.due("answer", Checks.answer(x, told, sw), data.length + 8);
          C.due("line", Checks.line(x), told + Checks.hex(chain));
          C.due("tape is empty", x.end(1), -1);
          C.due("accept", x.accept(sw), 1);
          C.due("out", Checks.out(x), told);
          C.due("line", x.about(0, 5), 0);
          sw = sw * 31 & 0xFFFF;
        }
      }
    }
  }

  private static void answerNewer() {
    C.part("promises 16 and 17, rule 3");
    for (int level : new int[] {0x11, 0x13, 0x33}) {
      LineGuard x = begun(3);
      x.prove(level);
      x.take();
      byte[] chain = Reference.cmac(key(x, 1, 1), Reference.join(new byte[16], 0x84, 0x82, level, 0,
          16, key(x, 1, 5)));
      int count = 0;
      for (String told : ANSWERS) {
        count++;
        Checks.send(x, "80010203");
        x.take();
        chain = Reference.cmac(key(x, 1, 1), Reference.join(chain, 0x84, 1, 2, 3, 8));
        byte[] data = b(told);
        if (level == 0x33 && data.length > 0) {
          byte[] iv = Reference.number(count, 16);
          iv[0] = (byte) 0x80;
          iv = Reference.aes(true, key(x, 1, 0), new byte[16], iv);
          data = Reference.aes(true, key(x, 1, 0), iv, Reference.padded(data, 16));
        }
        int sw = 0xFFFF - count;
        byte[] code = Reference.part(
            Reference.cmac(key(x, 1, 2), Reference.join(chain, data, Reference.number(sw, 2))), 0, 8);
        C.due("answer", Checks.answer(x, told, sw), data.length + 8);
        C.due("line", Checks.line(x), Checks.hex(Reference.join(data, code)));
        C.due("accept", x.accept(sw), 1);
        C.due("out", Checks.out(x), told);
      }
    }
  }

  private static void answerRefused() {
    C.part("promise 16, refused");
    for (int rule = 2; rule <= 3; rule++) {
      LineGuard x = begun(rule);
      C.due("begun", Checks.answer(x, "61", 0x9000), -1);
      C.due("tape is empty", x.end(1), -1);
      for (int level : new int[] {0, 1, 3}) {
        x = commanded(rule, level, "00010203");
        Checks.slip(x, "01");
        C.due("level " + level, Checks.answer(x, "61", 0x9000), -1);
        C.due("line stays", Checks.line(x), "01");
      }
      x = open(rule, 0x11);
      C.due("took none", Checks.answer(x, "61", 0x9000), -1);
      Checks.send(x, "00010203");
      C.due("took none yet", Checks.answer(x, "61", 0x9000), -1);
      x.take();
      Checks.slip(x, "01");
      C.due("201", Checks.answer(x, Checks.many("61", 201), 0x9000), -1);
      C.due("sw -1", Checks.answer(x, "61", -1), -1);
      C.due("sw 0x10000", Checks.answer(x, "61", 0x10000), -1);
      C.due("tape is empty", x.end(1), -1);
      C.due("line stays", Checks.line(x), "01");
      // What was refused has changed no code.
      C.due("200", Checks.answer(x, Checks.many("61", 200), 0), 208);
      C.due("accept", x.accept(0), 1);
      C.due("sw 0xFFFF", Checks.answer(x, "", 0xFFFF), 8);
      C.due("accept", x.accept(0xFFFF), 1);
      // Another session took none yet.
      x.start(1);
      x.prove(0x11);
      x.take();
      C.due("a new session", Checks.answer(x, "61", 0x9000), -1);
      C.due("a new session", x.accept(0x9000), -1);
    }
  }

  private static void accept() {
    C.part("promise 17");
    for (int rule = 2; rule <= 3; rule++) {
      LineGuard x = begun(rule);
      C.due("begun", x.accept(0x9000), -1);
      for (int level : new int[] {0, 1, 3}) {
        x = commanded(rule, level, "00010203");
        Checks.slip(x, Checks.many("01", 9));
        C.due("level " + level, x.accept(0x9000), -1);
        C.due("line stays", x.about(0, 5), 9);
      }
      x = open(rule, 0x11);
      Checks.slip(x, Checks.many("01", 9));
      C.due("sent none", x.accept(0x9000), -1);
      C.due("line stays", x.about(0, 5), 9);
      int level = rule == 2 ? 0x13 : 0x33;
      x = commanded(rule, level, "0001020304");
      C.due("empty line", x.accept(0x9000), 0);
      Checks.answer(x, "6162", 0x9000);
      String line = Checks.line(x);
      C.due("sw -1", x.accept(-1), -1);
      C.due("sw 0x10000", x.accept(0x10000), -1);
      C.due("line stays", Checks.line(x), line);
      C.due("another sw", x.accept(0x9001), 0);
      C.due("line", x.about(0, 5), 0);
      for (int i = 0; i < line.length() / 2; i++) {
        Checks.slip(x, line);
        x.alter(i, 0x40);
        C.due("altered " + i, x.accept(0x9000), 0);
        Checks.slip(x, line);
        x.cut(i);
        C.due("cut to " + i, x.accept(0x9000), 0);
        C.due("line", x.about(0, 5), 0);
      }
      C.due("session stays", x.about(0, 0), 2);
      C.due("out stays", Checks.out(x), "0001020304");
      Checks.slip(x, line);
      C.due("right", x.accept(0x9000), 1);
      C.due("out", Checks.out(x), "6162");
      // The older rule chains its answers, the newer one's stand by their command.
      Checks.slip(x, line);
      C.due("told twice", x.accept(0x9000), rule == 2 ? 0 : 1);
      Checks.answer(x, "", 0x9000);
      C.due("right, no data", x.accept(0x9000), 1);
      C.due("out", x.about(0, 6), 0);
      Checks.send(x, "0001020305");
      Checks.slip(x, line);
      C.due("of another command", x.accept(0x9000), 0);
    }
  }

  /** An answer that has its code: of more bytes than answer tells, or wrongly padded. */
  private static void acceptForged(int level, byte[] data, int due) {
    LineGuard x = commanded(3, level, "80010203");
    byte[] mac = key(x, 0, 1);
    byte[] chain = Reference.cmac(mac, Reference.join(new byte[16], 0x84, 0x82, level, 0, 16,
        key(x, 0, 5)));
    chain = Reference.cmac(mac, Reference.join(chain, 0x84, 1, 2, 3, 8));
    byte[] code = Reference.part(
        Reference.cmac(key(x, 0, 2), Reference.join(chain, data, 0x90, 0)), 0, 8);
    Checks.slip(x, Checks.hex(Reference.join(data, code)));
    C.due("accept " + data.length + " by " + level, x.accept(0x9000), due);
  }

  private static void acceptLong() {
    C.part("promise 17, limits");
    acceptForged(0x11, new byte[0], 1);
    acceptForged(0x11, new byte[292], 1);
    acceptForged(0x33, new byte[0], 1);
    acceptForged(0x33, new byte[15], 0);
    LineGuard y = commanded(3, 0x33, "80010203");
    byte[] iv = Reference.number(1, 16);
    iv[0] = (byte) 0x80;
    byte[] enc = key(y, 0, 0);
    iv = Reference.aes(true, enc, new byte[16], iv);
    acceptForged(0x33, Reference.aes(true, enc, iv, Reference.padded(new byte[255], 16)), 1);
    acceptForged(0x33, Reference.aes(true, enc, iv, Reference.padded(new byte[0], 16)), 0);
    acceptForged(0x33, Reference.aes(true, enc, iv, new byte[16]), 0);
    // By the older rule, with a length that does not go into a byte.
    LineGuard x = begun(2);
    x.prove(0x11);
    byte[] chain = lastCode(Checks.line(x));
    x.take();
    Checks.send(x, "80010203" + Checks.many("05", 200));
    x.take();
    byte[] data = b(Checks.many("06", 292));
    byte[] code = Reference.retail(key(x, 0, 2), chain, Reference.join(0x80, 1, 2, 3, 200,
        b(Checks.many("05", 200)), 292 & 255, data, 0x90, 0));
    Checks.slip(x, Checks.hex(Reference.join(data, code)));
    C.due("accept 292", x.accept(0x9000), 1);
    C.due("out", Checks.out(x), Checks.hex(data));
  }

  private static void seal() {
    C.part("promise 18");
    // The examples of FIPS 197.
    String plain = "00112233445566778899aabbccddeeff";
    String[] keys = {"000102030405060708090a0b0c0d0e0f",
        "000102030405060708090a0b0c0d0e0f1011121314151617",
        "000102030405060708090a0b0c0d0e0f101112131415161718191a1b1c1d1e1f"};
    String[] dues = {"69c4e0d86a7b0430d8cdb78070b4c55a", "dda97ca4864cdfe06eaf70a0ec0d7191",
        "8ea2b7ca516745bfeafc49904b496089"};
    for (int i = 0; i < 3; i++) {
      LineGuard x = keyed(3, Checks.many("01", keys[i].length()) + keys[i]);
      C.due("none", Checks.seal(x, 0, false, plain), -1);
      C.due("tape is empty", x.end(1), -1);
      x.start(1);
      C.due("there", Checks.seal(x, i & 1, false, plain), 16);
      C.due("out", Checks.out(x), dues[i]);
      C.due("back", Checks.seal(x, i & 1, true, dues[i]), 16);
      C.due("out", Checks.out(x), plain);
    }
    for (int rule = 2; rule <= 3; rule++) {
      for (int side = 0; side < 2; side++) {
        LineGuard x = open(rule, 1);
        Checks.slip(x, "01");
        byte[] key = key(x, side, 3);
        for (int size : new int[] {8, 16, 48, 392, 400}) {
          String told = Checks.many("a1b2c3d4e5f60718", size / 8);
          if (rule == 3 && size % 16 != 0) {
            C.due("no blocks", Checks.seal(x, side, false, told), -1);
            continue;
          }
          C.due("there", Checks.seal(x, side, false, told), size);
          String hidden = Checks.out(x);
          if (rule == 3) {
            C.due("out", hidden, Checks.hex(Reference.aes(true, key, new byte[16], b(told))));
          } else {
            C.due("out", hidden, Checks.many(
                Checks.hex(Reference.des3(true, key, new byte[8], b("a1b2c3d4e5f60718"))), size / 8));
          }
          C.due("back", Checks.seal(x, side, true, hidden), size);
          C.due("out", Checks.out(x), told);
        }
        String out = Checks.out(x);
        for (int size : new int[] {0, 1, 7, 9, 15, 17, 399}) {
          C.due("size " + size, Checks.seal(x, side, true, Checks.many("00", size)), -1);
          C.due("tape is empty", x.end(1), -1);
        }
        C.due("side 2", Checks.seal(x, 2, false, plain), -1);
        C.due("side -1", Checks.seal(x, -1, false, plain), -1);
        C.due("tape is empty", x.end(1), -1);
        C.due("out stays", Checks.out(x), out);
        C.due("line stays", Checks.line(x), "01");
      }
    }
  }

  private static void secret() {
    C.part("promise 19");
    for (int length = 16; length <= 32; length += 8) {
      LineGuard x = keyed(3, Checks.many("0123456789abcdef", 3 * length / 8));
      x.start(77);
      int[] sizes = {length, length, length, length, 8, 8, 8};
      secretSizes(x, sizes);
    }
    secretSizes(begun(2), new int[] {16, 16, 16, 16, 8, 8, 6});
    secretSizes(open(2, 0), new int[] {16, 16, 16, 16, 8, 8, 6});
    LineGuard x = begun(2);
    x.prove(1);
    x.alter(0, 1);
    x.take();
    C.due("none", x.secret(1, 0, 0), -1);
    C.due("open", x.secret(0, 0, 0) == -1 ? 1 : 0, 0);
  }

  private static void secretSizes(LineGuard x, int[] sizes) {
    for (int side = -1; side <= 2; side++) {
      for (int which = -1; which <= 7; which++) {
        boolean some = (side == 0 || side == 1) && which >= 0 && which < 7;
        int size = some ? sizes[which] : 0;
        C.due("secret -1", x.secret(side, which, -1), -1);
        C.due("secret of " + size, x.secret(side, which, size), -1);
        C.due("secret", x.secret(side, which, Integer.MIN_VALUE), -1);
        if (some) {
          C.due("secret " + which, x.secret(side, which, size - 1) >= 0 ? 1 : 0, 1);
        }
      }
    }
  }

  private static void about() {
    C.part("promise 20");
    LineGuard x = begun(3);
    x.prove(0x13);
    int[] caller = {2, 0x13, 3, 16, 0x010203, 20, 0};
    int[] holder = {1, 0, 3, 16, 0x010203, 20, 0};
    for (int what = 0; what < 7; what++) {
      C.due("about(0, " + what + ")", x.about(0, what), caller[what]);
      C.due("about(1, " + what + ")", x.about(1, what), holder[what]);
      C.due("about(2, " + what + ")", x.about(2, what), -1);
      C.due("about(-1, " + what + ")", x.about(-1, what), -1);
    }
    C.due("about(0, 7)", x.about(0, 7), -1);
    C.due("about(0, -1)", x.about(0, -1), -1);
    C.due("about(1, max)", x.about(1, Integer.MAX_VALUE), -1);
    x.take();
    Checks.seal(x, 0, false, Checks.many("00", 32));
    int[] then = {2, 0x13, 3, 16, 0x010204, 0, 32};
    for (int what = 0; what < 7; what++) {
      C.due("about(1, " + what + ")", x.about(1, what), then[what]);
    }
    Checks.keys(x, 1, 3, Checks.many("00", 96));
    C.due("length", x.about(1, 3), 32);
    C.due("length", x.about(0, 3), 16);
    C.due("level", x.about(0, 1), 0);
  }
}
