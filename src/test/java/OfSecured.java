/** The terms' COMMANDS and answers, SECURED. */
final class OfSecured {
  private static final Checks C = Checks.ALL;

  private OfSecured() {
  }

  static void run() {
    sizes();
    proving();
    classes();
    olderMac();
    olderHidden();
    newerCount();
    newerHidden();
    newerChain();
    macBehind();
    provingShown();
    lengths();
    answersOlder();
    answersOlderFirst();
    answersNewer();
    answersHidden();
  }

  private static byte[] b(String hex) {
    return Checks.bytes(hex);
  }

  private static String code(byte[] bytes) {
    return Checks.hex(Reference.part(bytes, 0, 8));
  }

  private static String last(String line) {
    return line.substring(line.length() - 16);
  }

  private static void sizes() {
    C.sentence("Terms", "A COMMAND is CLA, INS, P1, P2 (a byte each), data (0 to 200 bytes).");
    int[] sizes = {0, 1, 3, 4, 5, 203, 204, 205, 400};
    for (int size : sizes) {
      Guard x = Guard.opened(3, 1);
      boolean right = size >= 4 && size <= 204;
      C.due("send " + size, x.send(Checks.rising(size)), right ? size + 8 : Face.NONE);
      C.due("take", x.take(), right ? 0x9000 : Face.NONE);
      C.due("out", x.about(0, 6), right ? size : 0);
      C.due("out(3)", x.out(3), right ? 4 : Face.NONE);
    }
  }

  private static void proving() {
    C.sentence("Terms", "THE PROVING one: 0x84, 0x82, the LEVEL, 0, the CALLER'S PROOF.");
    for (int rule = 2; rule <= 3; rule++) {
      for (int level : new int[] {0, 1, 3, 0x11, 0x13}) {
        Guard x = Guard.begun(rule);
        x.prove(level);
        String proof = x.secret(0, 5);
        String head = "8482" + Checks.hex(new byte[] {(byte) level}) + "00";
        byte[] text = b(head + "10" + proof);
        String due = rule == 2
            ? code(Reference.retail(x.ref.sides[0].mac, new byte[8], text))
            : code(Reference.cmac(x.ref.sides[0].mac, Reference.join(new byte[16], text)));
        C.due("line", x.line(), head + proof + due);
      }
    }
  }

  private static void classes() {
    C.sentence("Terms", "SECURED is a command (CLA with bits 0, 1 cleared, bit 2 set; "
        + "on THE LINE only bit 2 is set):");
    for (int rule = 2; rule <= 3; rule++) {
      String first = "";
      for (int cla = 0; cla < 256; cla++) {
        Guard x = Guard.opened(rule, 1);
        x.send(Checks.hex(new byte[] {(byte) cla}) + "010203");
        C.due("CLA " + cla + " on the line", x.line(0), cla | 4);
        String code = last(x.line());
        if (cla % 8 == 0) {
          C.unlike("code of CLA " + cla, code, first);
          first = code;
        }
        C.due("code of CLA " + cla, code, first);
        C.due("take", x.take(), 0x9000);
        C.due("CLA " + cla + " plain", x.out(0), cla & ~4);
      }
    }
  }

  private static void olderMac() {
    C.sentence("Terms", "by RULE 2: its MAC is RETAIL(MAC, iv, (CLA, INS, P1, P2, "
        + "length of data + 8, data)), iv being 0s for THE PROVING one, "
        + "else the MAC before it by DES with MAC's first eight;");
    for (int level : new int[] {1, 3}) {
      Guard x = Guard.begun(2);
      x.prove(level);
      byte[] mac = x.ref.sides[0].mac;
      byte[] first = Reference.part(mac, 0, 8);
      String before = last(x.line());
      for (int size : new int[] {0, 1, 8, 0}) {
        byte[] iv = Reference.des(true, first, new byte[8], b(before));
        String data = Checks.rising(size);
        String length = Checks.hex(new byte[] {(byte) (size + 8)});
        before = Checks.hex(Reference.retail(mac, iv, b("84010203" + length + data)));
        x.send("80010203" + data);
        C.due("MAC of " + size, last(x.line()), before);
      }
    }
    // Another h gives the same keys by RULE 2: so the MAC before it is what makes the next unlike.
    Guard x = Guard.opened(2, 1);
    x.send("80010203");
    String line = x.line();
    Guard y = Guard.opened(2, 1);
    y.command("80010204");
    y.send("80010203");
    C.unlike("the second", y.line(), line);
  }

  private static void olderHidden() {
    C.sentence("Terms", "then, with LEVEL bit 2, data that there is becomes data PADDED by DES3 "
        + "with ENC in CBC from 0s.");
    for (int level : new int[] {1, 3, 0x11, 0x13}) {
      boolean hidden = level % 16 == 3;
      Guard x = Guard.opened(2, level);
      C.due("no data is not hidden", x.send("00010203"), 12);
      x.take();
      String due = hidden ? Checks.hex(
          Reference.des3(true, x.ref.sides[0].enc, new byte[8], b("0980000000000000"))) : "09";
      for (int i = 0; i < 2; i++) {
        x.send("0001020309");
        C.due("from 0s each time", x.line().substring(8, 8 + due.length()), due);
        C.due("take", x.take(), 0x9000);
        C.due("out", x.out(), "0001020309");
      }
    }
  }

  /** A command's data, hidden as the count-th behind THE PROVING one. */
  private static String hiddenAt(Guard x, int count, int mark, String padded) {
    byte[] enc = x.ref.sides[0].enc;
    byte[] block = Reference.number(count, 16);
    block[0] = (byte) mark;
    byte[] iv = Reference.aes(true, enc, new byte[16], block);
    return Checks.hex(Reference.aes(true, enc, iv, b(padded)));
  }

  private static void newerCount() {
    C.sentence("Terms",
        "By RULE 3: a COUNT (1 for the first behind THE PROVING one, then one more each);");
    Guard x = Guard.opened(3, 3);
    String padded = "0980" + Checks.many("00", 14);
    for (int count = 1; count <= 6; count++) {
      if (count % 3 == 0) {
        // It has no data to hide, and is counted.
        C.due("take", x.command("00010203"), 0x9000);
        continue;
      }
      C.due("a refused one is not counted", x.send("000102"), Face.NONE);
      x.send("0001020309");
      C.due("hidden at " + count, x.line().substring(8, 40), hiddenAt(x, count, 0, padded));
      C.due("take", x.take(), 0x9000);
      C.due("out", x.out(), "0001020309");
    }
    x.start(Face.H);
    x.prove(3);
    x.take();
    x.send("0001020309");
    C.due("another session's is 1", x.line().substring(8, 40), hiddenAt(x, 1, 0, padded));
  }

  private static void newerHidden() {
    C.sentence("Terms", "with bit 2, data that there is becomes data PADDED by AES with ENC in CBC "
        + "from AES of COUNT (16 bytes) with ENC;");
    for (int length = 16; length <= 32; length += 8) {
      for (int level : new int[] {1, 3, 0x11, 0x13, 0x33}) {
        Guard x = new Guard();
        x.key(3, Checks.rising(3 * length));
        x.start(Face.H);
        x.prove(level);
        x.take();
        String due = level % 16 == 3 ? hiddenAt(x, 1, 0, "0980" + Checks.many("00", 14)) : "09";
        x.send("0001020309");
        C.due("data", x.line().substring(8, 8 + due.length()), due);
        C.due("take", x.take(), 0x9000);
        C.due("no data is not hidden", x.send("00010203"), 12);
      }
    }
  }

  private static void newerChain() {
    C.sentence("Terms", "then CHAIN (16 0s ahead of THE PROVING one) becomes CMAC(MAC, (CHAIN, CLA, "
        + "INS, P1, P2, length of data + 8, data)), and its first 8 bytes are the MAC.");
    for (int level : new int[] {1, 3}) {
      Guard x = Guard.begun(3);
      x.prove(level);
      byte[] mac = x.ref.sides[0].mac;
      byte[] chain = Reference.cmac(mac, Reference.join(new byte[16], 0x84, 0x82, level, 0, 16,
          x.ref.sides[0].callerProof));
      C.due("MAC of the proving one", last(x.line()), code(chain));
      int count = 0;
      for (int size : new int[] {0, 1, 15, 0}) {
        count++;
        String data = Checks.rising(size);
        if (level == 3 && size > 0) {
          data = hiddenAt(x, count, 0, data + "80" + Checks.many("00", 15 - size));
        }
        chain = Reference.cmac(mac,
            Reference.join(chain, 0x84, 1, 2, 3, data.length() / 2 + 8, b(data)));
        x.send("80010203" + Checks.rising(size));
        C.due("line of " + size, x.line(), "84010203" + data + code(chain));
      }
    }
  }

  private static void macBehind() {
    C.sentence("Terms", "The MAC comes behind the data.");
    for (int rule = 2; rule <= 3; rule++) {
      for (int size : new int[] {0, 1, 200}) {
        Guard x = Guard.opened(rule, 1);
        String data = Checks.rising(size);
        String due = code(Reference.codeOf(x.ref.sides[0], b("84010203"), b(data)));
        x.send("80010203" + data);
        C.due("line", x.line(), "84010203" + data + due);
      }
    }
  }

  private static void provingShown() {
    C.sentence("Terms", "(THE PROVING one is not hidden.)");
    for (int rule = 2; rule <= 3; rule++) {
      for (int level : new int[] {3, 0x13}) {
        Guard x = Guard.begun(rule);
        C.due("prove", x.prove(level), 20);
        C.due("its data", x.line().substring(8, 24), x.secret(0, 5));
      }
    }
  }

  /** Of 247 bytes and 8 it is 255, of 248 and 8 it is 0. */
  private static void lengths() {
    C.sentence("Terms", "Lengths are single bytes (their lowest eight bits).");
    String one = "0180" + Checks.many("00", 14);
    for (int size : new int[] {16, 240, 256, 272, 288}) {
      Guard x = Guard.opened(3, 3);
      byte[] shown = Forge.hidden(x, b(one + Checks.many("00", size - 16)));
      byte[] text = Reference.join(x.ref.sides[1].chain, 0x84, 1, 2, 3, size + 8 & 255, shown);
      x.slip("84010203" + Checks.hex(shown) + code(Reference.cmac(x.ref.sides[1].mac, text)));
      C.due("take of " + size, x.take(), 0x9000);
      C.due("out", x.out(), "8001020301");
    }
    for (int size : new int[] {255, 256, 257, 292}) {
      Guard x = Guard.commanded(2, 0x11, "80010203" + Checks.rising(200));
      Reference.Side s = x.ref.sides[0];
      byte[] data = b(Checks.rising(size));
      byte[] text = Reference.join(0x80, 1, 2, 3, 200, b(Checks.rising(200)), size & 255, data,
          0x90, 0);
      x.slip(Checks.hex(data) + Checks.hex(Reference.retail(s.back, s.backChain, text)));
      C.due("accept of " + size, x.accept(0x9000), 1);
      C.due("out", x.about(0, 6), size);
    }
  }

  private static void answersOlder() {
    C.sentence("Terms", "SECURED is an answer (LEVEL bit 0x10), data and a number SW of two bytes, "
        + "to a command: by RULE 2:");
    C.sentence("Terms", "becomes RETAIL(BACK, BACKCHAIN, (CLA with bits 0 to 2 cleared, INS, P1, P2, "
        + "length of plain data, plain data, length of the answer's data, that, SW)): "
        + "it comes behind.");
    for (int level : new int[] {0x11, 0x13}) {
      for (int cla : new int[] {0x80, 0x84, 0x87, 0xFF}) {
        Guard x = Guard.opened(2, level);
        String plain = Checks.hex(new byte[] {(byte) cla}) + "010203";
        x.command(plain + "0a0b");
        byte[] chain = x.ref.sides[1].backChain;
        int[] sws = {0x9000, 0, 0xFFFF};
        String[] answers = {"61", "", Checks.rising(8)};
        for (int i = 0; i < 3; i++) {
          byte[] data = b(answers[i]);
          chain = Reference.retail(x.ref.sides[1].back, chain, Reference.join(cla & 0xF8, 1, 2, 3,
              2, 0x0a, 0x0b, data.length, data, sws[i] >> 8, sws[i]));
          x.answer(answers[i], sws[i]);
          C.due("answer " + i, x.line(), answers[i] + Checks.hex(chain));
          C.due("accept", x.accept(sws[i]), 1);
        }
      }
    }
  }

  private static void answersOlderFirst() {
    C.sentence("Terms", "BACKCHAIN (THE PROVING one's MAC at first)");
    for (String command : new String[] {"80010203", "8001020304"}) {
      Guard x = Guard.begun(2);
      x.prove(0x11);
      byte[] first = b(last(x.line()));
      x.take();
      x.command("80aabbcc");
      x.command(command);
      byte[] text = Reference.join(0x80, 1, 2, 3, command.length() / 2 - 4,
          b(command.substring(8)), 0, 0x90, 0);
      x.answer("", 0x9000);
      C.due("answer", x.line(), Checks.hex(Reference.retail(x.ref.sides[1].back, first, text)));
      C.due("accept", x.accept(0x9000), 1);
    }
  }

  private static void answersNewer() {
    C.sentence("Terms", "then the first 8 bytes of CMAC(BACK, (CHAIN, data, SW)) come behind it.");
    for (int sw : new int[] {0, 0x1234, 0x9000, 0xFFFF}) {
      for (String data : new String[] {"", "61", Checks.rising(14), Checks.rising(200)}) {
        Guard x = Guard.commanded(3, 0x13, "8001020304");
        byte[] text = Reference.join(x.ref.sides[1].chain, b(data), sw >> 8, sw);
        String due = data + code(Reference.cmac(x.ref.sides[1].back, text));
        C.due("answer", x.answer(data, sw), due.length() / 2);
        C.due("line", x.line(), due);
        C.due("accept", x.accept(sw), 1);
      }
    }
  }

  private static void answersHidden() {
    C.sentence("Terms", "By RULE 3: with bit 0x20, data that there is becomes data PADDED by AES "
        + "with ENC in CBC from AES with ENC of COUNT (16 bytes, the first one 0x80 more);");
    Guard x = Guard.opened(3, 0x33);
    for (int count = 1; count <= 3; count++) {
      x.command("8001020304");
      x.answer("61", 0x9000);
      C.due("hidden at " + count, x.line().substring(0, 32),
          hiddenAt(x, count, 0x80, "6180" + Checks.many("00", 14)));
      C.due("accept", x.accept(0x9000), 1);
      C.due("out", x.out(), "61");
      C.due("no data is not hidden", x.answer("", 0x9000), 8);
      C.due("accept", x.accept(0x9000), 1);
      C.due("out", x.out(), "");
    }
    x = Guard.commanded(3, 0x13, "8001020304");
    x.answer("61", 0x9000);
    C.due("without the bit", x.line(0), 0x61);
  }
}
