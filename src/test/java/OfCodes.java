/** The terms' ciphers, paddings and codes. */
final class OfCodes {
  private static final Checks C = Checks.ALL;

  private OfCodes() {
  }

  static void run() {
    ciphers();
    modes();
    des3();
    padded();
    paddedBytes();
    unpadded();
    unpaddedWrong();
    mac3();
    retail();
    retailOfCommands();
    cmacOfNames();
    cmacOfCommands();
    cmacOfKeys();
    kdf();
    kdfOfLengths();
  }

  private static byte[] b(String hex) {
    return Checks.bytes(hex);
  }

  private static int width(int rule) {
    return rule == 2 ? 8 : 16;
  }

  private static Guard sealing(String key) {
    Guard x = new Guard();
    x.key(3, Checks.many("01", key.length()) + key);
    x.start(1);
    return x;
  }

  /** The examples of FIPS 197 and SP 800-38A; one block by CBC from 0s is the cipher alone. */
  private static void ciphers() {
    C.sentence("Terms", "CIPHERS: DES, AES (FIPS 46-3, 197).");
    String rising = "000102030405060708090a0b0c0d0e0f";
    String[][] examples = {
      {rising, "00112233445566778899aabbccddeeff", "69c4e0d86a7b0430d8cdb78070b4c55a"},
      {rising + "1011121314151617", "00112233445566778899aabbccddeeff",
        "dda97ca4864cdfe06eaf70a0ec0d7191"},
      {rising + "101112131415161718191a1b1c1d1e1f", "00112233445566778899aabbccddeeff",
        "8ea2b7ca516745bfeafc49904b496089"},
      {"2b7e151628aed2a6abf7158809cf4f3c", "6bc1bee22e409f96e93d7e117393172a",
        "3ad77bb40d7a3660a89ecaf32466ef97"},
      {"8e73b0f7da0e6452c810f32b809079e562f8ead2522c6b7b", "6bc1bee22e409f96e93d7e117393172a",
        "bd334f1d6e45f25ff712a214571fa5cc"},
      {"603deb1015ca71be2b73aef0857d77811f352c073b6108d72d9810a30914dff4",
        "6bc1bee22e409f96e93d7e117393172a", "f3eed1bdb5d2a03c064b5a7e3db181f8"}};
    for (String[] example : examples) {
      Guard x = sealing(example[0]);
      C.due("there", x.seal(0, false, example[1]), 16);
      C.due("out", x.out(), example[2]);
      C.due("back", x.seal(1, true, example[2]), 16);
      C.due("out", x.out(), example[1]);
    }
  }

  private static void modes() {
    C.sentence("Terms", "CBC and ECB as SP 800-38A has them.");
    Guard x = sealing("2b7e151628aed2a6abf7158809cf4f3c");
    // F.2.1, whose first vector is taken into the first block.
    String plain = "6bc0bce12a459991e134741a7f9e1925" + "ae2d8a571e03ac9c9eb76fac45af8e51";
    String hidden = "7649abac8119b246cee98e9b12e9197d" + "5086cb9b507219ee95db113a917678b2";
    x.seal(0, false, plain);
    C.due("CBC there", x.out(), hidden);
    x.seal(0, true, hidden);
    C.due("CBC back", x.out(), plain);
    x = Guard.begun(2);
    x.seal(0, false, Checks.rising(8));
    String block = x.out();
    x.seal(0, false, Checks.many(Checks.rising(8), 3));
    C.due("ECB there", x.out(), Checks.many(block, 3));
    x.seal(0, true, Checks.many(block, 2));
    C.due("ECB back", x.out(), Checks.many(Checks.rising(8), 2));
  }

  private static void des3() {
    C.sentence("Terms", "DES3 by 16 bytes K: DES by the first eight, back by the last eight, "
        + "DES by the first eight.");
    Guard x = Guard.begun(2);
    byte[] key = x.ref.sides[0].seal;
    byte[] first = Reference.part(key, 0, 8);
    byte[] last = Reference.part(key, 8, 16);
    byte[] zero = new byte[8];
    for (String told : new String[] {Checks.rising(8), Checks.many("00", 8), Checks.many("ff", 8)}) {
      byte[] due = Reference.des(true, first, zero,
          Reference.des(false, last, zero, Reference.des(true, first, zero, b(told))));
      x.seal(0, false, told);
      C.due("there", x.out(), Checks.hex(due));
      x.seal(1, true, Checks.hex(due));
      C.due("back", x.out(), told);
    }
  }

  /** One byte less than blocks, blocks, and one more: the last two have another block. */
  private static void padded() {
    C.sentence("Terms",
        "PADDED: 0x80 comes behind, then 0s up to a multiple of the block (8, with AES 16).");
    int[][] sizes = {{1, 8, 16}, {6, 8, 16}, {7, 8, 16}, {8, 16, 16}, {9, 16, 16}, {15, 16, 16},
      {16, 24, 32}, {17, 24, 32}, {23, 24, 32}, {24, 32, 32}, {191, 192, 192}, {192, 200, 208},
      {199, 200, 208}, {200, 208, 208}};
    for (int[] size : sizes) {
      for (int rule = 2; rule <= 3; rule++) {
        Guard x = Guard.opened(rule, 3);
        String command = "80010203" + Checks.rising(size[0]);
        C.due("send " + size[0] + " by " + rule, x.send(command), 4 + size[rule - 1] + 8);
        C.due("take", x.take(), 0x9000);
        C.due("out", x.out(), command);
      }
      Guard x = Guard.commanded(3, 0x33, "80010203");
      C.due("answer " + size[0], x.answer(Checks.rising(size[0]), 0), size[2] + 8);
      C.due("accept", x.accept(0), 1);
      C.due("out", x.out(), Checks.rising(size[0]));
    }
  }

  /** The data that is shown is the padded one by the session's own key. */
  private static void paddedBytes() {
    C.part("Terms, PADDED, byte by byte");
    for (int rule = 2; rule <= 3; rule++) {
      for (int size = 1; size <= 17; size++) {
        Guard x = Guard.opened(rule, 3);
        int zeros = width(rule) - 1 - size % width(rule);
        byte[] due = Forge.hidden(x, b(Checks.rising(size) + "80" + Checks.many("00", zeros)));
        x.send("80010203" + Checks.rising(size));
        String line = x.line();
        C.due("hidden", line.substring(8, line.length() - 16), Checks.hex(due));
      }
    }
  }

  /** A command whose hidden data would be this. */
  private static void forged(int rule, String padded, String plain, boolean right) {
    Guard x = Guard.opened(rule, 3);
    byte[] shown = Forge.hidden(x, b(padded));
    x.slip(Forge.command(x, "84010203", shown, b(plain)));
    C.due("take by " + rule + " of " + padded, x.take(), right ? 0x9000 : 0x6982);
    C.due("out", x.out(), right ? "80010203" + plain : "");
    if (rule == 3) {
      Guard y = Guard.commanded(3, 0x33, "80010203");
      y.slip(Forge.answer(y, Forge.hiddenAnswer(y, b(padded)), 0x9000));
      C.due("accept of " + padded, y.accept(0x9000), right ? 1 : 0);
      C.due("out", y.out(), right ? plain : "80010203");
    }
  }

  private static void unpadded() {
    C.sentence("Terms", "UNPADDED: what is ahead of the last byte that is not 0, which must be 0x80,");
    for (int rule = 2; rule <= 3; rule++) {
      int w = width(rule);
      String block = Checks.many("00", w);
      String marked = "80" + Checks.many("00", w - 1);
      String one = "01" + "80" + Checks.many("00", w - 2);
      forged(rule, Checks.rising(w - 1) + "80", Checks.rising(w - 1), true);
      forged(rule, Checks.rising(w) + marked, Checks.rising(w), true);
      forged(rule, Checks.many("00", w - 1) + "80", Checks.many("00", w - 1), true);
      forged(rule, block + marked, block, true);
      forged(rule, "8080" + Checks.many("00", w - 2), "80", true);
      forged(rule, "018080" + Checks.many("00", w - 3), "0180", true);
      forged(rule, "01800000800000" + Checks.many("00", w - 7), "01800000", true);
      // 0s of whole blocks behind 0x80 are 0s as well.
      forged(rule, one + block, "01", true);
      forged(rule, Checks.rising(w - 1) + "80" + block, Checks.rising(w - 1), true);
      forged(rule, one + Checks.many("00", 288 - w), "01", true);
      for (String last : new String[] {"81", "7f", "40", "01", "ff", "90", "c0", "08"}) {
        forged(rule, "01" + last + Checks.many("00", w - 2), "01", false);
        forged(rule, Checks.rising(w - 1) + last, Checks.rising(w - 1), false);
        forged(rule, "0180" + last + Checks.many("00", w - 3), "0180", false);
      }
    }
  }

  private static void unpaddedWrong() {
    C.sentence("Terms", "and at least one byte (else it is wrong).");
    for (int rule = 2; rule <= 3; rule++) {
      int w = width(rule);
      forged(rule, "0080" + Checks.many("00", w - 2), "00", true);
      forged(rule, "0180" + Checks.many("00", w - 2), "01", true);
      forged(rule, "80" + Checks.many("00", w - 1), "", false);
      forged(rule, "80" + Checks.many("00", 2 * w - 1), "", false);
      forged(rule, Checks.many("00", w), "", false);
      forged(rule, Checks.many("00", 2 * w), "", false);
      forged(rule, "01" + Checks.many("00", w - 1), "", false);
    }
  }

  private static void mac3() {
    C.sentence("Terms", "MAC3(K, t): the last block of t PADDED, by DES3 in CBC from 0s.");
    Guard x = Guard.begun(2);
    // n, c and h are two blocks: so one of padding alone comes behind them.
    String told = "40a62c37fa6304f8" + "0203" + x.secret(1, 6) + "80" + Checks.many("00", 7);
    byte[] all = Reference.des3(true, b(x.secret(1, 0)), new byte[8], b(told));
    C.due("proof", x.secret(1, 4), Checks.hex(Reference.part(all, 16, 24)));
  }

  private static void retail() {
    C.sentence("Terms", "RETAIL(K, iv, t): t PADDED, by DES with K's first eight in CBC from iv; "
        + "the last block then back with K's last eight, and DES with its first eight.");
    for (int size : new int[] {0, 1, 6, 7, 8, 9, 14, 15, 16}) {
      Guard x = Guard.begun(2);
      x.name(Checks.rising(size));
      x.start(1);
      byte[] mac = x.ref.sides[1].mac;
      byte[] first = Reference.part(mac, 0, 8);
      String told = Checks.rising(size) + "80" + Checks.many("00", 7 - size % 8);
      byte[] all = Reference.des(true, first, new byte[8], b(told));
      byte[] last = Reference.part(all, all.length - 8, all.length);
      last = Reference.des(false, Reference.part(mac, 8, 16), new byte[8], last);
      last = Reference.des(true, first, new byte[8], last);
      C.due("c of " + size, x.secret(1, 6), Checks.hex(last).substring(0, 12));
    }
  }

  /** Five bytes stand ahead of the data: with 3 and with 11 they are blocks. */
  private static void retailOfCommands() {
    C.part("Terms, RETAIL of commands and answers");
    for (int size : new int[] {0, 1, 2, 3, 4, 10, 11, 12, 199, 200}) {
      Guard x = Guard.opened(2, 0x11);
      String data = Checks.rising(size);
      byte[] due = Reference.codeOf(x.ref.sides[0], b("84010203"), b(data));
      C.due("send " + size, x.send("80010203" + data), size + 12);
      for (int i = 0; i < 8; i++) {
        C.due("code", x.line(4 + size + i), due[i] & 255);
      }
      C.due("take", x.take(), 0x9000);
      C.due("answer", x.answer(data, 0x9000), size + 8);
      C.due("accept", x.accept(0x9000), 1);
    }
  }

  /** KDF has 16 bytes ahead, n is 3: a name of 13 makes blocks. */
  private static void cmacOfNames() {
    C.sentence("Terms", "CMAC(K, t): SP 800-38B with AES (16 bytes).");
    for (int size : new int[] {0, 1, 12, 13, 14, 15, 16}) {
      Guard x = Guard.begun(3);
      x.name(Checks.rising(size));
      x.start(1);
      byte[] text = Reference.join(new byte[11], 2, 0, 0, 64, 1, 1, 2, 3, b(Checks.rising(size)));
      byte[] due = Reference.part(Reference.cmac(b(Face.ENC), text), 0, 8);
      C.due("c of " + size, x.secret(1, 6), Checks.hex(due));
    }
  }

  /** 21 bytes stand ahead of a command's data, 18 beside an answer's: with 11 and 14 they are blocks. */
  private static void cmacOfCommands() {
    C.part("Terms, CMAC of commands and answers");
    for (int size : new int[] {0, 10, 11, 12, 13, 14, 15, 26, 27, 28, 30, 199, 200}) {
      Guard x = Guard.opened(3, 0x11);
      String data = Checks.rising(size);
      byte[] due = Reference.codeOf(x.ref.sides[0], b("84010203"), b(data));
      C.due("send " + size, x.send("80010203" + data), size + 12);
      for (int i = 0; i < 8; i++) {
        C.due("code", x.line(4 + size + i), due[i] & 255);
      }
      C.due("take", x.take(), 0x9000);
      due = Reference.answerCode(x.ref.sides[0], b(data), 0x1234);
      C.due("answer", x.answer(data, 0x1234), size + 8);
      for (int i = 0; i < 8; i++) {
        C.due("code", x.line(size + i), due[i] & 255);
      }
      C.due("accept", x.accept(0x1234), 1);
    }
  }

  /** What a code turns its last block by carries a bit over, or none, in each of two doublings. */
  private static void cmacOfKeys() {
    C.part("Terms, CMAC by keys of each kind");
    int[] seen = new int[4];
    for (int i = 0; i < 24; i++) {
      String key = Checks.many(Checks.hex(new byte[] {(byte) (37 * i)}), 16);
      byte[] zero = Reference.aes(true, b(key), new byte[16], new byte[16]);
      seen[(zero[0] < 0 ? 2 : 0) + (Reference.doubled(zero)[0] < 0 ? 1 : 0)]++;
      for (int size : new int[] {13, 16}) {
        Guard x = new Guard();
        x.key(3, Checks.many(key, 3));
        x.name(Checks.rising(size));
        x.start(1);
        byte[] text = Reference.join(new byte[11], 2, 0, 0, 64, 1, 0, 0, 0, b(Checks.rising(size)));
        C.due("c by " + key, x.secret(0, 6),
            Checks.hex(Reference.part(Reference.cmac(b(key), text), 0, 8)));
      }
    }
    for (int kind = 0; kind < 4; kind++) {
      C.due("keys of kind " + kind, seen[kind] > 0 ? 1 : 0, 1);
    }
  }

  private static void kdf() {
    C.sentence("Terms", "KDF(K, c, n, t): the first n bytes of CMAC(K, x1), CMAC(K, x2);");
    for (int length : new int[] {16, 24, 32}) {
      Guard x = new Guard();
      String enc = Checks.many("1f", length);
      x.key(3, enc + Checks.many("d0e1", length));
      x.start(Face.H);
      String hc = "40a62c37fa6304f8" + x.secret(1, 6);
      C.due("c", x.secret(1, 6).length(), 16);
      String bits = Checks.hex(Reference.number(8 * length, 2));
      String first = Checks.many("00", 11) + "04" + "00" + bits + "01" + hc;
      String second = Checks.many("00", 11) + "04" + "00" + bits + "02" + hc;
      String both = Checks.hex(Reference.cmac(b(enc), b(first)))
          + Checks.hex(Reference.cmac(b(enc), b(second)));
      C.due("ENC of " + length, x.secret(0, 0), both.substring(0, 2 * length));
    }
  }

  private static void kdfOfLengths() {
    C.sentence("Terms", "xi is 11 bytes 0, c, 0, 8 * n as two bytes, i, t.");
    for (int length : new int[] {16, 24, 32}) {
      Guard x = new Guard();
      String mac = Checks.many("a7", length);
      x.key(3, Checks.many("1f", length) + mac + Checks.many("00", length));
      x.start(-1);
      byte[] t = b(Checks.many("ff", 8) + x.secret(1, 6));
      String bits = length == 16 ? "0080" : length == 24 ? "00c0" : "0100";
      for (int c = 6; c <= 7; c++) {
        byte[] head = b(Checks.many("00", 11) + "0" + c + "00" + bits);
        byte[] all = Reference.join(Reference.cmac(b(mac), Reference.join(head, 1, t)),
            Reference.cmac(b(mac), Reference.join(head, 2, t)));
        C.due("key " + c, x.secret(1, c - 5), Checks.hex(Reference.part(all, 0, length)));
      }
      byte[] key = b(x.secret(1, 1));
      for (int c = 0; c <= 1; c++) {
        byte[] all = Reference.cmac(key, Reference.join(new byte[11], c, 0, 0, 64, 1, t));
        C.due("proof " + c, x.secret(0, 4 + c), Checks.hex(Reference.part(all, 0, 8)));
      }
    }
  }
}
