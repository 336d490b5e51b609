import java.util.HexFormat;

/** What the tests share: due answers counted, and bytes told as digits to the base 16. */
final class Checks {
  private int wrong = 0;
  private String part = "";

  void part(String name) {
    part = name;
  }

  void due(String call, long got, long want) {
    if (got != want) {
      wrong++;
      System.out.println(part + ": " + call + " answered " + got + ", due is " + want);
    }
  }

  void due(String call, String got, String want) {
    if (!got.equals(want)) {
      wrong++;
      System.out.println(part + ": " + call + " answered " + got + ", due is " + want);
    }
  }

  void end() {
    System.out.println(wrong == 0 ? "all answers are as due" : wrong + " answers are not as due");
    if (wrong != 0) {
      System.exit(1);
    }
  }

  static byte[] bytes(String hex) {
    return HexFormat.of().parseHex(hex.replace(" ", ""));
  }

  static String hex(byte[] bytes) {
    return HexFormat.of().formatHex(bytes);
  }

  static String many(String hex, int times) {
    return hex.repeat(times);
  }

  /** The bytes come behind those on the tape. */
  static void tell(LineGuard x, int already, byte[] told) {
    int[] words = new int[(told.length + 19) / 20 * 5];
    for (int i = 0; i < told.length; i++) {
      words[i / 4] |= (told[i] & 255) << 24 - 8 * (i % 4);
    }
    for (int i = 0; i < words.length; i += 5) {
      x.feed(words[i], words[i + 1], words[i + 2], words[i + 3], words[i + 4]);
    }
    x.end(already + told.length);
  }

  static void tape(LineGuard x, String hex) {
    x.end(0);
    tell(x, 0, bytes(hex));
  }

  static String line(LineGuard x) {
    byte[] all = new byte[x.about(0, 5)];
    for (int i = 0; i < all.length; i++) {
      all[i] = (byte) x.line(i);
    }
    return hex(all);
  }

  static String out(LineGuard x) {
    byte[] all = new byte[x.about(0, 6)];
    for (int i = 0; i < all.length; i++) {
      all[i] = (byte) x.out(i);
    }
    return hex(all);
  }

  static String secret(LineGuard x, int side, int which) {
    StringBuilder all = new StringBuilder();
    for (int i = 0; x.secret(side, which, i) != -1; i++) {
      all.append(HexFormat.of().toHexDigits((byte) x.secret(side, which, i)));
    }
    return all.toString();
  }

  static int slip(LineGuard x, String hex) {
    tape(x, hex);
    return x.slip();
  }

  static int keys(LineGuard x, int side, int rule, String hex) {
    tape(x, hex);
    return x.keys(side, rule);
  }

  static int name(LineGuard x, String hex) {
    tape(x, hex);
    return x.name();
  }

  static int send(LineGuard x, String hex) {
    tape(x, hex);
    return x.send();
  }

  static int answer(LineGuard x, String hex, int sw) {
    tape(x, hex);
    return x.answer(sw);
  }

  static int seal(LineGuard x, int side, boolean back, String hex) {
    tape(x, hex);
    return x.seal(side, back);
  }
}
