import java.util.HexFormat;

/** The face of LineGuard and of its second implementation, and what tests put together of it. */
interface Face {
  int NONE = -1;

  String ENC = "100102030405060708090a0b0c0d0e0f";
  String MAC = "202122232425262728292a2b2c2d2e2f";
  String SEAL = "000102030405060708090a0b0c0d0e0f";
  String KEYS = ENC + MAC + SEAL;
  String NAME = "a000000151000000";
  int COUNTER = 0x010203;
  long H = 0x40A62C37FA6304F8L;

  int feed(int a, int b, int c, int d, int e);

  int end(int n);

  int out(int i);

  int line(int i);

  int alter(int i, int x);

  int cut(int n);

  int slip();

  int keys(int side, int rule);

  int name();

  int counter(int n);

  int start(long h);

  int prove(int level);

  int send();

  int take();

  int answer(int sw);

  int accept(int sw);

  int seal(int side, boolean back);

  int secret(int side, int which, int i);

  int about(int side, int what);

  /** These bytes alone are on the tape. */
  default void tape(byte[] told) {
    end(0);
    int[] words = new int[(told.length + 19) / 20 * 5];
    for (int i = 0; i < told.length; i++) {
      words[i / 4] |= (told[i] & 255) << 24 - 8 * (i % 4);
    }
    for (int i = 0; i < words.length; i += 5) {
      feed(words[i], words[i + 1], words[i + 2], words[i + 3], words[i + 4]);
    }
    end(told.length);
  }

  default void tape(String hex) {
    tape(Checks.bytes(hex));
  }

  default int slip(String hex) {
    tape(hex);
    return slip();
  }

  default int keys(int side, int rule, String hex) {
    tape(hex);
    return keys(side, rule);
  }

  default int name(String hex) {
    tape(hex);
    return name();
  }

  default int send(String hex) {
    tape(hex);
    return send();
  }

  default int answer(String hex, int sw) {
    tape(hex);
    return answer(sw);
  }

  default int seal(int side, boolean back, String hex) {
    tape(hex);
    return seal(side, back);
  }

  default String line() {
    byte[] all = new byte[about(0, 5)];
    for (int i = 0; i < all.length; i++) {
      all[i] = (byte) line(i);
    }
    return Checks.hex(all);
  }

  default String out() {
    byte[] all = new byte[about(0, 6)];
    for (int i = 0; i < all.length; i++) {
      all[i] = (byte) out(i);
    }
    return Checks.hex(all);
  }

  default String secret(int side, int which) {
    StringBuilder all = new StringBuilder();
    int x = secret(side, which, 0);
    for (int i = 1; x != NONE; i++) {
      all.append(HexFormat.of().toHexDigits((byte) x));
      x = secret(side, which, i);
    }
    return all.toString();
  }

  /** Both sides have the keys. */
  default void key(int rule, String hex) {
    keys(0, rule, hex);
    keys(1, rule, hex);
  }

  default void begin(int rule) {
    key(rule, KEYS);
    name(NAME);
    counter(COUNTER);
    start(H);
  }

  default void open(int rule, int level) {
    begin(rule);
    prove(level);
    take();
  }

  /** Sent, and taken. */
  default int command(String hex) {
    send(hex);
    return take();
  }

  default int sessions() {
    return 10 * about(0, 0) + about(1, 0);
  }
}
