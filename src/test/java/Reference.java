import java.io.ByteArrayOutputStream;
import java.security.GeneralSecurityException;
import java.util.Arrays;
import javax.crypto.Cipher;
import javax.crypto.spec.IvParameterSpec;
import javax.crypto.spec.SecretKeySpec;

/** The document once more, over the Java library's own ciphers: what LineGuard is held against. */
final class Reference implements Face {
  static final class Side {
    int rule;
    byte[][] told;
    int state;
    int level;
    byte[] enc;
    byte[] mac;
    byte[] back;
    byte[] seal;
    byte[] holderProof;
    byte[] callerProof;
    byte[] c;
    /** RULE 2: the MAC before; null ahead of the proving command. */
    byte[] macBefore;
    byte[] chain;
    byte[] backChain;
    long count;
    /** Null until one was sent or taken. */
    byte[] command;
  }

  final Side[] sides = {new Side(), new Side()};
  byte[] tape = {};
  byte[] out = {};
  byte[] line = {};
  byte[] name = {};
  int counter;

  // Bytes

  static byte[] join(Object... parts) {
    ByteArrayOutputStream all = new ByteArrayOutputStream();
    for (Object part : parts) {
      if (part instanceof byte[] bytes) {
        all.writeBytes(bytes);
      } else {
        all.write(((Number) part).intValue());
      }
    }
    return all.toByteArray();
  }

  static byte[] number(long x, int count) {
    byte[] result = new byte[count];
    for (int i = 0; i < count; i++) {
      result[count - 1 - i] = i < 8 ? (byte) (x >> 8 * i) : 0;
    }
    return result;
  }

  static byte[] part(byte[] x, int from, int to) {
    return Arrays.copyOfRange(x, from, to);
  }

  static byte[] padded(byte[] x, int width) {
    return Arrays.copyOf(join(x, 0x80), (x.length / width + 1) * width);
  }

  static byte[] unpadded(byte[] x) {
    for (int i = x.length - 1; i >= 1; i--) {
      if (x[i] != 0) {
        return x[i] == (byte) 0x80 ? part(x, 0, i) : null;
      }
    }
    return null;
  }

  // Codes

  static byte[] cbc(String cipher, boolean there, byte[] key, byte[] iv, byte[] x) {
    try {
      Cipher c = Cipher.getInstance(cipher + "/CBC/NoPadding");
      c.init(there ? Cipher.ENCRYPT_MODE : Cipher.DECRYPT_MODE,
          new SecretKeySpec(key, cipher), new IvParameterSpec(iv));
      return c.doFinal(x);
    } catch (GeneralSecurityException e) {
      throw new IllegalStateException(e);
    }
  }

  static byte[] des(boolean there, byte[] key, byte[] iv, byte[] x) {
    return cbc("DES", there, key, iv, x);
  }

  static byte[] des3(boolean there, byte[] key, byte[] iv, byte[] x) {
    return cbc("DESede", there, join(key, part(key, 0, 8)), iv, x);
  }

  static byte[] aes(boolean there, byte[] key, byte[] iv, byte[] x) {
    return cbc("AES", there, key, iv, x);
  }

  static byte[] mac3(byte[] key, byte[] text) {
    byte[] all = des3(true, key, new byte[8], padded(text, 8));
    return part(all, all.length - 8, all.length);
  }

  static byte[] retail(byte[] key, byte[] iv, byte[] text) {
    byte[] high = part(key, 0, 8);
    byte[] all = des(true, high, iv, padded(text, 8));
    byte[] last = part(all, all.length - 8, all.length);
    last = des(false, part(key, 8, 16), new byte[8], last);
    return des(true, high, new byte[8], last);
  }

  static byte[] doubled(byte[] x) {
    byte[] twice = new java.math.BigInteger(1, x).shiftLeft(1).toByteArray();
    byte[] result = new byte[16];
    for (int i = 0; i < 16 && i < twice.length; i++) {
      result[15 - i] = twice[twice.length - 1 - i];
    }
    if (x[0] < 0) {
      result[15] ^= (byte) 0x87;
    }
    return result;
  }

  static byte[] cmac(byte[] key, byte[] text) {
    boolean whole = text.length > 0 && text.length % 16 == 0;
    byte[] turn = doubled(aes(true, key, new byte[16], new byte[16]));
    if (!whole) {
      turn = doubled(turn);
    }
    byte[] all = whole ? text.clone() : padded(text, 16);
    for (int i = 0; i < 16; i++) {
      all[all.length - 16 + i] ^= turn[i];
    }
    all = aes(true, key, new byte[16], all);
    return part(all, all.length - 16, all.length);
  }

  static byte[] kdf(byte[] key, int c, int n, byte[] t) {
    byte[] all = {};
    for (int i = 1; all.length < n; i++) {
      all = join(all, cmac(key, join(new byte[11], c, 0, number(8L * n, 2), i, t)));
    }
    return part(all, 0, n);
  }

  static byte[] sk(byte[] key, int c, int n) {
    return des3(true, key, new byte[8], join(number(c, 2), number(n, 2), new byte[12]));
  }

  // The session

  private byte[] challengeOfHolder() {
    Side s = sides[1];
    if (s.rule == 2) {
      return part(retail(sk(s.told[1], 0x0101, counter), new byte[8], name), 0, 6);
    }
    return kdf(s.told[0], 2, 8, join(number(counter, 3), name));
  }

  private void make(Side s, byte[] h, byte[] c) {
    s.c = c;
    byte[] hc = join(h, c);
    if (s.rule == 2) {
      s.enc = sk(s.told[0], 0x0182, counter);
      s.mac = sk(s.told[1], 0x0101, counter);
      s.back = sk(s.told[1], 0x0102, counter);
      s.seal = sk(s.told[2], 0x0181, counter);
      s.holderProof = mac3(s.enc, join(h, number(counter, 2), c));
      s.callerProof = mac3(s.enc, join(number(counter, 2), c, h));
    } else {
      int length = s.told[0].length;
      s.enc = kdf(s.told[0], 4, length, hc);
      s.mac = kdf(s.told[1], 6, length, hc);
      s.back = kdf(s.told[1], 7, length, hc);
      s.seal = s.told[2];
      s.holderProof = kdf(s.mac, 0, 8, hc);
      s.callerProof = kdf(s.mac, 1, 8, hc);
    }
    s.state = 1;
    s.level = 0;
    s.count = 0;
    s.macBefore = null;
    s.chain = new byte[16];
    s.command = null;
  }

  private static boolean isLevel(int rule, int level) {
    return Arrays.asList(0, 1, 3, 0x11, 0x13).contains(level) || rule == 3 && level == 0x33;
  }

  private static byte[] cut(byte[] command) {
    return part(command, 4, command.length);
  }

  /** The next command's MAC, by RULE 3 with the rest of the CHAIN behind it. */
  static byte[] codeOf(Side s, byte[] command, byte[] data) {
    byte[] text = join(command[0] & 0xF8 | 4, command[1], command[2], command[3], data.length + 8, data);
    if (s.rule == 2) {
      byte[] iv = s.macBefore == null ? new byte[8]
          : des(true, part(s.mac, 0, 8), new byte[8], s.macBefore);
      return retail(s.mac, iv, text);
    }
    return cmac(s.mac, join(s.chain, text));
  }

  /** The MAC of what stands on the line with its data (by RULE 3 hidden, where it is). */
  private static byte[] macOf(Side s, byte[] command, byte[] data) {
    s.macBefore = s.chain = codeOf(s, command, data);
    return part(s.chain, 0, 8);
  }

  static byte[] countIv(Side s, long count, int mark) {
    byte[] block = number(count, 16);
    block[0] = (byte) mark;
    return aes(true, s.enc, new byte[16], block);
  }

  private static byte[] joinBytes(byte[] head, byte[] data, byte[] mac) {
    return join(part(head, 0, 4), data, mac);
  }

  private static byte[] secured(Side s, byte[] command, boolean hidden) {
    byte[] head = part(command, 0, 4);
    head[0] |= 4;
    byte[] data = cut(command);
    boolean hide = hidden && data.length > 0;
    if (s.rule == 2) {
      byte[] mac = macOf(s, command, data);
      byte[] shown = hide ? des3(true, s.enc, new byte[8], padded(data, 8)) : data;
      return joinBytes(head, shown, mac);
    }
    if (hide) {
      data = aes(true, s.enc, countIv(s, s.count, 0), padded(data, 16));
    }
    return joinBytes(head, data, macOf(s, command, data));
  }

  /** The plain command, or null. */
  private static byte[] opened(Side s, byte[] line, boolean hidden) {
    if (line.length < 12 || (line[0] & 4) == 0) {
      return null;
    }
    byte[] data = part(line, 4, line.length - 8);
    byte[] mac = part(line, line.length - 8, line.length);
    byte[] plain = data;
    if (hidden && data.length > 0) {
      int width = s.rule == 2 ? 8 : 16;
      if (data.length % width != 0) {
        return null;
      }
      plain = unpadded(s.rule == 2 ? des3(false, s.enc, new byte[8], data)
          : aes(false, s.enc, countIv(s, s.count, 0), data));
    }
    if (plain == null || plain.length > 200
        || !Arrays.equals(mac, macOf(s, line, s.rule == 2 ? plain : data))) {
      return null;
    }
    byte[] command = join(part(line, 0, 4), plain);
    command[0] &= ~4;
    return command;
  }

  static byte[] answerCode(Side s, byte[] data, int sw) {
    if (s.rule == 2) {
      byte[] c = s.command;
      return retail(s.back, s.backChain, join(c[0] & 0xF8, c[1], c[2], c[3], c.length - 4,
          cut(c), data.length, data, number(sw, 2)));
    }
    return part(cmac(s.back, join(s.chain, data, number(sw, 2))), 0, 8);
  }

  private byte[] takeTape() {
    byte[] taken = tape;
    tape = new byte[0];
    return taken;
  }

  private void end() {
    sides[0].state = 0;
    sides[1].state = 0;
    line = new byte[0];
  }

  private static int at(byte[] x, int i) {
    return x != null && i >= 0 && i < x.length ? x[i] & 255 : -1;
  }

  // The face

  public int feed(int a, int b, int c, int d, int e) {
    if (tape.length > 380) {
      return -1;
    }
    tape = join(tape, number(a, 4), number(b, 4), number(c, 4), number(d, 4), number(e, 4));
    return tape.length;
  }

  public int end(int n) {
    if (n < 0 || n > tape.length) {
      return -1;
    }
    tape = part(tape, 0, n);
    return n;
  }

  public int out(int i) {
    return at(out, i);
  }

  public int line(int i) {
    return at(line, i);
  }

  public int alter(int i, int x) {
    if (i >= 0 && i < line.length) {
      line[i] ^= (byte) x;
    }
    return at(line, i);
  }

  public int cut(int n) {
    if (n < 0 || n > line.length) {
      return -1;
    }
    line = part(line, 0, n);
    return n;
  }

  public int slip() {
    byte[] told = takeTape();
    if (told.length > 300) {
      return -1;
    }
    line = told;
    return told.length;
  }

  public int keys(int side, int rule) {
    byte[] told = takeTape();
    int n = told.length / 3;
    boolean fits = told.length == 48 || rule == 3 && (told.length == 72 || told.length == 96);
    if (side != 0 && side != 1 || rule != 2 && rule != 3 || !fits) {
      return -1;
    }
    sides[side].rule = rule;
    sides[side].told =
        new byte[][] {part(told, 0, n), part(told, n, 2 * n), part(told, 2 * n, 3 * n)};
    end();
    return 1;
  }

  public int name() {
    byte[] told = takeTape();
    if (told.length > 16) {
      return -1;
    }
    name = told;
    end();
    return told.length;
  }

  public int counter(int n) {
    if (n < 0 || n > 0xFFFFFF) {
      return -1;
    }
    counter = n;
    return 1;
  }

  public int start(long h) {
    Side caller = sides[0];
    Side holder = sides[1];
    if (caller.rule == 0 || caller.rule != holder.rule
        || caller.told[0].length != holder.told[0].length) {
      return -1;
    }
    line = new byte[0];
    byte[] c = challengeOfHolder();
    make(holder, number(h, 8), c);
    make(caller, number(h, 8), c);
    caller.state = Arrays.equals(caller.holderProof, holder.holderProof) ? 1 : 0;
    return caller.state;
  }

  public int prove(int level) {
    Side s = sides[0];
    if (s.state != 1 || !isLevel(s.rule, level)) {
      return -1;
    }
    line = secured(s, join(0x84, 0x82, level, 0, s.callerProof), false);
    s.backChain = part(line, 12, 20);
    s.state = 2;
    s.level = level;
    return line.length;
  }

  public int send() {
    byte[] told = takeTape();
    Side s = sides[0];
    if (s.state != 2 || (s.level & 1) == 0 || told.length < 4 || told.length > 204) {
      return -1;
    }
    s.command = told;
    s.count++;
    line = secured(s, told, (s.level & 2) != 0);
    return line.length;
  }

  public int take() {
    Side s = sides[1];
    if (line.length == 0 || s.state == 0 || s.state == 2 && (s.level & 1) == 0) {
      return -1;
    }
    byte[] taken = line;
    line = new byte[0];
    if (s.state == 1) {
      byte[] due = taken.length < 4 ? null
          : secured(s, join(0x84, 0x82, taken[2], 0, s.callerProof), false);
      if (!Arrays.equals(taken, due) || !isLevel(s.rule, taken[2])) {
        s.state = 0;
        return 0x6300;
      }
      s.backChain = part(taken, 12, 20);
      s.state = 2;
      s.level = taken[2];
      counter = (counter + 1) % 0x1000000;
      return 0x9000;
    }
    s.count++;
    byte[] command = opened(s, taken, (s.level & 2) != 0);
    if (command == null) {
      s.state = 0;
      return 0x6982;
    }
    s.command = command;
    out = command;
    return 0x9000;
  }

  public int answer(int sw) {
    byte[] told = takeTape();
    Side s = sides[1];
    if (s.state != 2 || (s.level & 0x10) == 0 || s.command == null || told.length > 200
        || sw < 0 || sw > 0xFFFF) {
      return -1;
    }
    if ((s.level & 0x20) != 0 && told.length > 0) {
      told = aes(true, s.enc, countIv(s, s.count, 0x80), padded(told, 16));
    }
    byte[] code = answerCode(s, told, sw);
    s.backChain = code;
    line = join(told, code);
    return line.length;
  }

  public int accept(int sw) {
    Side s = sides[0];
    if (s.state != 2 || (s.level & 0x10) == 0 || s.command == null || sw < 0 || sw > 0xFFFF) {
      return -1;
    }
    byte[] taken = line;
    line = new byte[0];
    if (taken.length < 8) {
      return 0;
    }
    byte[] data = part(taken, 0, taken.length - 8);
    byte[] code = answerCode(s, data, sw);
    if (!Arrays.equals(code, part(taken, taken.length - 8, taken.length))) {
      return 0;
    }
    if ((s.level & 0x20) != 0 && data.length > 0) {
      data = data.length % 16 == 0 ? unpadded(aes(false, s.enc, countIv(s, s.count, 0x80), data)) : null;
      if (data == null) {
        return 0;
      }
    }
    s.backChain = code;
    out = data;
    return 1;
  }

  public int seal(int side, boolean back) {
    byte[] told = takeTape();
    if (side != 0 && side != 1 || sides[side].state == 0 || told.length == 0
        || told.length % (sides[side].rule == 2 ? 8 : 16) != 0) {
      return -1;
    }
    Side s = sides[side];
    if (s.rule == 3) {
      out = aes(!back, s.seal, new byte[16], told);
      return out.length;
    }
    byte[] written = {};
    for (int i = 0; i < told.length; i += 8) {
      written = join(written, des3(!back, s.seal, new byte[8], part(told, i, i + 8)));
    }
    out = written;
    return out.length;
  }

  public int secret(int side, int which, int i) {
    if (side != 0 && side != 1 || sides[side].state == 0) {
      return -1;
    }
    Side s = sides[side];
    byte[][] all = {s.enc, s.mac, s.back, s.seal, s.holderProof, s.callerProof, s.c};
    return which >= 0 && which < all.length ? at(all[which], i) : -1;
  }

  public int about(int side, int what) {
    if (side != 0 && side != 1) {
      return -1;
    }
    Side s = sides[side];
    int[] all = {s.state, s.state == 2 ? s.level : 0, s.rule, s.rule == 0 ? 0 : s.told[0].length,
        counter, line.length, out.length};
    return what >= 0 && what < all.length ? all[what] : -1;
  }
}
