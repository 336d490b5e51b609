import java.util.ArrayList;
import java.util.List;
import java.util.Random;

/** Runs of calls, always the same ones, each answer held against the Reference. */
public final class RandomRunsTest {
  private static final Checks C = Checks.ALL;
  private static final int RUNS = 1500;
  /** The longest step has some seventy calls: it ends ahead of the last that the document promises. */
  private static final int CALLS = 430;
  private static final int[] LEVELS = {0, 1, 3, 0x11, 0x13, 0x33, 0x33, 0x13, 0x11, 3, 2, 0x10, 0x103};
  private static final int[] SWS = {0x9000, 0x6982, 0, 0xFFFF, -1, 0x10000};

  private final Random random;
  private final Guard x = new Guard();
  private final Reference ref = x.ref;
  private final List<byte[]> lines = new ArrayList<>();
  private int sw = 0x9000;

  private RandomRunsTest(int seed) {
    random = new Random(seed);
  }

  public static void main(String[] args) {
    for (int seed = 0; seed < RUNS; seed++) {
      C.part("seed " + seed);
      new RandomRunsTest(seed).go();
    }
    C.end();
  }

  private boolean chance(int percent) {
    return random.nextInt(100) < percent;
  }

  private void go() {
    int rule = 2 + random.nextInt(2);
    int length = rule == 2 || chance(50) ? 16 : 24 + 8 * random.nextInt(2);
    byte[] keys = new byte[3 * length];
    random.nextBytes(keys);
    tellKeys(0, rule, keys);
    tellKeys(1, rule, keys);
    int faults = C.faults();
    while (x.calls() < CALLS && C.faults() == faults) {
      if (ref.sides[0].state == 0 || chance(2)) {
        begin(rule, keys);
      } else {
        step();
      }
      look();
    }
  }

  private void tellKeys(int side, int rule, byte[] keys) {
    byte[] own = keys.clone();
    if (chance(5)) {
      own[random.nextInt(own.length)] ^= (byte) (1 << random.nextInt(8));
    }
    tape(own);
    x.keys(side, rule);
  }

  private void tape(byte[] bytes) {
    x.end(0);
    for (int i = 0; i < bytes.length; i += 20) {
      int[] w = new int[5];
      for (int j = 0; j < 20; j++) {
        int one = i + j < bytes.length ? bytes[i + j] & 255 : random.nextInt(256);
        w[j / 4] |= one << 24 - 8 * (j % 4);
      }
      x.feed(w[0], w[1], w[2], w[3], w[4]);
    }
    x.end(bytes.length);
  }

  private byte[] some(int most) {
    byte[] bytes = new byte[chance(60) ? random.nextInt(Math.min(most, 20) + 1) : random.nextInt(most + 1)];
    if (chance(80)) {
      random.nextBytes(bytes);
    }
    return bytes;
  }

  private void begin(int rule, byte[] keys) {
    if (chance(30)) {
      tellKeys(random.nextInt(2), chance(95) ? rule : random.nextInt(5), keys);
    }
    if (chance(30)) {
      tape(some(17));
      x.name();
    }
    if (chance(40)) {
      int[] some = {0, 0xFFFFFF, 0xFFFF, 0x10000, -1, 0x1000000, random.nextInt(0x1000000)};
      x.counter(some[random.nextInt(some.length)]);
    }
    x.start(random.nextLong());
    if (chance(90)) {
      x.prove(level());
      disturb(4);
      x.take();
    }
  }

  private void step() {
    int way = random.nextInt(24);
    if (way < 8) {
      send();
      disturb(6);
      x.take();
    } else if (way < 14) {
      answer();
      disturb(25);
      accept();
    } else if (way == 14) {
      send();
    } else if (way == 15) {
      x.take();
    } else if (way == 16) {
      x.prove(level());
    } else if (way == 17) {
      accept();
    } else if (way < 20) {
      seal();
    } else {
      wild();
    }
  }

  private void send() {
    byte[] command = some(205);
    if (chance(90) && command.length < 4) {
      command = new byte[] {(byte) random.nextInt(256), 1, 2, 3};
    }
    tape(command);
    x.send();
    lines.add(ref.line.clone());
  }

  private void answer() {
    tape(some(201));
    sw = chance(80) ? random.nextInt(0x10000) : SWS[random.nextInt(SWS.length)];
    x.answer(sw);
    lines.add(ref.line.clone());
  }

  private void accept() {
    x.accept(chance(95) ? sw : SWS[random.nextInt(SWS.length)]);
  }

  private void seal() {
    byte[] bytes = some(400);
    if (chance(80)) {
      bytes = new byte[bytes.length / 16 * 16];
      random.nextBytes(bytes);
    }
    tape(bytes);
    x.seal(side(), random.nextBoolean());
  }

  private void disturb(int percent) {
    if (!chance(percent)) {
      return;
    }
    int at = random.nextInt(ref.line.length + 2) - 1;
    int way = random.nextInt(5);
    if (way < 2) {
      x.alter(at, chance(50) ? 1 << random.nextInt(9) : random.nextInt());
    } else if (way == 2) {
      x.cut(at);
    } else {
      tape(way == 3 && !lines.isEmpty() ? lines.get(random.nextInt(lines.size())) : some(320));
      x.slip();
    }
  }

  private void look() {
    x.about(side(), random.nextInt(8));
    x.secret(side(), random.nextInt(8), random.nextInt(34) - 1);
    for (int n = 0; n < 3; n++) {
      x.line(random.nextInt(ref.line.length + 2) - 1);
      x.out(random.nextInt(ref.out.length + 2) - 1);
    }
  }

  private int side() {
    return chance(97) ? random.nextInt(2) : random.nextInt(6) - 2;
  }

  private int level() {
    return LEVELS[random.nextInt(LEVELS.length)];
  }

  /** Any call at any time, with what lies on the tape by chance. */
  private void wild() {
    int n = random.nextInt(8) - 1;
    switch (random.nextInt(16)) {
      case 0: x.feed(n, random.nextInt(), random.nextInt(), random.nextInt(), n); break;
      case 1: x.end(chance(50) ? n : 48); break;
      case 2: x.alter(n, n); break;
      case 3: x.cut(n); break;
      case 4: x.slip(); break;
      case 5: x.keys(side(), n); break;
      case 6: x.name(); break;
      case 7: x.counter(chance(50) ? n : 0x1000000 + n - 3); break;
      case 8: x.start(n); break;
      case 9: x.prove(level()); break;
      case 10: x.send(); break;
      case 11: x.take(); break;
      case 12: x.answer(chance(70) ? sw : n); break;
      case 13: x.accept(chance(70) ? sw : n); break;
      case 14: x.seal(side(), n > 2); break;
      default: x.about(n, n); break;
    }
  }
}
