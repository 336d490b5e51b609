import java.util.ArrayList;
import java.util.List;
import java.util.Random;

/** Runs of calls, always the same ones, each answer held against the Reference. */
public final class RandomRunsTest {
  private static final int RUNS = 1500;
  private static final int CALLS = 500;
  private static final int[] LEVELS = {0, 1, 3, 0x11, 0x13, 0x33, 0x33, 0x13, 0x11, 3, 2, 0x10, 0x103};
  private static final int[] SWS = {0x9000, 0x6982, 0, 0xFFFF, -1, 0x10000};

  private final Random random;
  private final LineGuard x = new LineGuard();
  private final Reference ref = new Reference();
  private final List<String> told = new ArrayList<>();
  private final List<byte[]> lines = new ArrayList<>();
  private int calls = 0;
  private int sw = 0x9000;
  private boolean wrong = false;

  private RandomRunsTest(int seed) {
    random = new Random(seed);
  }

  public static void main(String[] args) {
    int wrongRuns = 0;
    for (int seed = 0; seed < RUNS; seed++) {
      RandomRunsTest run = new RandomRunsTest(seed);
      run.go();
      if (run.wrong) {
        wrongRuns++;
        System.out.println("seed " + seed + ": " + run.told.get(run.told.size() - 1));
      }
    }
    System.out.println(wrongRuns == 0 ? "all runs are as due" : wrongRuns + " runs are not as due");
    if (wrongRuns != 0) {
      System.exit(1);
    }
  }

  private void due(String call, int got, int want) {
    calls++;
    if (!wrong) {
      told.add(call + " answered " + got + ", due is " + want);
      wrong = got != want;
    }
  }

  private boolean chance(int percent) {
    return random.nextInt(100) < percent;
  }

  private void go() {
    int rule = 2 + random.nextInt(2);
    int length = rule == 2 || chance(50) ? 16 : 24 + 8 * random.nextInt(2);
    byte[] keys = new byte[3 * length];
    random.nextBytes(keys);
    tellKeys(0, rule, keys);
    tellKeys(1, rule, keys);
    while (calls < CALLS && !wrong) {
      if (ref.sides[0].state == 0 || chance(2)) {
        begin(rule, keys);
      } else {
        step();
      }
      look();
    }
  }

  private void tellKeys(int side, int rule, byte[] keys) {
    byte[] own = keys.clone();
    if (chance(5)) {
      own[random.nextInt(own.length)] ^= (byte) (1 << random.nextInt(8));
    }
    tape(own);
    due("keys(" + side + ", " + rule + ")", x.keys(side, rule), ref.keys(side, rule));
  }

  private void tape(byte[] bytes) {
    end(0);
    for (int i = 0; i < bytes.length; i += 20) {
      int[] w = new int[5];
      for (int j = 0; j < 20; j++) {
        int one = i + j < bytes.length ? bytes[i + j] & 255 : random.nextInt(256);
        w[j / 4] |= one << 24 - 8 * (j % 4);
      }
      due("feed", x.feed(w[0], w[1], w[2], w[3], w[4]), ref.feed(w[0], w[1], w[2], w[3], w[4]));
    }
    end(bytes.length);
  }

  private void end(int n) {
    due("end(" + n + ")", x.end(n), ref.end(n));
  }

  private byte[] some(int most) {
    byte[] bytes = new byte[chance(60) ? random.nextInt(Math.min(most, 20) + 1) : random.nextInt(most + 1)];
    if (chance(80)) {
      random.nextBytes(bytes);
    }
    return bytes;
  }

  private void begin(int rule, byte[] keys) {
    if (chance(30)) {
      tellKeys(random.nextInt(2), chance(95) ? rule : random.nextInt(5), keys);
    }
    if (chance(30)) {
      tape(some(17));
      due("name", x.name(), ref.name());
    }
    if (chance(40)) {
      int[] some = {0, 0xFFFFFF, 0xFFFF, 0x10000, -1, 0x1000000, random.nextInt(0x1000000)};
      int n = some[random.nextInt(some.length)];
      due("counter(" + n + ")", x.counter(n), ref.counter(n));
    }
    long h = random.nextLong();
    due("start(" + h + ")", x.start(h), ref.start(h));
    if (chance(90)) {
      int level = LEVELS[random.nextInt(LEVELS.length)];
      due("prove(" + level + ")", x.prove(level), ref.prove(level));
      disturb(4);
      take();
    }
  }

  private void step() {
    int way = random.nextInt(20);
    if (way < 8) {
      send();
      disturb(6);
      take();
    } else if (way < 14) {
      answer();
      disturb(25);
      accept();
    } else if (way == 14) {
      send();
    } else if (way == 15) {
      take();
    } else if (way == 16) {
      int level = LEVELS[random.nextInt(LEVELS.length)];
      due("prove(" + level + ")", x.prove(level), ref.prove(level));
    } else if (way == 17) {
      accept();
    } else {
      seal();
    }
  }

  private void send() {
    byte[] command = some(205);
    if (chance(90) && command.length < 4) {
      command = new byte[] {(byte) random.nextInt(256), 1, 2, 3};
    }
    tape(command);
    due("send", x.send(), ref.send());
    lines.add(ref.line.clone());
  }

  private void take() {
    due("take", x.take(), ref.take());
  }

  private void answer() {
    tape(some(201));
    sw = chance(80) ? random.nextInt(0x10000) : SWS[random.nextInt(SWS.length)];
    due("answer(" + sw + ")", x.answer(sw), ref.answer(sw));
    lines.add(ref.line.clone());
  }

  private void accept() {
    int told = chance(95) ? sw : SWS[random.nextInt(SWS.length)];
    due("accept(" + told + ")", x.accept(told), ref.accept(told));
  }

  private void seal() {
    byte[] bytes = some(400);
    if (chance(80)) {
      bytes = new byte[bytes.length / 16 * 16];
      random.nextBytes(bytes);
    }
    int side = chance(97) ? random.nextInt(2) : 2;
    boolean back = random.nextBoolean();
    tape(bytes);
    due("seal(" + side + ", " + back + ")", x.seal(side, back), ref.seal(side, back));
  }

  private void disturb(int percent) {
    if (!chance(percent)) {
      return;
    }
    int at = random.nextInt(ref.line.length + 2) - 1;
    int way = random.nextInt(5);
    if (way < 2) {
      int by = chance(50) ? 1 << random.nextInt(9) : random.nextInt();
      due("alter(" + at + ", " + by + ")", x.alter(at, by), ref.alter(at, by));
    } else if (way == 2) {
      due("cut(" + at + ")", x.cut(at), ref.cut(at));
    } else {
      tape(way == 3 && !lines.isEmpty() ? lines.get(random.nextInt(lines.size())) : some(320));
      due("slip", x.slip(), ref.slip());
    }
  }

  private void look() {
    int side = chance(97) ? random.nextInt(2) : random.nextInt(6) - 2;
    int what = random.nextInt(8);
    due("about(" + side + ", " + what + ")", x.about(side, what), ref.about(side, what));
    int which = random.nextInt(8);
    int i = random.nextInt(34) - 1;
    due("secret(" + side + ", " + which + ", " + i + ")", x.secret(side, which, i),
        ref.secret(side, which, i));
    for (int n = 0; n < 3; n++) {
      int j = random.nextInt(ref.line.length + 2) - 1;
      due("line(" + j + ")", x.line(j), ref.line(j));
      int k = random.nextInt(ref.out.length + 2) - 1;
      due("out(" + k + ")", x.out(k), ref.out(k));
    }
  }
}
