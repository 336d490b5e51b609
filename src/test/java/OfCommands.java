/** Promises 14 and 15: send and take. */
final class OfCommands {
  private static final Checks C = Checks.ALL;

  private OfCommands() {
  }

  static void run() {
    send();
    sendRefused();
    sendNone();
    lineTaken();
    takeProving();
    counterWraps();
    provingAltered();
    provingForged();
    takeCommand();
    takeSizes();
    takeHidden();
    takeClass();
    takeAltered();
    takeShort();
    takeTwice();
    takeOtherSessions();
    takeEmpty();
  }

  private static byte[] b(String hex) {
    return Checks.bytes(hex);
  }

  private static void send() {
    C.sentence("Promise 14",
        "THE TAPE's bytes are a COMMAND: it comes to THE LINE, SECURED: how many bytes.");
    int[][] sizes = {{4, 12, 12, 12}, {5, 13, 20, 28}, {203, 211, 212, 220}, {204, 212, 220, 220}};
    for (int[] size : sizes) {
      for (int rule = 2; rule <= 3; rule++) {
        for (int level : new int[] {1, 3, 0x11, 0x13}) {
          Guard x = Guard.opened(rule, level);
          x.slip(Checks.rising(250));
          int due = level % 16 == 1 ? size[1] : size[rule];
          C.due("send " + size[0], x.send(Checks.rising(size[0])), due);
          C.due("about", x.about(0, 5), due);
          C.due("CLA", x.line(0), 1 | 4);
          C.due("INS", x.line(1), 2);
          C.due("behind", x.line(due), Face.NONE);
          C.due("tape", x.end(1), Face.NONE);
          C.due("sessions", x.sessions(), 22);
          C.due("take", x.take(), 0x9000);
          C.due("out", x.out(), Checks.rising(size[0]));
        }
      }
    }
  }

  private static void notSent(String what, Guard x) {
    x.slip("0102");
    int sessions = x.sessions();
    C.due(what + ": send", x.send("0001020304"), Face.NONE);
    C.due(what + ": tape", x.end(1), Face.NONE);
    C.due(what + ": line stays", x.line(), "0102");
    C.due(what + ": sessions stay", x.sessions(), sessions);
  }

  private static void sendRefused() {
    C.sentence("Promise 14",
        "NONE, and nothing else, if the CALLER's SESSION is not OPEN with LEVEL bit 0,");
    notSent("new", new Guard());
    for (int rule = 2; rule <= 3; rule++) {
      notSent("keyed", Guard.keyed(rule));
      notSent("begun", Guard.begun(rule));
      notSent("level 0", Guard.opened(rule, 0));
      Guard x = Guard.begun(rule);
      x.prove(1);
      C.due("the holder is not asked", x.send("00010203"), 12);
    }
  }

  /** What was refused is no command: it has no count, no code, and no answer. */
  private static void sendNone() {
    C.sentence("Promise 14", "or it is none.");
    for (int rule = 2; rule <= 3; rule++) {
      for (int size : new int[] {0, 1, 2, 3, 205, 206, 300, 400}) {
        Guard x = Guard.opened(rule, 0x13);
        x.slip("0102");
        C.due("send " + size, x.send(Checks.rising(size)), Face.NONE);
        C.due("tape", x.end(1), Face.NONE);
        C.due("line stays", x.line(), "0102");
        C.due("sessions stay", x.sessions(), 22);
        C.due("none was sent", x.accept(0x9000), Face.NONE);
        C.due("line stays", x.line(), "0102");
        C.due("take", x.command("0001020304"), 0x9000);
        x.send(Checks.rising(size));
        x.answer("61", 0x9000);
        C.due("the answer is to the one before", x.accept(0x9000), 1);
        C.due("take", x.command("0001020305"), 0x9000);
        C.due("out", x.out(), "0001020305");
      }
    }
  }

  private static void lineTaken() {
    C.sentence("Promise 15", "The HOLDER takes what is on THE LINE (which is empty then).");
    for (int rule = 2; rule <= 3; rule++) {
      Guard x = Guard.begun(rule);
      x.tape("01");
      x.prove(1);
      C.due("take", x.take(), 0x9000);
      C.due("line", x.about(0, 5), 0);
      C.due("line(0)", x.line(0), Face.NONE);
      C.due("tape stays", x.end(1), 1);
      C.due("take again", x.take(), Face.NONE);
      x.send("00010203");
      x.tape("01");
      C.due("take", x.take(), 0x9000);
      C.due("line", x.about(0, 5), 0);
      C.due("tape stays", x.end(1), 1);
      x.slip("0102");
      C.due("take", x.take(), 0x6982);
      C.due("line", x.about(0, 5), 0);
      x.start(1);
      x.slip("0102");
      C.due("take", x.take(), 0x6300);
      C.due("line", x.about(0, 5), 0);
    }
  }

  private static void takeProving() {
    C.sentence("Promise 15", "BEGUN: 0x9000, OPEN with LEVEL P1 and the COUNTER one more "
        + "(behind 0xFFFFFF comes 0), if it is THE PROVING command (CLA 0x84) of a LEVEL by its "
        + "RULE with that MAC;");
    for (int rule = 2; rule <= 3; rule++) {
      for (int level : new int[] {0, 1, 3, 0x11, 0x13, 0x33}) {
        if (rule == 2 && level == 0x33) {
          continue;
        }
        Guard x = Guard.begun(rule);
        x.prove(level);
        C.due("take", x.take(), 0x9000);
        C.due("sessions", x.sessions(), 22);
        C.due("level", x.about(1, 1), level);
        C.due("counter", x.about(1, 4), Face.COUNTER + 1);
        C.due("nothing is written", x.about(1, 6), 0);
        C.due("keys stay", x.secret(1, 0), x.secret(0, 0));
        // Another's line, with the codes that are right, is the same to the holder.
        x = Guard.begun(rule);
        byte[] proof = x.ref.sides[1].callerProof;
        String head = "8482" + Checks.hex(new byte[] {(byte) level}) + "00";
        x.slip(Forge.command(x, head, proof, proof));
        C.due("take", x.take(), 0x9000);
        C.due("sessions", x.sessions(), 12);
        C.due("level", x.about(1, 1), level);
      }
    }
  }

  private static void counterWraps() {
    C.part("Promise 15, 'the COUNTER one more (behind 0xFFFFFF comes 0)'");
    int[][] counters = {{0, 1}, {0xFF, 0x100}, {0xFFFF, 0x10000}, {0x7FFFFF, 0x800000},
      {0xFFFFFE, 0xFFFFFF}, {0xFFFFFF, 0}};
    for (int[] one : counters) {
      for (int rule = 2; rule <= 3; rule++) {
        Guard x = Guard.begun(rule);
        x.counter(one[0]);
        x.start(1);
        x.prove(1);
        C.due("take", x.take(), 0x9000);
        C.due("counter", x.about(1, 4), one[1]);
        C.due("take", x.command("00010203"), 0x9000);
        C.due("commands count none", x.about(1, 4), one[1]);
        x.start(1);
        C.due("the next session's number", x.secret(1, 6), counted(rule, one[1]));
        x.prove(1);
        x.alter(0, 1);
        C.due("take", x.take(), 0x6300);
        C.due("a wrong one counts none", x.about(1, 4), one[1]);
      }
    }
  }

  private static String counted(int rule, int counter) {
    Guard x = Guard.begun(rule);
    x.counter(counter);
    x.start(1);
    return x.secret(1, 6);
  }

  private static void notProved(String what, Guard x) {
    int counter = x.about(1, 4);
    C.due(what, x.take(), 0x6300);
    C.due(what + ": holder", x.about(1, 0), 0);
    C.due(what + ": level", x.about(1, 1), 0);
    C.due(what + ": counter stays", x.about(1, 4), counter);
    C.due(what + ": line", x.about(1, 5), 0);
    C.due(what + ": out", x.about(1, 6), 0);
    C.due(what + ": secret", x.secret(1, 0, 0), Face.NONE);
    x.slip("01");
    C.due(what + ": take again", x.take(), Face.NONE);
  }

  private static void provingAltered() {
    C.sentence("Promise 15", "else 0x6300, and none.");
    for (int rule = 2; rule <= 3; rule++) {
      for (int i = 0; i < 20; i++) {
        for (int bit = 1; bit < 256; bit *= 2) {
          Guard x = Guard.begun(rule);
          x.prove(1);
          x.alter(i, bit);
          notProved("bit " + bit + " of byte " + i, x);
        }
        if (i > 0) {
          Guard x = Guard.begun(rule);
          x.prove(1);
          x.cut(i);
          notProved("cut to " + i, x);
        }
      }
      Guard x = Guard.begun(rule);
      x.prove(1);
      x.slip(x.line() + "00");
      notProved("a byte longer", x);
      x = Guard.begun(rule);
      x.prove(1);
      x.counter(0xFFFFFF);
      x.alter(19, 1);
      notProved("with the highest counter", x);
      x = Guard.begun(rule);
      x.prove(1);
      String before = x.line();
      x.start(2);
      x.slip(before);
      notProved("of another session", x);
      x = Guard.begun(rule);
      x.slip(Checks.many("00", 300));
      notProved("300 bytes", x);
    }
  }

  /** A right MAC makes nothing else right. */
  private static void provingForged() {
    C.part("Promise 15, other commands with that MAC");
    String[] heads = {"84820200", "84821000", "84820400", "84823200", "84828100", "84824300",
      "84820101", "84820180", "84830100", "84020100", "85820100", "86820100", "87820100",
      "80820100", "04820100", "94820100"};
    for (int rule = 2; rule <= 3; rule++) {
      for (String head : heads) {
        Guard x = Guard.begun(rule);
        byte[] proof = x.ref.sides[1].callerProof;
        x.slip(Forge.command(x, head, proof, proof));
        notProved(head, x);
      }
      byte[] proof = Guard.begun(rule).ref.sides[1].callerProof;
      byte[][] others = {Guard.begun(rule).ref.sides[1].holderProof, new byte[8], new byte[0],
        Reference.part(proof, 0, 7), Reference.join(proof, 0), Reference.join(proof, proof)};
      for (byte[] other : others) {
        Guard x = Guard.begun(rule);
        x.slip(Forge.command(x, "84820100", other, other));
        notProved("data of " + other.length, x);
      }
    }
    Guard x = Guard.begun(2);
    byte[] proof = x.ref.sides[1].callerProof;
    x.slip(Forge.command(x, "84823300", proof, proof));
    notProved("LEVEL 0x33 by RULE 2", x);
  }

  private static void takeCommand() {
    C.sentence("Promise 15", "OPEN with LEVEL bit 0: 0x9000 and the plain COMMAND (CLA with bit 2 "
        + "cleared) written, if it is as SECURED (CLA with bit 2 set; hidden data one block at "
        + "least, UNPADDED; at most 200 plain bytes);");
    for (int rule = 2; rule <= 3; rule++) {
      for (int level : new int[] {1, 3, 0x11, 0x13, 0x33}) {
        if (rule == 2 && level == 0x33) {
          continue;
        }
        Guard x = Guard.opened(rule, level);
        for (String cla : new String[] {"00", "04", "80", "84", "ff", "fb"}) {
          C.due("take", x.command(cla + "010203" + "0405"), 0x9000);
          byte[] due = b(cla + "010203" + "0405");
          due[0] &= ~4;
          C.due("out", x.out(), Checks.hex(due));
          C.due("sessions", x.sessions(), 22);
          C.due("counter", x.about(1, 4), Face.COUNTER + 1);
        }
      }
    }
  }

  /** The holder's next command has so many bytes of data, with the codes that are right. */
  private static void forged(int rule, int level, byte[] shown, byte[] plain, boolean right) {
    Guard x = Guard.opened(rule, level);
    C.due("slip", x.slip(Forge.command(x, "84010203", shown, plain)), shown.length + 12);
    C.due("take " + shown.length + " by " + rule + ", " + level, x.take(), right ? 0x9000 : 0x6982);
    C.due("holder", x.about(1, 0), right ? 2 : 0);
    C.due("out", x.out(), right ? "80010203" + Checks.hex(plain) : "");
  }

  private static void takeSizes() {
    C.part("Promise 15, 'at most 200 plain bytes'");
    for (int rule = 2; rule <= 3; rule++) {
      for (int size : new int[] {0, 1, 199, 200, 201, 202, 255, 256, 287, 288}) {
        byte[] data = b(Checks.rising(size));
        forged(rule, 1, data, data, size <= 200);
        forged(rule, 0x11, data, data, size <= 200);
        int width = rule == 2 ? 8 : 16;
        byte[] padded = Reference.padded(data, width);
        if (size > 0 && padded.length <= 288) {
          byte[] shown = Forge.hidden(Guard.opened(rule, 3), padded);
          forged(rule, 3, shown, data, size <= 200);
        }
      }
    }
  }

  private static void takeHidden() {
    C.part("Promise 15, 'hidden data one block at least, UNPADDED'");
    for (int rule = 2; rule <= 3; rule++) {
      int width = rule == 2 ? 8 : 16;
      // No data is none that could be hidden.
      forged(rule, 3, new byte[0], new byte[0], true);
      byte[] one = b(Checks.rising(1));
      byte[] shown = Forge.hidden(Guard.opened(rule, 3), Reference.padded(one, width));
      forged(rule, 3, shown, one, true);
      for (int size = 1; size < width; size++) {
        byte[] less = Reference.part(shown, 0, size);
        forged(rule, 3, less, less, false);
        forged(rule, 3, less, one, false);
        forged(rule, 3, Reference.join(shown, new byte[size]), one, false);
        forged(rule, 3, Reference.join(shown, less), one, false);
      }
      forged(rule, 3, one, one, false);
      byte[] blocks = Forge.hidden(Guard.opened(rule, 3),
          Reference.padded(b(Checks.rising(width)), width));
      forged(rule, 3, blocks, b(Checks.rising(width)), true);
    }
  }

  private static void takeClass() {
    C.part("Promise 15, 'CLA with bit 2 set'");
    for (int rule = 2; rule <= 3; rule++) {
      for (int level : new int[] {1, 3}) {
        Guard x = Guard.opened(rule, level);
        x.send("8001020304");
        C.due("alter", x.alter(0, 4), 0x80);
        C.due("take", x.take(), 0x6982);
        C.due("holder", x.about(1, 0), 0);
        // Bits 0 and 1 are in no code.
        for (int bits = 1; bits <= 3; bits++) {
          x = Guard.opened(rule, level);
          x.send("8001020304");
          x.alter(0, bits);
          C.due("take", x.take(), 0x9000);
          C.due("out", x.out(), "8" + bits + "01020304");
        }
        for (int bit = 8; bit < 256; bit *= 2) {
          x = Guard.opened(rule, level);
          x.send("8001020304");
          x.alter(0, bit);
          C.due("take", x.take(), 0x6982);
        }
      }
    }
  }

  private static void notTaken(String what, Guard x) {
    int counter = x.about(1, 4);
    String out = x.out();
    int caller = x.about(0, 0);
    C.due(what, x.take(), 0x6982);
    C.due(what + ": holder", x.about(1, 0), 0);
    C.due(what + ": level", x.about(1, 1), 0);
    C.due(what + ": caller stays", x.about(0, 0), caller);
    C.due(what + ": line", x.about(1, 5), 0);
    C.due(what + ": counter stays", x.about(1, 4), counter);
    C.due(what + ": out stays", x.out(), out);
    C.due(what + ": secret", x.secret(1, 0, 0), Face.NONE);
    C.due(what + ": answer", x.answer("", 0), Face.NONE);
    x.slip("01");
    C.due(what + ": take again", x.take(), Face.NONE);
  }

  private static Guard sent(int rule, int level) {
    Guard x = Guard.opened(rule, level);
    x.command("00aabbcc");
    x.send("0001020304050607");
    return x;
  }

  private static void takeAltered() {
    C.sentence("Promise 15", "else 0x6982, and none.");
    for (int rule = 2; rule <= 3; rule++) {
      for (int level : new int[] {1, 0x13}) {
        int length = sent(rule, level).about(0, 5);
        for (int i = 0; i < length; i++) {
          for (int bit = i == 0 ? 4 : 1; bit < 256; bit *= 2) {
            Guard x = sent(rule, level);
            x.alter(i, bit);
            notTaken("bit " + bit + " of byte " + i, x);
          }
          if (i > 0) {
            Guard x = sent(rule, level);
            x.cut(i);
            notTaken("cut to " + i, x);
          }
        }
        Guard x = sent(rule, level);
        x.slip(x.line() + "00");
        notTaken("a byte longer", x);
        x = sent(rule, level);
        x.slip(Checks.many("04", 300));
        notTaken("300 bytes", x);
        for (int size = 1; size <= 12; size++) {
          x = sent(rule, level);
          x.slip(Checks.many("04", size));
          notTaken("another's " + size + " bytes", x);
        }
      }
    }
  }

  /** Eleven bytes whose last eight are the code of their first four: a command's are twelve. */
  private static void takeShort() {
    C.part("Promise 15, a line too short for a MAC");
    for (int rule = 2; rule <= 3; rule++) {
      for (int level : new int[] {1, 3}) {
        Guard x = Guard.opened(rule, level);
        boolean found = false;
        for (int i = 0; i < 0x10000 && !found; i++) {
          byte[] head = {(byte) 0x84, 1, (byte) (i >> 8), (byte) i};
          byte[] code = Reference.codeOf(x.ref.sides[1], head, new byte[0]);
          found = code[0] == head[3];
          if (found) {
            x.slip(Checks.hex(Reference.join(Reference.part(head, 0, 3), Reference.part(code, 0, 8))));
          }
        }
        C.due("bytes", x.about(0, 5), 11);
        notTaken("11 bytes", x);
        for (int n = 1; n < 12; n++) {
          x = Guard.opened(rule, level);
          x.send("00010203");
          x.cut(n);
          notTaken("no data, cut to " + n, x);
          x = Guard.opened(rule, level);
          x.send("00010203");
          x.slip(x.line().substring(2 * n));
          notTaken("no data, without the first " + n, x);
        }
      }
    }
  }

  private static void takeTwice() {
    C.part("Promise 15, told twice, left out, or of another time");
    for (int rule = 2; rule <= 3; rule++) {
      for (int level : new int[] {1, 3, 0x11, 0x13}) {
        Guard x = sent(rule, level);
        String line = x.line();
        x.take();
        x.slip(line);
        notTaken("told twice", x);
        x = sent(rule, level);
        x.send("0001020304050607");
        notTaken("one left out", x);
        x = Guard.begun(rule);
        x.prove(level);
        line = x.line();
        x.take();
        x.slip(line);
        notTaken("the proving one again", x);
        x = sent(rule, level);
        line = x.line();
        x.start(1);
        x.prove(level);
        x.take();
        x.command("00aabbcc");
        x.slip(line);
        notTaken("of another session", x);
      }
    }
  }

  private static void notAsked(String what, Guard x) {
    int sessions = x.sessions();
    String out = x.out();
    int counter = x.about(1, 4);
    for (String line : new String[] {"01", Checks.rising(20)}) {
      x.slip(line);
      C.due(what + ": take", x.take(), Face.NONE);
      C.due(what + ": line stays", x.line(), line);
    }
    C.due(what + ": sessions stay", x.sessions(), sessions);
    C.due(what + ": out stays", x.out(), out);
    C.due(what + ": counter stays", x.about(1, 4), counter);
  }

  private static void takeOtherSessions() {
    C.sentence("Promise 15", "NONE, and THE LINE stays, with another SESSION,");
    notAsked("new", new Guard());
    for (int rule = 2; rule <= 3; rule++) {
      notAsked("keyed", Guard.keyed(rule));
      notAsked("level 0", Guard.opened(rule, 0));
      Guard x = sent(rule, 1);
      x.alter(4, 1);
      x.take();
      notAsked("ended", x);
      x = Guard.opened(rule, 0);
      x.slip("01");
      x.take();
      C.due("level 0 stays open", x.about(1, 0), 2);
    }
  }

  private static void takeEmpty() {
    C.sentence("Promise 15", "or if THE LINE is empty.");
    for (int rule = 2; rule <= 3; rule++) {
      Guard x = Guard.begun(rule);
      C.due("begun", x.take(), Face.NONE);
      C.due("sessions stay", x.sessions(), 11);
      C.due("counter stays", x.about(1, 4), Face.COUNTER);
      x.prove(0x13);
      String line = x.line();
      x.cut(0);
      C.due("left out", x.take(), Face.NONE);
      x.slip(line);
      C.due("the proving one comes late", x.take(), 0x9000);
      C.due("open", x.take(), Face.NONE);
      C.due("sessions stay", x.sessions(), 22);
      x.send("0001020304");
      line = x.line();
      x.cut(0);
      C.due("left out", x.take(), Face.NONE);
      C.due("sessions stay", x.sessions(), 22);
      C.due("took none yet", x.answer("", 0), Face.NONE);
      // What was not there has no count and no code.
      x.slip(line);
      C.due("the command comes late", x.take(), 0x9000);
      C.due("out", x.out(), "0001020304");
      C.due("then nothing", x.take(), Face.NONE);
      C.due("out stays", x.out(), "0001020304");
    }
    C.due("new", new Guard().take(), Face.NONE);
  }
}
