/** Promises 16 and 17: answer and accept. */
final class OfAnswers {
  private static final Checks C = Checks.ALL;
  private static final int MIN = Integer.MIN_VALUE;
  private static final int MAX = Integer.MAX_VALUE;
  private static final int[] NO_SWS = {-1, -2, 0x10000, 0x10001, 0x19000, MIN, MAX};

  private OfAnswers() {
  }

  static void run() {
    answer();
    answerSws();
    answerNoSw();
    answerRefused();
    answerTookNone();
    answerTooMany();
    acceptTakes();
    accept();
    acceptHidden();
    acceptLong();
    acceptWrong();
    acceptShort();
    acceptStays();
    acceptTwice();
    acceptRefused();
    acceptSentNone();
    acceptNoSw();
  }

  private static byte[] b(String hex) {
    return Checks.bytes(hex);
  }

  private static int highest(int rule) {
    return rule == 2 ? 0x13 : 0x33;
  }

  private static void answer() {
    C.sentence("Promise 16", "THE TAPE's bytes (at most 200) and SW (0 .. 0xFFFF) are the HOLDER's "
        + "answer to the COMMAND that it took latest:");
    C.sentence("Promise 16", "SECURED it comes to THE LINE (without SW): how many bytes.");
    int[][] sizes = {{0, 8, 8}, {1, 9, 24}, {15, 23, 24}, {16, 24, 40}, {199, 207, 216},
      {200, 208, 216}};
    for (int rule = 2; rule <= 3; rule++) {
      for (int level : new int[] {0x11, 0x13, 0x33}) {
        for (int[] size : sizes) {
          if (rule == 2 && level == 0x33) {
            continue;
          }
          Guard x = Guard.commanded(rule, level, "8001020304");
          x.slip(Checks.rising(250));
          int due = level == 0x33 ? size[2] : size[1];
          C.due("answer of " + size[0], x.answer(Checks.rising(size[0]), 0x9000), due);
          C.due("about", x.about(0, 5), due);
          C.due("behind", x.line(due), Face.NONE);
          C.due("tape", x.end(1), Face.NONE);
          C.due("nothing is written", x.out(), "8001020304");
          C.due("sessions", x.sessions(), 22);
          C.due("accept", x.accept(0x9000), 1);
          C.due("out", x.out(), Checks.rising(size[0]));
        }
      }
      Guard x = Guard.commanded(rule, 0x11, "8001020304");
      x.command("8001020305");
      x.answer("61", 0x9000);
      C.due("to the latest", x.accept(0x9000), 1);
      x.answer("62", 0x9000);
      C.due("once more", x.accept(0x9000), 1);
      C.due("out", x.out(), "62");
    }
  }

  private static void answerSws() {
    C.part("Promise 16, 'SW (0 .. 0xFFFF)'");
    for (int rule = 2; rule <= 3; rule++) {
      for (int sw : new int[] {0, 1, 0xFF, 0x100, 0x7FFF, 0x8000, 0x9000, 0xFFFE, 0xFFFF}) {
        for (int other : new int[] {sw ^ 1, sw ^ 0x100, sw ^ 0x8000}) {
          Guard x = Guard.commanded(rule, highest(rule), "8001020304");
          C.due("answer(" + sw + ")", x.answer("61", sw), rule == 2 ? 9 : 24);
          C.due("accept(" + other + ")", x.accept(other), 0);
          x = Guard.commanded(rule, highest(rule), "8001020304");
          x.answer("61", sw);
          C.due("accept(" + sw + ")", x.accept(sw), 1);
        }
      }
    }
  }

  /** What is no SW makes no answer: nothing is told, and no code goes on. */
  private static void answerNoSw() {
    C.part("Promise 16, what is no SW");
    for (int rule = 2; rule <= 3; rule++) {
      for (int sw : NO_SWS) {
        Guard x = Guard.commanded(rule, highest(rule), "8001020304");
        x.slip("0102");
        C.due("answer(" + sw + ")", x.answer("61", sw), Face.NONE);
        C.due("tape", x.end(1), Face.NONE);
        C.due("line stays", x.line(), "0102");
        C.due("sessions stay", x.sessions(), 22);
        x.answer("61", 0x9000);
        C.due("accept", x.accept(0x9000), 1);
      }
    }
  }

  private static void notAnswered(String what, Guard x, String told) {
    x.slip("0102");
    int sessions = x.sessions();
    String out = x.out();
    C.due(what + ": answer", x.answer(told, 0x9000), Face.NONE);
    C.due(what + ": tape", x.end(1), Face.NONE);
    C.due(what + ": line stays", x.line(), "0102");
    C.due(what + ": sessions stay", x.sessions(), sessions);
    C.due(what + ": out stays", x.out(), out);
  }

  private static void answerRefused() {
    C.sentence("Promise 16",
        "NONE, and nothing else, if its SESSION is not OPEN with LEVEL bit 0x10,");
    notAnswered("new", new Guard(), "61");
    for (int rule = 2; rule <= 3; rule++) {
      notAnswered("keyed", Guard.keyed(rule), "61");
      notAnswered("begun", Guard.begun(rule), "61");
      notAnswered("level 0", Guard.opened(rule, 0), "61");
      notAnswered("level 1", Guard.commanded(rule, 1, "00010203"), "61");
      notAnswered("level 3", Guard.commanded(rule, 3, "00010203"), "61");
      Guard x = Guard.begun(rule);
      x.prove(0x11);
      notAnswered("the caller alone is open", x, "61");
      x = Guard.commanded(rule, 0x11, "00010203");
      x.slip("01");
      x.take();
      notAnswered("ended", x, "61");
      x = Guard.commanded(rule, 0x11, "00010203");
      x.start(1);
      notAnswered("begun again", x, "61");
    }
  }

  private static void answerTookNone() {
    C.sentence("Promise 16", "it took none by it yet (THE PROVING one not counted),");
    for (int rule = 2; rule <= 3; rule++) {
      for (int level : new int[] {0x11, 0x13}) {
        Guard x = Guard.opened(rule, level);
        notAnswered("proved", x, "61");
        notAnswered("proved", x, "");
        x.send("00010203");
        String line = x.line();
        notAnswered("sent", x, "61");
        x.slip(line);
        C.due("take", x.take(), 0x9000);
        C.due("answer", x.answer("61", 0x9000), 9);
        C.due("accept", x.accept(0x9000), 1);
        x.start(1);
        x.prove(level);
        x.take();
        notAnswered("by another session", x, "61");
      }
    }
  }

  private static void answerTooMany() {
    C.sentence("Promise 16", "or there are too many.");
    for (int rule = 2; rule <= 3; rule++) {
      for (int size : new int[] {201, 202, 208, 220, 256, 300, 400}) {
        Guard x = Guard.commanded(rule, highest(rule), "00010203");
        notAnswered("answer of " + size, x, Checks.rising(size));
        C.due("answer of 200", x.answer(Checks.rising(200), 0x9000), rule == 2 ? 208 : 216);
        C.due("accept", x.accept(0x9000), 1);
      }
    }
  }

  private static void acceptTakes() {
    C.sentence("Promise 17", "The CALLER takes what is on THE LINE (which is empty then) as the answer, "
        + "with SW, to the command it sent latest:");
    for (int rule = 2; rule <= 3; rule++) {
      Guard x = Guard.commanded(rule, highest(rule), "8001020304");
      x.answer("61", 0x9000);
      x.tape("01");
      C.due("accept", x.accept(0x9000), 1);
      C.due("line", x.about(0, 5), 0);
      C.due("line(0)", x.line(0), Face.NONE);
      C.due("tape stays", x.end(1), 1);
      x.slip(Checks.rising(20));
      C.due("accept", x.accept(0x9000), 0);
      C.due("line", x.about(0, 5), 0);
      // To the one sent latest, taken or not.
      x.answer("61", 0x9000);
      String line = x.line();
      x.send("8001020305");
      x.slip(line);
      C.due("of the command before", x.accept(0x9000), 0);
    }
  }

  private static void accept() {
    C.sentence("Promise 17", "1 and the plain data written, if it is as SECURED "
        + "(hidden: one block at least, UNPADDED);");
    for (int rule = 2; rule <= 3; rule++) {
      for (int level : new int[] {0x11, 0x13, 0x33}) {
        if (rule == 2 && level == 0x33) {
          continue;
        }
        for (int size : new int[] {0, 1, 15, 16, 17, 200}) {
          Guard x = Guard.commanded(rule, level, "8001020304");
          x.answer(Checks.rising(size), 0x6A82);
          C.due("accept of " + size, x.accept(0x6A82), 1);
          C.due("out", x.out(), Checks.rising(size));
          C.due("how many", x.about(0, 6), size);
          C.due("sessions", x.sessions(), 22);
        }
      }
    }
  }

  private static void forged(int level, byte[] shown, String plain, boolean right) {
    Guard x = Guard.commanded(3, level, "80010203");
    x.slip(Forge.answer(x, shown, 0x9000));
    C.due("accept " + shown.length + " by " + level, x.accept(0x9000), right ? 1 : 0);
    C.due("out", x.out(), right ? plain : "80010203");
    C.due("session stays", x.about(0, 0), 2);
    C.due("line", x.about(0, 5), 0);
  }

  private static void acceptHidden() {
    C.part("Promise 17, '(hidden: one block at least, UNPADDED)'");
    forged(0x33, new byte[0], "", true);
    byte[] shown = Forge.hiddenAnswer(Guard.commanded(3, 0x33, "80010203"),
        Reference.padded(b("61"), 16));
    forged(0x33, shown, "61", true);
    forged(0x11, shown, Checks.hex(shown), true);
    for (int size = 1; size < 16; size++) {
      forged(0x33, Reference.part(shown, 0, size), "", false);
      forged(0x33, Reference.join(shown, new byte[size]), "", false);
      forged(0x11, Reference.part(shown, 0, size), Checks.hex(Reference.part(shown, 0, size)), true);
    }
  }

  /** The document has no bound for what is accepted but the line's own. */
  private static void acceptLong() {
    C.part("Promise 17, longer than an answer");
    for (int size : new int[] {200, 201, 256, 292}) {
      forged(0x11, b(Checks.rising(size)), Checks.rising(size), true);
    }
    for (int size : new int[] {200, 201, 255, 287}) {
      byte[] shown = Forge.hiddenAnswer(Guard.commanded(3, 0x33, "80010203"),
          Reference.padded(b(Checks.rising(size)), 16));
      forged(0x33, shown, Checks.rising(size), true);
    }
    for (int size : new int[] {201, 255, 256, 292}) {
      Guard x = Guard.commanded(2, 0x11, "8001020304");
      x.slip(Forge.answer(x, b(Checks.rising(size)), 0x9000));
      C.due("accept of " + size, x.accept(0x9000), 1);
      C.due("out", x.out(), Checks.rising(size));
    }
  }

  private static Guard answered(int rule) {
    Guard x = Guard.commanded(rule, highest(rule), "8001020304");
    x.answer("6162", 0x9000);
    return x;
  }

  private static void notAccepted(String what, Guard x) {
    String out = x.out();
    int sessions = x.sessions();
    C.due(what, x.accept(0x9000), 0);
    C.due(what + ": line", x.about(0, 5), 0);
    C.due(what + ": out stays", x.out(), out);
    C.due(what + ": sessions stay", x.sessions(), sessions);
    C.due(what + ": level stays", x.about(0, 1), x.about(1, 1));
  }

  private static void acceptWrong() {
    C.sentence("Promise 17", "0 if not (its SESSION stays).");
    for (int rule = 2; rule <= 3; rule++) {
      int length = answered(rule).about(0, 5);
      for (int i = 0; i < length; i++) {
        for (int bit = 1; bit < 256; bit *= 2) {
          Guard x = answered(rule);
          x.alter(i, bit);
          notAccepted("bit " + bit + " of byte " + i, x);
        }
        Guard x = answered(rule);
        x.cut(i);
        notAccepted("cut to " + i, x);
      }
      Guard x = answered(rule);
      x.slip(x.line() + "00");
      notAccepted("a byte longer", x);
      for (int size : new int[] {0, 1, 7, 8, 9, 24, 300}) {
        x = answered(rule);
        x.slip(Checks.rising(size));
        notAccepted("another's " + size + " bytes", x);
      }
      x = answered(rule);
      C.due("another SW", x.accept(0x9001), 0);
      C.due("line", x.about(0, 5), 0);
      C.due("sessions stay", x.sessions(), 22);
    }
  }

  private static void acceptShort() {
    C.part("Promise 17, a line too short for a code");
    for (int rule = 2; rule <= 3; rule++) {
      for (int n = 0; n < 8; n++) {
        Guard x = Guard.commanded(rule, highest(rule), "8001020304");
        C.due("answer", x.answer("", 0x9000), 8);
        String line = x.line();
        x.cut(n);
        notAccepted("no data, cut to " + n, x);
        x.slip(line.substring(16 - 2 * n));
        notAccepted("no data, the last " + n, x);
        x.slip(line);
        C.due("all of it", x.accept(0x9000), 1);
        C.due("out", x.about(0, 6), 0);
      }
    }
  }

  /** What was not accepted leaves codes and counts: the right one is accepted then. */
  private static void acceptStays() {
    C.part("Promise 17, '(its SESSION stays)'");
    for (int rule = 2; rule <= 3; rule++) {
      Guard x = answered(rule);
      String line = x.line();
      x.alter(0, 1);
      x.accept(0x9000);
      C.due("an empty line", x.accept(0x9000), 0);
      x.slip(line);
      C.due("another SW", x.accept(0), 0);
      x.slip(line);
      C.due("the right one", x.accept(0x9000), 1);
      C.due("out", x.out(), "6162");
      C.due("take", x.command("8001020305"), 0x9000);
      x.answer("63", 0x9000);
      C.due("accept", x.accept(0x9000), 1);
    }
  }

  /** By RULE 2 answers chain; by RULE 3 they stand by their command alone. */
  private static void acceptTwice() {
    C.part("Promise 17, answers told twice and left out");
    for (int rule = 2; rule <= 3; rule++) {
      Guard x = answered(rule);
      String line = x.line();
      C.due("accept", x.accept(0x9000), 1);
      x.slip(line);
      C.due("told twice", x.accept(0x9000), rule == 2 ? 0 : 1);
      x.answer("64", 0x9000);
      x.answer("65", 0x9000);
      C.due("one left out", x.accept(0x9000), rule == 2 ? 0 : 1);
      x = answered(rule);
      line = x.line();
      x.accept(0x9000);
      x.command("8001020304");
      x.slip(line);
      notAccepted("to the same command before", x);
      x = answered(rule);
      line = x.line();
      x.start(1);
      x.prove(highest(rule));
      x.take();
      x.command("8001020304");
      x.slip(line);
      notAccepted("of another session", x);
    }
  }

  private static void notAsked(String what, Guard x) {
    x.slip("0102030405060708");
    int sessions = x.sessions();
    String out = x.out();
    x.tape("01");
    for (int sw : new int[] {0, 0x9000, 0xFFFF}) {
      C.due(what + ": accept", x.accept(sw), Face.NONE);
    }
    C.due(what + ": line stays", x.line(), "0102030405060708");
    C.due(what + ": sessions stay", x.sessions(), sessions);
    C.due(what + ": out stays", x.out(), out);
    C.due(what + ": tape stays", x.end(1), 1);
  }

  private static void acceptRefused() {
    C.sentence("Promise 17",
        "NONE, and nothing else, if its SESSION is not OPEN with LEVEL bit 0x10,");
    notAsked("new", new Guard());
    for (int rule = 2; rule <= 3; rule++) {
      notAsked("keyed", Guard.keyed(rule));
      notAsked("begun", Guard.begun(rule));
      notAsked("level 0", Guard.opened(rule, 0));
      notAsked("level 1", Guard.commanded(rule, 1, "00010203"));
      notAsked("level 3", Guard.commanded(rule, 3, "00010203"));
      Guard x = Guard.commanded(rule, 0x11, "00010203");
      x.start(1);
      notAsked("begun again", x);
      x = Guard.commanded(rule, 0x11, "00010203");
      x.keys(0, rule, "fefe" + Face.KEYS.substring(4, 32) + "fe" + Face.KEYS.substring(34));
      x.start(1);
      notAsked("the holder alone is begun", x);
      // The holder need not be open.
      x = Guard.commanded(rule, 0x11, "00010203");
      x.answer("61", 0x9000);
      String line = x.line();
      x.slip("01");
      x.take();
      C.due("the holder has ended", x.sessions(), 20);
      x.slip(line);
      C.due("accept", x.accept(0x9000), 1);
    }
  }

  private static void acceptSentNone() {
    C.sentence("Promise 17", "it sent none by it yet (THE PROVING one not counted),");
    for (int rule = 2; rule <= 3; rule++) {
      for (int level : new int[] {0x11, 0x13}) {
        Guard x = Guard.begun(rule);
        x.prove(level);
        notAsked("proved", x);
        x = Guard.opened(rule, level);
        notAsked("open", x);
        C.due("with an empty line", x.accept(0), Face.NONE);
        x.send("00010203");
        String line = x.line();
        x.cut(0);
        C.due("sent, though not taken", x.accept(0x9000), 0);
        x.slip(line);
        C.due("take", x.take(), 0x9000);
        x.answer("61", 0x9000);
        C.due("accept", x.accept(0x9000), 1);
        x.start(1);
        x.prove(level);
        x.take();
        notAsked("by another session", x);
      }
    }
  }

  private static void acceptNoSw() {
    C.sentence("Promise 17", "or SW is none.");
    for (int rule = 2; rule <= 3; rule++) {
      for (int sw : NO_SWS) {
        Guard x = answered(rule);
        String line = x.line();
        C.due("accept(" + sw + ")", x.accept(sw), Face.NONE);
        C.due("line stays", x.line(), line);
        C.due("out stays", x.out(), "8001020304");
        C.due("sessions stay", x.sessions(), 22);
        C.due("accept", x.accept(0x9000), 1);
      }
      for (int sw : new int[] {0, 0xFFFF}) {
        Guard x = Guard.commanded(rule, highest(rule), "8001020304");
        x.answer("61", sw);
        C.due("accept(" + sw + ")", x.accept(sw), 1);
      }
    }
  }
}
