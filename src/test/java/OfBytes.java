/** The terms' first sentences: bytes, numbers, THE TAPE, THE OUT and THE LINE. */
final class OfBytes {
  private static final Checks C = Checks.ALL;
  private static final String[] TAKERS = {"slip", "keys", "name", "send", "answer", "seal"};

  private OfBytes() {
  }

  static void run() {
    bytes();
    numbers();
    parts();
    tapeMost();
    tapeTakenUp();
    tapeNotTakenUp();
    outAtFirst();
    outLatest();
    lineAtFirst();
    lineReplaced();
  }

  private static void bytes() {
    C.sentence("Terms", "BYTES are 0 .. 255;");
    int[] dues = {0, 127, 128, 255};
    Guard x = new Guard();
    x.key(3, Checks.many("007f80ff", 12));
    x.start(1);
    x.prove(1);
    x.take();
    x.command("00000000" + "007f80ff");
    x.slip("007f80ff");
    for (int i = 0; i < dues.length; i++) {
      C.due("line", x.line(i), dues[i]);
      C.due("out", x.out(4 + i), dues[i]);
      C.due("secret", x.secret(0, 3, i), dues[i]);
      C.due("alter", x.alter(i, 0), dues[i]);
    }
    C.due("alter to 255", x.alter(0, 255), 255);
    C.due("alter to 0", x.alter(3, 255), 0);
  }

  private static void numbers() {
    C.sentence("Terms",
        "numbers of several bytes have the highest first; 0x tells numbers to the base 16.");
    Guard x = new Guard();
    x.feed(0x01020304, 0x80000000, 0x7fffffff, -1, 10);
    x.slip();
    C.due("ints", x.line(), "01020304" + "80000000" + "7fffffff" + "ffffffff" + "0000000a");
    long[] numbers = {0, 1, 0x0102030405060708L, Long.MAX_VALUE, Long.MIN_VALUE, -1};
    String[] bytes = {"0000000000000000", "0000000000000001", "0102030405060708",
        "7fffffffffffffff", "8000000000000000", "ffffffffffffffff"};
    for (int i = 0; i < numbers.length; i++) {
      for (int rule = 2; rule <= 3; rule++) {
        x = Guard.begun(rule);
        C.due("start", x.start(numbers[i]), 1);
        byte[] c = Checks.bytes(x.secret(1, 6));
        byte[] h = Checks.bytes(bytes[i]);
        byte[] due = rule == 2 ? Reference.mac3(x.ref.sides[1].enc, Reference.join(h, 2, 3, c))
            : Reference.kdf(x.ref.sides[1].mac, 0, 8, Reference.join(h, c));
        C.due("proof of " + bytes[i], x.secret(0, 4), Checks.hex(due));
      }
    }
  }

  private static void parts() {
    C.sentence("Terms", "\"a, b\" as bytes: a's, then b's; \"0s\" are bytes 0.");
    Guard x = Guard.begun(2);
    C.due("ENC", x.secret(0, 0), Checks.hex(Reference.des3(true, Checks.bytes(Face.ENC), new byte[8],
        Checks.bytes("0182" + "0203" + Checks.many("00", 12)))));
    x.prove(0);
    C.due("line", x.line().substring(0, 24), "84820000" + x.secret(0, 5));
  }

  private static void tapeMost() {
    C.sentence("Terms", "THE TAPE has at most 400 bytes;");
    Guard x = Guard.begun(3);
    for (int i = 1; i <= 20; i++) {
      C.due("feed", x.feed(i, i, i, i, i), 20 * i);
    }
    C.due("one more", x.feed(0, 0, 0, 0, 0), Face.NONE);
    C.due("end(401)", x.end(401), Face.NONE);
    C.due("end(400)", x.end(400), 400);
    C.due("all are there", x.seal(0, false), 400);
    StringBuilder told = new StringBuilder();
    for (int i = 1; i <= 20; i++) {
      told.append(Checks.many(Checks.hex(Reference.number(i, 4)), 5));
    }
    byte[] due = Reference.aes(true, x.ref.sides[0].seal, new byte[16], Checks.bytes(told.toString()));
    C.due("the first", x.out(0), due[0] & 255);
    C.due("the last", x.out(399), due[399] & 255);
  }

  private static int takeUp(Guard x, String taker) {
    switch (taker) {
      case "slip": return x.slip();
      case "keys": return x.keys(0, 3);
      case "name": return x.name();
      case "send": return x.send();
      case "answer": return x.answer(0x9000);
      default: return x.seal(1, false);
    }
  }

  /** 48 bytes are right for all but a name, 399 for none. */
  private static void tapeTakenUp() {
    C.sentence("Terms", "what takes it up leaves it empty, whatever it answers.");
    for (int rule = 2; rule <= 3; rule++) {
      for (String taker : TAKERS) {
        for (boolean right : new boolean[] {true, false}) {
          Guard x = Guard.commanded(rule, 0x13, "00010203");
          x.tape(Checks.many("07", right ? taker.equals("name") ? 16 : 48 : 399));
          C.due(taker, takeUp(x, taker) == Face.NONE ? 0 : 1, right ? 1 : 0);
          C.due(taker + ", then end(1)", x.end(1), Face.NONE);
          C.due(taker + ", then end(0)", x.end(0), 0);
          C.due(taker + ", then feed", x.feed(1, 2, 3, 4, 5), 20);
        }
        Guard x = new Guard();
        x.tape(Checks.many("07", 301));
        C.due(taker + " of a new object", takeUp(x, taker), Face.NONE);
        C.due(taker + ", then end(1)", x.end(1), Face.NONE);
      }
    }
    Guard x = new Guard();
    x.tape("01");
    C.due("keys of no side", x.keys(2, 3), Face.NONE);
    C.due("then end(1)", x.end(1), Face.NONE);
    x.tape("01");
    C.due("seal of no side", x.seal(2, false), Face.NONE);
    C.due("then end(1)", x.end(1), Face.NONE);
  }

  private static void tapeNotTakenUp() {
    C.part("Terms, what takes up no tape leaves it");
    Guard x = Guard.begun(3);
    x.tape("0102030405");
    x.prove(0x13);
    x.line(0);
    x.alter(0, 0);
    x.take();
    x.cut(0);
    x.accept(0);
    x.counter(1);
    x.out(0);
    x.secret(0, 0, 0);
    x.about(0, 0);
    x.start(1);
    C.due("end(6)", x.end(6), Face.NONE);
    C.due("end(5)", x.end(5), 5);
    C.due("slip", x.slip(), 5);
    C.due("line", x.line(), "0102030405");
  }

  private static void outAtFirst() {
    C.sentence("Terms", "(at first nothing); THE LINE");
    Guard x = new Guard();
    C.due("out(0)", x.out(0), Face.NONE);
    C.due("about", x.about(0, 6), 0);
    x.open(2, 0x13);
    C.due("nothing is written yet", x.about(0, 6), 0);
  }

  private static void outLatest() {
    C.sentence("Terms", "THE OUT is what was written latest");
    Guard x = Guard.opened(3, 0x33);
    x.command("8001020304050607");
    C.due("a command", x.out(), "8001020304050607");
    x.answer("61626364", 0x9000);
    C.due("an answer writes nothing", x.out(), "8001020304050607");
    x.accept(0x9000);
    C.due("a shorter answer", x.out(), "61626364");
    x.seal(0, false, Checks.many("00", 32));
    C.due("longer blocks", x.about(0, 6), 32);
    x.command("00010203");
    C.due("a command without data", x.out(), "00010203");
    x.answer("", 0x9000);
    x.accept(0x9000);
    C.due("no byte", x.out(), "");
    C.due("out(0)", x.out(0), Face.NONE);
    x.seal(0, true, Checks.many("00", 16));
    String out = x.out();
    x.slip("01");
    x.start(1);
    x.counter(1);
    x.key(2, Face.KEYS);
    x.name("01");
    C.due("it stays with other calls", x.out(), out);
  }

  private static void lineAtFirst() {
    C.sentence("Terms", "(at first nothing).");
    Guard x = new Guard();
    C.due("line(0)", x.line(0), Face.NONE);
    C.due("about", x.about(0, 5), 0);
    C.due("cut(0)", x.cut(0), 0);
    C.due("cut(1)", x.cut(1), Face.NONE);
  }

  /** What comes to the line is what lies there then, whatever lay there before. */
  private static void lineReplaced() {
    C.sentence("Terms", "THE LINE what lies between the two");
    for (int rule = 2; rule <= 3; rule++) {
      Guard x = Guard.begun(rule);
      x.slip(Checks.rising(40));
      C.due("prove", x.prove(0x11), 20);
      C.due("about", x.about(0, 5), 20);
      C.due("the proving one alone", x.take(), 0x9000);
      x.slip(Checks.rising(40));
      C.due("send", x.send("0001020304"), 13);
      C.due("about", x.about(0, 5), 13);
      C.due("the command alone", x.take(), 0x9000);
      x.slip(Checks.rising(40));
      C.due("answer", x.answer("61", 0x9000), 9);
      C.due("about", x.about(0, 5), 9);
      C.due("the answer alone", x.accept(0x9000), 1);
      x.slip(Checks.rising(40));
      x.slip("0a0b");
      C.due("slip", x.line(), "0a0b");
    }
  }
}
