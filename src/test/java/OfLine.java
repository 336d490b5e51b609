/** Promises 5 to 8: THE LINE. */
final class OfLine {
  private static final Checks C = Checks.ALL;
  private static final int MIN = Integer.MIN_VALUE;
  private static final int MAX = Integer.MAX_VALUE;

  private OfLine() {
  }

  static void run() {
    line();
    lineRefused();
    alter();
    alterRefused();
    cut();
    cutRefused();
    slip();
    slipRefused();
  }

  private static Guard slipped(int size) {
    Guard x = new Guard();
    x.slip(Checks.rising(size));
    return x;
  }

  private static void line() {
    C.sentence("Promise 5", "Byte i of THE LINE;");
    Guard x = slipped(300);
    for (int i = 0; i < 300; i++) {
      C.due("line(" + i + ")", x.line(i), i + 1 & 255);
    }
  }

  private static void lineRefused() {
    C.sentence("Promise 5", "NONE if there is none such.");
    for (int size : new int[] {0, 1, 20, 299, 300}) {
      Guard x = slipped(size);
      for (int i : new int[] {size, size + 1, 300, MAX, -1, MIN}) {
        C.due("line(" + i + ") of " + size, x.line(i), Face.NONE);
      }
      C.due("the last", x.line(size - 1), size == 0 ? Face.NONE : size & 255);
    }
  }

  private static void alter() {
    C.sentence("Promise 6",
        "Byte i of THE LINE becomes itself xor x's lowest eight bits: what it is then;");
    int[][] cases = {{0x80, 1, 0x81}, {0x80, 0x80, 0}, {0, 0xff, 0xff}, {0xff, 0xff, 0},
      {0x55, 0, 0x55}, {0x55, 0x100, 0x55}, {0x55, 0x1ff, 0xaa}, {0x55, -1, 0xaa},
      {0x55, -256, 0x55}, {0x55, MIN, 0x55}, {0x55, MAX, 0xaa}, {0, 0x12345678, 0x78}};
    for (int[] one : cases) {
      for (int at : new int[] {0, 1, 299}) {
        Guard x = new Guard();
        String byteHex = Checks.hex(new byte[] {(byte) one[0]});
        x.slip(Checks.many("33", at) + byteHex + Checks.many("33", 299 - at));
        C.due("alter(" + at + ", " + one[1] + ")", x.alter(at, one[1]), one[2]);
        C.due("line", x.line(at), one[2]);
        C.due("the one ahead", x.line(at - 1), at == 0 ? Face.NONE : 0x33);
        C.due("the one behind", x.line(at + 1), at == 299 ? Face.NONE : 0x33);
        C.due("how many", x.about(0, 5), 300);
        C.due("twice is as before", x.alter(at, one[1]), one[0]);
      }
    }
  }

  private static void alterRefused() {
    C.sentence("Promise 6", "NONE if there is none such.");
    for (int size : new int[] {0, 1, 20, 300}) {
      Guard x = slipped(size);
      for (int i : new int[] {size, size + 1, 300, MAX, -1, MIN}) {
        C.due("alter(" + i + ") of " + size, x.alter(i, 1), Face.NONE);
      }
      C.due("line stays", x.line(), Checks.rising(size));
    }
    Guard x = slipped(20);
    x.cut(10);
    C.due("what was cut is none", x.alter(10, 1), Face.NONE);
    C.due("the last", x.alter(9, 1), 11);
  }

  private static void cut() {
    C.sentence("Promise 7", "THE LINE has its first n bytes alone: n;");
    for (int size : new int[] {0, 1, 20, 300}) {
      for (int n : new int[] {size, size - 1, size / 2, 0}) {
        if (n < 0) {
          continue;
        }
        Guard x = slipped(size);
        C.due("cut(" + n + ") of " + size, x.cut(n), n);
        C.due("line", x.line(), Checks.rising(n));
        C.due("line(" + n + ")", x.line(n), Face.NONE);
        C.due("again", x.cut(n), n);
        C.due("one more", x.cut(n + 1), Face.NONE);
      }
    }
    Guard x = Guard.begun(2);
    x.prove(1);
    x.cut(20);
    C.due("all of it is as before", x.take(), 0x9000);
  }

  private static void cutRefused() {
    C.sentence("Promise 7", "NONE if there are not so many, or n is below 0.");
    for (int size : new int[] {0, 1, 20, 299, 300}) {
      Guard x = slipped(size);
      for (int n : new int[] {size + 1, size + 2, 301, MAX, -1, -2, MIN}) {
        C.due("cut(" + n + ") of " + size, x.cut(n), Face.NONE);
      }
      C.due("line stays", x.line(), Checks.rising(size));
    }
  }

  private static void slip() {
    C.sentence("Promise 8",
        "THE TAPE's bytes are THE LINE (what somebody else told), at most 300: how many;");
    for (int size : new int[] {0, 1, 20, 299, 300}) {
      Guard x = slipped(7);
      C.due("slip " + size, x.slip(Checks.rising(size)), size);
      C.due("line", x.line(), Checks.rising(size));
      C.due("tape", x.end(1), Face.NONE);
      C.due("slip nothing", x.slip(), 0);
      C.due("line", x.about(0, 5), 0);
    }
    Guard x = Guard.begun(3);
    x.prove(1);
    String told = x.line();
    x.cut(0);
    x.slip(told);
    C.due("it is taken as any other", x.take(), 0x9000);
    x.slip(told);
    C.due("sessions stay", x.sessions(), 22);
  }

  private static void slipRefused() {
    C.sentence("Promise 8", "NONE, and THE LINE stays, if there are more.");
    for (int size : new int[] {301, 302, 380, 400}) {
      for (int had : new int[] {0, 20, 300}) {
        Guard x = slipped(had);
        C.due("slip " + size, x.slip(Checks.many("ff", size)), Face.NONE);
        C.due("line stays", x.line(), Checks.rising(had));
        C.due("tape", x.end(1), Face.NONE);
      }
    }
  }
}
