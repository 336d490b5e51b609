/** Lines that neither side would tell, with the codes that are right for them. */
final class Forge {
  private Forge() {
  }

  /** Padded data (or wrongly padded), hidden as the holder's next command has it. */
  static byte[] hidden(Guard x, byte[] padded) {
    Reference.Side s = x.ref.sides[1];
    if (s.rule == 2) {
      return Reference.des3(true, s.enc, new byte[8], padded);
    }
    return Reference.aes(true, s.enc, Reference.countIv(s, s.count + 1, 0), padded);
  }

  /** The holder's next command: its data as the line shows it, and as a code by RULE 2 has it. */
  static String command(Guard x, String head, byte[] shown, byte[] plain) {
    Reference.Side s = x.ref.sides[1];
    byte[] code = Reference.codeOf(s, Checks.bytes(head), s.rule == 2 ? plain : shown);
    return Checks.hex(Reference.join(Checks.bytes(head), shown, Reference.part(code, 0, 8)));
  }

  /** Padded data (or wrongly padded), hidden as the answer to the caller's latest command. */
  static byte[] hiddenAnswer(Guard x, byte[] padded) {
    Reference.Side s = x.ref.sides[0];
    return Reference.aes(true, s.enc, Reference.countIv(s, s.count, 0x80), padded);
  }

  /** The answer to the caller's latest command: its data as the line shows it. */
  static String answer(Guard x, byte[] shown, int sw) {
    return Checks.hex(Reference.join(shown, Reference.answerCode(x.ref.sides[0], shown, sw)));
  }
}
