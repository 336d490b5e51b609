/** The Reference's codes against examples that others published. */
public final class CodesTest {
  private static final Checks C = Checks.ALL;

  public static void main(String[] args) {
    codes();
    proofs();
    C.end();
  }

  private static byte[] b(String hex) {
    return Checks.bytes(hex);
  }

  private static void codes() {
    C.part("RFC 4493");
    String key = "2b7e151628aed2a6abf7158809cf4f3c";
    String text = "6bc1bee22e409f96e93d7e117393172aae2d8a571e03ac9c9eb76fac45af8e51"
        + "30c81c46a35ce411e5fbc1191a0a52eff69f2445df4f9b17ad2b417be66c3710";
    int[] sizes = {0, 16, 40, 64};
    String[] dues = {"bb1d6929e95937287fa37d129b756746", "070a16b46b4d4144f79bdd9dd04a287c",
        "dfa66747de9ae63030ca32611497c827", "51f0bebf7e3b9d92fc49741779363cfe"};
    for (int i = 0; i < sizes.length; i++) {
      C.due("cmac of " + sizes[i],
          Checks.hex(Reference.cmac(b(key), b(text.substring(0, 2 * sizes[i])))), dues[i]);
    }
    C.part("ICAO 9303");
    C.due("retail", Checks.hex(Reference.retail(b("7962d9ece03d1acd4c76089dce131543"), new byte[8],
        b("72c29c2371cc9bdb65b779b8e8d37b29ecc154aa56a8799fae2f498f76ed92f2"))), "5f1448eea8ad90a7");
  }

  /** Cards' proofs, for card challenges that no NAME here gives: so by the Reference alone. */
  private static void proofs() {
    C.part("cards");
    byte[] h = b("40a62c37fa6304f8");
    byte[] c = b("6b4524abee7c");
    byte[] enc = Reference.sk(b("100102030405060708090a0b0c0d0e0f"), 0x0182, 1);
    C.due("older, holder", Checks.hex(Reference.mac3(enc, Reference.join(h, 0, 1, c))),
        "f32ea3838bc148f3");
    C.due("older, caller", Checks.hex(Reference.mac3(enc, Reference.join(0, 1, c, h))),
        "ba6961667737c5bc");
    byte[] hc = b("b13e5f938fc108c4" + "3eb51047495b249f");
    byte[] mac = Reference.kdf(b("101112131415161718191a1b1c1d1e1f"), 6, 16, hc);
    C.due("newer, holder", Checks.hex(Reference.kdf(mac, 0, 8, hc)), "66c484c1d2ef1948");
  }
}
