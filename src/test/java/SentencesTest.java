import java.io.IOException;
import java.nio.file.Files;
import java.nio.file.Path;

/**
 * A test for each sentence of the document's terms and promises. Beside the source it is told where
 * the document lies; then it finds what no test stands for, too.
 */
public final class SentencesTest {
  private static final Checks C = Checks.ALL;

  public static void main(String[] args) throws IOException {
    Document document = args.length > 1 && Files.exists(Path.of(args[1]))
        ? new Document(Path.of(args[1])) : null;
    C.document(document);
    OfBytes.run();
    OfCodes.run();
    OfSides.run();
    OfSecured.run();
    OfTape.run();
    OfLine.run();
    OfKeys.run();
    OfStart.run();
    OfCommands.run();
    OfAnswers.run();
    OfLooks.run();
    OfRefusals.run();
    OfRests.run();
    C.part("document");
    if (document == null) {
      System.out.println("no document: its sentences are not looked for");
    } else {
      document.unmarked().forEach(words -> C.fault("no test for " + words));
    }
    C.end();
  }
}
