import java.io.IOException;
import java.nio.file.Files;
import java.nio.file.Path;
import java.util.ArrayList;
import java.util.LinkedHashMap;
import java.util.List;
import java.util.Map;

/** The document's sections, and the words in them that a test stands for. */
final class Document {
  private static final class Section {
    final String text;
    final boolean[] marked;

    Section(String text) {
      this.text = text;
      marked = new boolean[text.length()];
    }
  }

  private final Map<String, Section> sections = new LinkedHashMap<>();

  Document(Path path) throws IOException {
    for (String part : Files.readString(path).split("(?m)^## ")) {
      String[] headAndText = part.split("\n", 2);
      if (headAndText.length == 2) {
        // A promise's call is its own section's name, told once more.
        String text = headAndText[1].replaceAll("```[a-z]*", " ").replaceAll("\\s+", " ")
            .replaceFirst("^ `[^`]*`: ", "").strip();
        sections.put(headAndText[0].split(":")[0].strip(), new Section(text));
      }
    }
  }

  /** False if the section has no such words. */
  boolean mark(String name, String words) {
    Section section = sections.get(name);
    int from = section == null ? -1 : section.text.indexOf(words);
    for (int at = from; at >= 0; at = section.text.indexOf(words, at + 1)) {
      java.util.Arrays.fill(section.marked, at, at + words.length(), true);
    }
    return from >= 0;
  }

  /** What stands in the terms and the promises without a test for it. */
  List<String> unmarked() {
    List<String> all = new ArrayList<>();
    for (Map.Entry<String, Section> entry : sections.entrySet()) {
      if (entry.getKey().equals("Terms") || entry.getKey().startsWith("Promise ")) {
        addUnmarked(entry.getKey(), entry.getValue(), all);
      }
    }
    return all;
  }

  private static void addUnmarked(String name, Section section, List<String> all) {
    StringBuilder run = new StringBuilder();
    for (int i = 0; i <= section.text.length(); i++) {
      if (i < section.text.length() && !section.marked[i]) {
        run.append(section.text.charAt(i));
      } else {
        if (run.chars().anyMatch(Character::isLetterOrDigit)) {
          all.add(name + ", '" + run.toString().strip() + "'");
        }
        run.setLength(0);
      }
    }
  }
}
