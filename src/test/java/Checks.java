import java.io.IOException;
import java.nio.file.Files;
import java.nio.file.Path;

/** What the tests share: answers held against what is due, and texts put on the tape. */
final class Checks {
    private static final String DOCUMENT = document();

    private int wrong = 0;
    private String sentence = "";

    /** The sentence that is tested from here on, in the document's own words. */
    void sentence(String words) {
        sentence = "";
        due("these words stand in the document: " + words, DOCUMENT.isEmpty() || DOCUMENT.contains(words), true);
        sentence = "\"" + words + "\": ";
    }

    void due(String call, long got, long want) {
        if (got != want) {
            wrong++;
            System.out.println(sentence + call + " answered " + got + ", due is " + want);
        }
    }

    void due(String call, boolean got, boolean want) {
        due(call, got ? 1 : 0, want ? 1 : 0);
    }

    void end(String name) {
        System.out.println(wrong == 0 ? name + ": all answers are as due" : name + ": " + wrong + " answers are not as due");
        if (wrong != 0) System.exit(1);
    }

    static void type(NearlyShut x, String text) {
        x.end(0);
        for (int from = 0; from < text.length(); from += 20) {
            int[] words = new int[5];
            for (int i = 0; i < 20; i++) {
                int sign = from + i < text.length() ? text.charAt(from + i) : ' ';
                words[i / 4] = words[i / 4] << 8 | sign & 255;
            }
            x.feed(words[0], words[1], words[2], words[3], words[4]);
        }
        x.end(text.length());
    }

    static int order(NearlyShut x, int kind, int day, String text) {
        type(x, text);
        return x.order(kind, day);
    }

    private static String document() {
        Path path = Path.of("../shared/DOC.md");
        try {
            return Files.exists(path) ? Files.readString(path).replaceAll("\\s+", " ") : "";
        } catch (IOException e) {
            return "";
        }
    }
}
