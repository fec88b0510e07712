import java.io.IOException;
import java.io.UncheckedIOException;
import java.nio.file.Files;
import java.nio.file.Path;
import java.util.ArrayList;
import java.util.List;
import java.util.NoSuchElementException;
import java.util.function.IntSupplier;

/** What the hand-written tests share: comparing, feeding texts, and the end of a test. */
final class Checks {
    private static int wrong = 0;
    private static int done = 0;
    private static String sentence = "";
    private static String document = null;
    static final List<String> SENTENCES = new ArrayList<>();

    private Checks() { }

    /** What is checked from here on is asked by these words, which must stand in the document. */
    static void sentence(String words) {
        sentence = "";
        due("these words stand in the document: " + words, document().contains(words), true);
        sentence = "'" + words + "': ";
        SENTENCES.add(words);
    }

    /** DOC.md with each run of blanks and ends of lines as one blank. */
    static String document() {
        if (document == null) {
            try {
                document = Files.readString(Path.of("../shared/DOC.md")).replaceAll("\\s+", " ");
            } catch (IOException e) {
                throw new UncheckedIOException(e);
            }
        }
        return document;
    }

    static void due(String what, long got, long want) {
        done++;
        if (got != want) {
            wrong++;
            System.out.println(sentence + what + " answered " + got + ", due is " + want);
        }
    }

    static void due(String what, boolean got, boolean want) {
        due(what, got ? 1 : 0, want ? 1 : 0);
    }

    static void noSuch(String what, IntSupplier call) {
        done++;
        String got;
        try {
            got = "answered " + call.getAsInt();
        } catch (NoSuchElementException e) {
            return;
        } catch (RuntimeException e) {
            got = "threw " + e;
        }
        wrong++;
        System.out.println(sentence + what + " " + got + ", due is NoSuchElementException");
    }

    static int feed(SecretBuyers x, String text) {
        int answer = x.count(9);
        for (int i = 0; i < text.length(); i += 24) {
            long[] three = new long[3];
            for (int k = 0; k < 24 && i + k < text.length(); k++) {
                three[k / 8] |= (long) (text.charAt(i + k) & 255) << 56 - k % 8 * 8;
            }
            answer = x.feed(three[0], three[1], three[2]);
        }
        return answer;
    }

    /** Feeds a text and reads it: what brief() answered. */
    static int tell(SecretBuyers x, String text, int chain, int day) {
        feed(x, text);
        return x.brief(chain, day);
    }

    static void end(String name) {
        System.out.println(name + ": " + done + " checks, " + (wrong == 0 ? "as due" : wrong + " wrong"));
        if (wrong != 0) System.exit(1);
    }
}
