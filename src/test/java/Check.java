import java.io.IOException;
import java.nio.file.Files;
import java.nio.file.Path;
import java.util.List;

/** Counts answers that are not as due, and types texts onto a tape. */
final class Check {
    /** Numbers that nothing bears, among them those that would be taken if a high bit were lost. */
    static final int[] FAR_OFF = {Integer.MIN_VALUE, Integer.MIN_VALUE + 1, -65536, -256, -2, 256, 65536, 1 << 30,
        Integer.MAX_VALUE};

    private static final Path DOCUMENT = Path.of("../shared/DOC.md");

    private int asked = 0;
    private int wrong = 0;
    private String sentence = "";
    private String document = null;

    /** What is asked from here on tests these words, which must stand in the document. */
    void says(String words) {
        sentence = "\"" + words + "\": ";
        holds("the document does not say so", Files.notExists(DOCUMENT) || readDocument().contains(words));
    }

    private String readDocument() {
        if (document == null) {
            try {
                document = Files.readString(DOCUMENT).replaceAll("\\s+", " ");
            } catch (IOException unread) {
                throw new IllegalStateException(unread);
            }
        }
        return document;
    }

    void due(String call, long got, long want) {
        holds(call + " answered " + got + ", due is " + want, got == want);
    }

    void same(String what, List<String> got, List<String> want) {
        for (int i = 0; i < Math.max(got.size(), want.size()); i++) {
            String one = i < got.size() ? got.get(i) : "nothing";
            String other = i < want.size() ? want.get(i) : "nothing";
            if (!one.equals(other)) {
                holds(what + ": then " + one + ", due is " + other, false);
                return;
            }
        }
        asked++;
    }

    void holds(String what, boolean so) {
        asked++;
        if (!so) {
            wrong++;
            if (wrong <= 50) {
                System.out.println(sentence + what);
            }
        }
    }

    boolean isClean() {
        return wrong == 0;
    }

    void end() {
        System.out.println(asked + " answers, " + wrong + " not as due");
        if (wrong != 0) {
            System.exit(1);
        }
    }

    /** Types a text, up to eight bytes a call; what the last call answered. */
    static int type(TwelveCars x, String text) {
        int answer = 0;
        for (int from = 0; from < text.length(); from += 8) {
            String part = text.substring(from, Math.min(from + 8, text.length()));
            answer = x.type(packed(part), part.length());
        }
        return answer;
    }

    static long packed(String part) {
        long w = 0;
        for (int i = 0; i < part.length(); i++) {
            w = w << 8 | part.charAt(i);
        }
        return w;
    }

    static int people(TwelveCars x, String text) {
        type(x, text);
        return x.people();
    }

    static int evening(TwelveCars x, String text) {
        type(x, text);
        return x.evening();
    }
}
