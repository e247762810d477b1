import java.io.IOException;
import java.nio.charset.StandardCharsets;
import java.nio.file.Files;
import java.nio.file.Path;
import java.util.Objects;

/** What all tests share: they print each answer that is not due, and end with exit code 1 if there was one. */
final class Check {
    interface Call {
        Object answer();
    }

    private static final Path DOCUMENT = Path.of("../shared/DOC.md");

    private static int asked = 0;
    private static int wrong = 0;
    private static int sentences = 0;
    private static String sentence = "";
    private static String document = "";

    private Check() {
    }

    /** The answer of a call as a text; throws.Name if it throws. */
    static String answerOf(Call call) {
        try {
            return String.valueOf(call.answer());
        } catch (RuntimeException e) {
            return "throws." + e.getClass().getSimpleName();
        }
    }

    static void due(String what, Object want, Call call) {
        asked++;
        String got = answerOf(call);
        if (!Objects.equals(got, String.valueOf(want))) {
            wrong++;
            System.out.println(sentence + what + " answered " + got + ", due is " + want);
        }
    }

    /** The test of one sentence of the document, told in the document's own words. */
    static void sentence(String words, Runnable test) {
        sentences++;
        sentence = "\"" + words + "\": ";
        // a text that is not the document's would hide that nothing tests what the document says now
        due("stands in the document", true, () -> isInDocument(words));
        try {
            test.run();
        } catch (RuntimeException e) {
            wrong++;
            System.out.println(sentence + "ended by " + e);
        }
        sentence = "";
    }

    private static boolean isInDocument(String words) {
        if (document.isEmpty() && Files.exists(DOCUMENT)) {
            try {
                document = Files.readString(DOCUMENT).replaceAll("\\s+", " ");
            } catch (IOException e) {
                throw new IllegalStateException(e);
            }
        }
        return document.isEmpty() || document.contains(words);
    }

    static int wrong() {
        return wrong;
    }

    static void end() {
        System.out.println((sentences > 0 ? sentences + " sentences, " : "") + asked + " calls, " + wrong + " wrong");
        if (wrong != 0) {
            System.exit(1);
        }
    }

    static byte[] bytesOf(String text) {
        return text.getBytes(StandardCharsets.ISO_8859_1);
    }

    /** The argument of append that holds the 4 bytes from this place on; spaces behind the end. */
    static int word(byte[] bytes, int from) {
        int word = 0;
        for (int i = from; i < from + 4; i++) {
            word = word << 8 | (i < bytes.length ? bytes[i] & 255 : 32);
        }
        return word;
    }

    static int append(GroupBids bids, byte[] bytes, int from) {
        return bids.append(word(bytes, from), word(bytes, from + 4), word(bytes, from + 8),
                word(bytes, from + 12), word(bytes, from + 16));
    }

    static int load(GroupBids bids, String text) {
        byte[] bytes = bytesOf(text);
        for (int from = 0; from < bytes.length; from += 20) {
            append(bids, bytes, from);
        }
        return bids.load(bytes.length);
    }

    static GroupBids loaded(String text) {
        GroupBids bids = new GroupBids();
        due("load of " + text, true, () -> load(bids, text) >= 0);
        return bids;
    }
}
