import java.io.IOException;
import java.lang.reflect.Method;
import java.nio.file.Files;
import java.nio.file.Path;
import java.util.ArrayList;
import java.util.List;

/** Holds the tests by sentence against the document: what they say stands there, and no word there is without a test. */
public final class DocumentTest {
    private static final Path DOCUMENT = Path.of("../shared/DOC.md");
    private static final List<Class<? extends Sentences>> TESTS = List.of(NetTermsTest.class, DriveTermsTest.class,
        AnswerTermsTest.class, NetPromisesTest.class, DrivePromisesTest.class, LayingPromisesTest.class);

    private static final List<String> faults = new ArrayList<>();

    public static void main(String[] args) throws IOException {
        if (!Files.exists(DOCUMENT)) {
            System.out.println("there is no " + DOCUMENT + " to hold the tests against");
            System.exit(1);
        }
        String document = promisedText(Files.readString(DOCUMENT));
        boolean[] isSaid = new boolean[document.length()];
        for (Class<?> tests : TESTS) {
            for (Method test : Sentences.testsOf(tests)) {
                for (String words : test.getAnnotation(Sentences.Says.class).value()) {
                    mark(document, isSaid, words, test);
                }
            }
        }
        findUnsaid(document, isSaid);
        for (String fault : faults) {
            System.out.println(fault);
        }
        System.out.println(faults.isEmpty() ? "each sentence has a test" : faults.size() + " faults");
        if (!faults.isEmpty()) {
            System.exit(1);
        }
    }

    /** The document from its sentence on 512 calls to the last promise, as one line, without headings and the face. */
    private static String promisedText(String document) {
        String text = document.replaceAll("(?s)```java.*?```", "").replaceAll("(?s)## Not promised.*", "");
        int start = text.indexOf("An object is used");
        return text.substring(Math.max(start, 0))
            .replaceAll("(?m)^#.*$", "")
            .replaceAll("(?m)^```.*$", "")
            .replaceAll("(?m)^======== \\d", "")
            .replaceAll("(?m)^Ahead of the calls .*$", "")
            .replaceAll("(?m)^`[^`]*`: ", "")
            .replaceAll("\\s+", " ");
    }

    private static void mark(String document, boolean[] isSaid, String words, Method test) {
        int at = document.indexOf(words);
        if (at < 0 || document.indexOf(words, at + 1) >= 0) {
            faults.add(test.getName() + ": the document has " + (at < 0 ? "not" : "more than once") + ": " + words);
            return;
        }
        for (int i = at; i < at + words.length(); i++) {
            isSaid[i] = true;
        }
    }

    private static void findUnsaid(String document, boolean[] isSaid) {
        StringBuilder unsaid = new StringBuilder();
        for (int i = 0; i <= document.length(); i++) {
            if (i < document.length() && !isSaid[i]) {
                unsaid.append(document.charAt(i));
            } else {
                String words = unsaid.toString().trim();
                if (words.matches(".*[A-Za-z0-9].*") && !words.equals("and")) {
                    faults.add("no test says: " + words);
                }
                unsaid.setLength(0);
            }
        }
    }
}
