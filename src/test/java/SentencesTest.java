import java.lang.reflect.Method;
import java.nio.file.Files;
import java.nio.file.Path;
import java.util.ArrayList;
import java.util.List;
import java.util.Map;
import java.util.TreeMap;
import java.util.regex.Matcher;
import java.util.regex.Pattern;

/** Runs the tests that are marked by the document's words, and looks that no word of "Terms" and the promises is left out. */
public final class SentencesTest extends Check {
    private static final Class<?>[] TESTS = {TermSentences.class, WorldSentences.class, PlanSentences.class,
        SetSentences.class, ChanceSentences.class, SheetSentences.class};

    public static void main(String[] args) throws Exception {
        Map<Integer, String> document = document(Files.readString(Path.of("../shared/DOC.md")));
        Map<Integer, boolean[]> said = new TreeMap<>();
        for (int at : document.keySet()) said.put(at, new boolean[document.get(at).length()]);
        int tests = 0;
        boolean whole = true;
        for (Class<?> c : TESTS) {
            for (Method m : c.getDeclaredMethods()) {
                Says says = m.getAnnotation(Says.class);
                if (says == null) continue;
                for (String words : says.words()) whole &= mark(document.get(says.promise()), said.get(says.promise()), words);
                begin(place(says.promise()) + ", \"" + String.join(" ", says.words()) + "\"");
                m.invoke(null);
                tests++;
            }
        }
        for (int at : document.keySet()) whole &= isWhole(at, document.get(at), said.get(at));
        int wrong = tell(tests + " sentences");
        if (wrong != 0 || !whole) System.exit(1);
    }

    private static String place(int promise) {
        return promise < 0 ? "what it is" : promise == 0 ? "terms" : "promise " + promise;
    }

    /** What is promised, by its place, blanks and line ends as one blank each; without the calls' own lines. */
    private static Map<Integer, String> document(String text) {
        Map<Integer, String> parts = new TreeMap<>();
        for (String part : text.split("\n## ")) {
            String title = part.substring(0, part.indexOf('\n'));
            String body = part.substring(part.indexOf('\n')).replaceAll("```(text)?", " ").replaceAll("\\s+", " ").trim();
            Matcher promise = Pattern.compile("Promise (\\d+): .*").matcher(title);
            if (promise.matches()) parts.put(Integer.parseInt(promise.group(1)), body.replaceFirst("^`[^`]*`: ", ""));
            if (title.equals("Terms")) parts.put(0, body);
            // The rest of it only tells what the class is about.
            if (title.equals("What it is")) parts.put(-1, body.substring(body.indexOf("An object is used")));
        }
        return parts;
    }

    /** Marks all places of some words; they have to stand there at least once. */
    private static boolean mark(String text, boolean[] said, String words) {
        int at = text.indexOf(words);
        if (at < 0) System.out.println("the document doesn't say: " + words);
        boolean found = at >= 0;
        while (at >= 0) {
            for (int i = at; i < at + words.length(); i++) said[i] = true;
            at = text.indexOf(words, at + 1);
        }
        return found;
    }

    private static boolean isWhole(int at, String text, boolean[] said) {
        List<String> left = new ArrayList<>();
        StringBuilder words = new StringBuilder();
        for (int i = 0; i <= text.length(); i++) {
            if (i < text.length() && !said[i]) {
                words.append(text.charAt(i));
            } else {
                if (words.toString().matches(".*[A-Za-z].*")) left.add(words.toString());
                words.setLength(0);
            }
        }
        for (String each : left) System.out.println("no test for " + place(at) + ": " + each);
        return left.isEmpty();
    }
}
