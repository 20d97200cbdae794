import java.io.IOException;
import java.nio.file.Files;
import java.nio.file.Path;
import java.util.Set;
import java.util.TreeSet;

/**
 * Boundary cases of the document, each looked at by itself under the sentence that names it. An edge's id is
 * the part of 'Terms' (I, II, III, IV; 0: what stands ahead of them) or the promise's number, a dot, and a
 * number of its own.
 */
final class Edges {
    private static final Path DOCUMENT = Path.of("../shared/DOC.md");
    private static final int MOST_SHOWN = 60;

    private final Set<String> asked;
    private final Set<String> ids = new TreeSet<>();
    private final Set<String> failed = new TreeSet<>();
    private final String document;
    private String id = "";
    private String sentence = "";
    private int looks = 0;
    private int wrong = 0;

    /** Looks at the edges asked for, at all of them if none is. */
    Edges(Set<String> asked) {
        this.asked = asked;
        document = document();
    }

    private static String document() {
        try {
            return plain(Files.readString(DOCUMENT));
        } catch (IOException notThere) {
            return "";
        }
    }

    private static String plain(String text) {
        return text.replaceAll("\\s+", " ");
    }

    void edge(String newId, String newSentence, Runnable look) {
        if (!ids.add(newId)) {
            tellWrong("two edges bear the id " + newId);
        }
        if (!asked.isEmpty() && !asked.contains(newId)) {
            return;
        }
        id = newId;
        sentence = newSentence;
        // No fault of the class: a document told in other words asks for another look at this edge.
        if (!document.isEmpty() && !document.contains(plain(sentence))) {
            System.out.println("edge " + id + ": the document does not say: " + sentence);
        }
        int ahead = looks;
        try {
            look.run();
        } catch (RuntimeException thrown) {
            tellWrong("threw " + thrown);
        }
        if (looks == ahead) {
            tellWrong("nothing is looked at");
        }
    }

    private void tellWrong(String what) {
        wrong++;
        failed.add(id);
        if (wrong <= MOST_SHOWN) {
            String shown = what.length() <= 400 ? what : what.substring(0, 200) + " .. " + what.substring(what.length() - 200);
            System.out.println("edge " + id + " (" + sentence + "): " + shown);
        }
    }

    void due(String what, long got, long want) {
        looks++;
        if (got != want) {
            tellWrong(what + " answered " + got + ", due is " + want);
        }
    }

    void due(String what, boolean got, boolean want) {
        due(what, got ? 1 : 0, want ? 1 : 0);
    }

    /** A text, read by a new object, has this fault at this place. */
    void fault(String text, int fault, int place) {
        MincedCases x = new MincedCases();
        Checks.feed(x, text);
        due("read() of " + text, x.read(), fault);
        due("place() of " + text, x.place(), place);
    }

    void fine(String text) {
        fault(text, 0, MincedCases.NONE);
    }

    /** All that shows how it stands, by 111 calls. */
    static int[] all(MincedCases x) {
        int[] all = new int[17 + 4 + 6 * 7 + 8 * 5 + 8];
        int at = 0;
        for (int what = 0; what < 17; what++) {
            all[at++] = x.count(what);
        }
        for (int stuff = 0; stuff < 4; stuff++) {
            all[at++] = x.screw(stuff);
        }
        for (int i = 0; i < 6 * 7; i++) {
            all[at++] = x.person(i / 7, i % 7);
        }
        for (int i = 0; i < 8 * 5; i++) {
            all[at++] = x.suit(i / 5, i % 5);
        }
        for (int what = 0; what < 8; what++) {
            all[at++] = x.tells(0, 1, what);
        }
        return all;
    }

    void same(String what, int[] got, int[] want) {
        for (int i = 0; i < want.length; i++) {
            due(what + ": answer " + i + " of all", got[i], want[i]);
        }
    }

    Set<String> ids() {
        return ids;
    }

    /** The ids of the edges that do not hold. */
    Set<String> failed() {
        return failed;
    }

    int looks() {
        return looks;
    }

    int wrong() {
        return wrong;
    }
}
