import java.io.IOException;
import java.nio.file.Files;
import java.nio.file.Path;
import java.util.HashSet;
import java.util.Set;
import java.util.function.IntUnaryOperator;

/** Runs boundary cases: each says where the document names it, in the document's own words. */
final class Boundaries {
    private static final int PROMISES = 43;
    private static final int PARTS_OF_TERMS = 4;

    private final String document;
    private final Set<String> seen = new HashSet<>();
    private final Set<String> places = new HashSet<>();
    private String title = "";
    private int asked;
    private int wrong;
    private int answers;

    Boundaries(Path document) throws IOException {
        this.document = Files.readString(document);
    }

    /** One case. It counts as wrong, too, if it asks nothing, throws, or the document has no such words there. */
    void at(String place, String words, Runnable test) {
        title = place + ": " + words;
        asked = 0;
        try {
            test.run();
        } catch (RuntimeException | AssertionError e) {
            complain("threw " + e);
        }
        if (asked == 0) {
            complain("asks nothing");
        }
        if (!flat(section(place)).contains(flat(words))) {
            complain("these words aren't in the document there");
        }
        if (!seen.add(title)) {
            complain("has two tests");
        }
        places.add(place);
        answers += asked;
    }

    void due(String call, long got, long want) {
        asked++;
        if (got != want) {
            complain(call + " answered " + got + ", due is " + want);
        }
    }

    void due(String call, boolean got, boolean want) {
        due(call, got ? 1 : 0, want ? 1 : 0);
    }

    /** The same answer is due for each of these numbers. */
    void each(String call, IntUnaryOperator of, int want, int... numbers) {
        for (int number : numbers) {
            due(call + " of " + number, of.applyAsInt(number), want);
        }
    }

    /** A text that is right. */
    BellPulls right(String text, int lines) {
        BellPulls x = new BellPulls();
        due("lines of " + text, Checks.tell(x, text), lines);
        due("fault of " + text, x.fault(0), 0);
        due("place in " + text, x.fault(1), -1);
        return x;
    }

    /** A text with a FAULT. */
    void wrong(String text, int fault, int place) {
        BellPulls x = new BellPulls();
        due("lines of " + text, Checks.tell(x, text), -1);
        due("fault of " + text, x.fault(0), fault);
        due("place in " + text, x.fault(1), place);
    }

    void end(String name) {
        for (int i = 1; i <= PROMISES; i++) {
            missing("Promise " + i);
        }
        for (int i = 1; i <= PARTS_OF_TERMS; i++) {
            missing("Terms " + i);
        }
        System.out.println(name + ": " + seen.size() + " cases, " + answers + " answers, " + wrong + " wrong");
        if (wrong != 0) {
            System.exit(1);
        }
    }

    private void missing(String place) {
        if (!places.contains(place)) {
            title = place;
            complain("has no boundary case");
        }
    }

    private void complain(String what) {
        wrong++;
        System.out.println(title + ": " + what);
    }

    private String section(String place) {
        String[] words = place.split(" ");
        int number = Integer.parseInt(words[1]);
        if (words[0].equals("Promise")) {
            return between("## Promise " + number + ":", "\n## ");
        }
        // The first part's mark stands at the end of 'What it is'.
        String from = number == 1 ? "## Terms" : "==== " + number + ".";
        return between(from, number == PARTS_OF_TERMS ? "\n## " : "==== " + (number + 1) + ".");
    }

    private String between(String from, String to) {
        int start = document.indexOf(from);
        int end = start < 0 ? -1 : document.indexOf(to, start + from.length());
        return start < 0 || end < 0 ? "" : document.substring(start, end);
    }

    private static String flat(String words) {
        return words.replaceAll("\\s+", " ").trim();
    }
}
