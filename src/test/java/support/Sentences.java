import java.io.IOException;
import java.nio.file.Files;
import java.nio.file.Path;
import java.util.Arrays;

/**
 * What the tests by sentences share. Each test names the promise and the words of the document that
 * it is about; words that the document does not have are a fault, and so is a stretch of the
 * document that no test has named.
 */
final class Sentences {
    static final int LAST = 40;
    static final String FLAT = "size 6 4;depth 20 when all;";
    static final String OWL = ship("owl", 1, 1, 5, 3);
    static final String KITE = ship("kite", 2, 2, 8, 4);

    private static final String DOC = words();
    private static final boolean[] NAMED = new boolean[DOC.length()];
    private static int wrong = 0;
    private static int checks = 0;
    private static int all = 0;
    private static int sentences = 0;
    private static int promise = 0;
    private static String quote = "";

    private Sentences() {
    }

    // ---- the document

    private static String words() {
        try {
            return Files.readString(Path.of("../shared/DOC.md")).replace("```text", " ").replace("`", "")
                    .replaceAll("\\s+", " ");
        } catch (IOException e) {
            System.out.println("no document: " + e);
            return "";
        }
    }

    private static int headOf(int number) {
        int at = number > LAST ? DOC.indexOf("## Not promised") : DOC.indexOf("## Promise " + number + ": ");
        return at < 0 ? DOC.length() : at;
    }

    /** Where a promise's words begin, behind its name and the call's form. */
    private static int bodyOf(int number) {
        int at = DOC.indexOf("): ", headOf(number));
        return at < 0 ? DOC.length() : at + 3;
    }

    /** The words that the tests below are about, of a promise itself or of the terms. */
    static void sentence(int number, String words) {
        close();
        promise = number;
        quote = words;
        checks = 0;
        sentences++;
        int at = DOC.indexOf(words, bodyOf(number));
        if (at < 0 || at + words.length() > headOf(number + 1)) {
            at = DOC.indexOf(words, DOC.indexOf("## Terms"));
            if (at < 0 || at + words.length() > DOC.indexOf("The constants: ")) {
                fail("the document has no such words");
                return;
            }
        }
        Arrays.fill(NAMED, at, at + words.length(), true);
    }

    private static void close() {
        if (sentences > 0 && checks == 0) {
            fail("nothing was asked");
        }
        all += checks;
    }

    private static void lookForUnnamed(int from, int to) {
        int start = -1;
        for (int k = from; k <= to; k++) {
            boolean open = k < to && !NAMED[k];
            if (open && start < 0) {
                start = k;
            } else if (!open && start >= 0) {
                String left = DOC.substring(start, k);
                if (left.matches(".*[A-Za-z0-9].*")) {
                    fail("no test names: " + left);
                }
                start = -1;
            }
        }
    }

    /** Ends the tests of some promises and of the terms between two stretches of words. */
    static void done(int first, int last, String from, String to) {
        close();
        promise = 0;
        quote = "the whole";
        for (int number = first; number <= last; number++) {
            lookForUnnamed(bodyOf(number), headOf(number + 1));
        }
        if (!from.isEmpty()) {
            int start = DOC.indexOf(from);
            int end = DOC.indexOf(to);
            if (start < 0 || end < start) {
                fail("no such terms: " + from + " .. " + to);
            } else {
                lookForUnnamed(start, end);
            }
        }
        System.out.println(sentences + " sentences, " + all + " answers, wrong " + wrong);
        if (wrong != 0) {
            System.exit(1);
        }
    }

    // ---- what is due

    private static void fail(String what) {
        wrong++;
        System.out.println("promise " + promise + ", \"" + quote + "\": " + what);
    }

    static void due(String call, long got, long want) {
        checks++;
        if (got != want) {
            fail(call + " answered " + got + ", due is " + want);
        }
    }

    static void yes(String call, boolean got) {
        due(call, got ? 1 : 0, 1);
    }

    static void no(String call, boolean got) {
        due(call, got ? 1 : 0, 0);
    }

    static void same(String what, String got, String want) {
        checks++;
        if (!got.equals(want)) {
            fail(what + " left " + got + ", due is " + want);
        }
    }

    // ---- what is told

    static String ship(String name, int look, int speed, int draft, int load) {
        return "ship " + name + " look " + look + " speed " + speed + " draft " + draft + " load " + load + ";";
    }

    static String says(String name, int hour, int column, int row, int laden) {
        return "says " + name + " " + hour + " at " + column + " " + row + " laden " + laden + ";";
    }

    static String book(String name, int column, int row, int from, int to) {
        return "book " + name + " at " + column + " " + row + " from " + from + " to " + to + ";";
    }

    static String seen(int look, int column, int row, int hour) {
        return "seen " + look + " at " + column + " " + row + " hour " + hour + ";";
    }

    static void put(ToldTracks x, int... bytes) {
        for (int from = 0; from < bytes.length; from += 20) {
            int[] five = new int[5];
            for (int k = 0; k < 20; k++) {
                five[k / 4] = five[k / 4] << 8 | (from + k < bytes.length ? bytes[from + k] & 255 : 63);
            }
            x.feed(five[0], five[1], five[2], five[3], five[4]);
        }
        x.end(bytes.length);
    }

    static void putText(ToldTracks x, String text) {
        int[] bytes = new int[text.length()];
        for (int k = 0; k < bytes.length; k++) {
            bytes[k] = text.charAt(k);
        }
        put(x, bytes);
    }

    static int tell(ToldTracks x, String text) {
        putText(x, text);
        return x.sea();
    }

    /** A new object with a sea; a fault in it is one of the test. */
    static ToldTracks told(String text) {
        ToldTracks x = new ToldTracks();
        if (tell(x, text) < 1) {
            fail("fault " + x.fault(0) + " at " + x.fault(1) + " in " + text);
        }
        return x;
    }

    /** So many statements has a text, and no fault. */
    static void good(String text, int statements) {
        ToldTracks x = new ToldTracks();
        due("sea() of " + text, tell(x, text), statements);
        due("fault(0) of " + text, x.fault(0), 0);
        due("fault(1) of " + text, x.fault(1), -1);
    }

    static void bad(String text, int fault, int place) {
        ToldTracks x = new ToldTracks();
        due("sea() of " + text, tell(x, text), -1);
        due("fault(0) of " + text, x.fault(0), fault);
        due("fault(1) of " + text, x.fault(1), place);
    }

    /** The fault of a text is at the place of its exclamation mark, which itself goes. */
    static void faultAt(String marked, int fault) {
        bad(marked.replace("!", ""), fault, marked.indexOf('!'));
    }

    static int[] withCheck(int... bytes) {
        int[] whole = Arrays.copyOf(bytes, bytes.length + 1);
        int c = 29;
        for (int b : bytes) {
            c = (3 * c + b) % 241;
        }
        whole[bytes.length] = c;
        return whole;
    }

    /** Puts an image, to which the last byte comes by itself, on the tape and takes it. */
    static boolean takes(ToldTracks x, int... bytes) {
        put(x, withCheck(bytes));
        return x.on();
    }

    /** What can be asked of an object with up to two ships and few sayings, in some 200 calls. */
    static String answers(ToldTracks x) {
        StringBuilder b = new StringBuilder();
        for (int w = 0; w < 8; w++) {
            b.append(x.has(w)).append(' ');
        }
        for (int s = 0; s < Math.min(x.has(2), 2); s++) {
            b.append('|');
            for (int k = 0; k < 6; k++) {
                b.append(x.letter(s, k)).append(' ');
            }
            for (int w = 0; w < 9; w++) {
                b.append(x.ship(s, w)).append(' ');
            }
            for (int i = 0; i < Math.min(x.ship(s, 4), 4); i++) {
                for (int w = 0; w < 5; w++) {
                    b.append(x.saying(s, i, w)).append(' ');
                }
            }
            b.append(x.tale(s, 0)).append(' ').append(x.reach(s, 10, -1)).append(' ').append(x.chance(s));
        }
        b.append('|');
        for (int hour = 0; hour < 3; hour++) {
            for (int w = 0; w < 3; w++) {
                b.append(x.cell(1, 1, hour, w)).append(' ');
            }
        }
        for (int i = 0; i < Math.min(x.has(5), 4); i++) {
            for (int w = 0; w < 4; w++) {
                b.append(x.sighting(i, w)).append(' ');
            }
        }
        b.append('|').append(x.next(0)).append(' ').append(x.next(1)).append(' ').append(x.strange()).append('|');
        for (int k = 0; k < 12; k++) {
            b.append(x.octet(k)).append(' ');
        }
        return b.toString();
    }
}
