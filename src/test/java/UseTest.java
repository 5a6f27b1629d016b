import java.io.IOException;
import java.lang.reflect.InvocationTargetException;
import java.lang.reflect.Method;
import java.nio.file.Files;
import java.nio.file.Path;
import java.util.regex.Matcher;
import java.util.regex.Pattern;

/** README.md shows a sea and calls with their answers: they are taken from there and asked. */
public final class UseTest {
    private static final Pattern CALL = Pattern.compile(" *x\\.(\\w+)\\((.*)\\); *// (-?\\d+)\\b.*");

    private static long valueOf(String word) {
        return word.equals("NONE") ? ToldTracks.NONE : Long.decode(word);
    }

    private static long answer(ToldTracks x, String call, String told) throws IllegalAccessException {
        String[] words = told.isEmpty() ? new String[0] : told.split(", *");
        for (Method m : ToldTracks.class.getMethods()) {
            if (!m.getName().equals(call) || m.getParameterCount() != words.length) {
                continue;
            }
            Object[] given = new Object[words.length];
            for (int k = 0; k < words.length; k++) {
                boolean truth = m.getParameterTypes()[k] == boolean.class;
                given[k] = truth ? (Object) words[k].equals("true") : (Object) (int) valueOf(words[k]);
            }
            try {
                return ((Number) m.invoke(x, given)).longValue();
            } catch (InvocationTargetException thrown) {
                System.out.println(call + " threw " + thrown.getCause());
            }
        }
        return Long.MIN_VALUE;
    }

    /** The sea of README: its block of text, without the indent. */
    private static String seaOf(String page) {
        Matcher block = Pattern.compile("(?s)```text\n(.*?) *```").matcher(page);
        return block.find() ? block.group(1).replaceAll("(?m)^ +", "") : "";
    }

    public static void main(String[] args) throws IOException, IllegalAccessException {
        String page = Files.readString(Path.of("README.md"));
        ToldTracks x = new ToldTracks();
        Sentences.putText(x, seaOf(page));
        int calls = 0;
        int wrong = 0;
        for (String line : page.split("\n")) {
            Matcher call = CALL.matcher(line);
            if (!call.matches()) {
                continue;
            }
            calls++;
            long got = answer(x, call.group(1), call.group(2));
            if (got != Long.parseLong(call.group(3))) {
                wrong++;
                System.out.println("README.md says: " + line.trim() + " - the answer is " + got);
            }
        }
        System.out.println(calls + " calls of README.md, wrong " + wrong);
        if (wrong != 0 || calls < 20) {
            System.exit(1);
        }
    }
}
