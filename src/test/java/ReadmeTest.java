import java.io.IOException;
import java.nio.file.Files;
import java.nio.file.Path;
import java.util.Arrays;
import java.util.Locale;
import java.util.regex.Matcher;
import java.util.regex.Pattern;

/**
 * The calls that README.md shows, one after another on one object, answer and throw what stands behind
 * them; and it shows every call of the face.
 */
public final class ReadmeTest {
    private static final Pattern MADE = Pattern.compile("AuctionHour day = new AuctionHour\\((\\d+)\\);.*");
    private static final Pattern CALL = Pattern.compile("day\\.(\\w+)\\(([^)]*)\\);(?:\\s+// (.*))?");
    private static final Pattern SAID = Pattern.compile("(?:(-?\\d+)|throws (\\w+))(?:: .*)?");

    private static AuctionHour day = null;

    public static void main(String[] args) throws IOException {
        Sentence s = new Sentence("README.md: what is said behind a call");
        boolean[] isShown = new boolean[Face.values().length];
        boolean isCode = false;
        for (String line : Files.readAllLines(Path.of("README.md"))) {
            if (line.startsWith("```")) {
                isCode = line.equals("```java");
            } else if (isCode && !line.isEmpty() && !line.startsWith("//")) {
                follow(s, line, isShown);
            }
        }
        Sentence all = new Sentence("README.md: the calls of a day");
        for (Face face : Face.values()) {
            all.same(face + (isShown[face.ordinal()] ? " is shown" : " is not shown"), face + " is shown");
        }
        Sentence.end();
    }

    private static void follow(Sentence s, String line, boolean[] isShown) {
        Matcher made = MADE.matcher(line);
        Matcher call = CALL.matcher(line);
        if (made.matches()) {
            day = new AuctionHour(Integer.parseInt(made.group(1)));
        } else if (call.matches()) {
            Face face = faceOf(call.group(1));
            isShown[face.ordinal()] = true;
            make(s, line, face, argumentsOf(call.group(2)), call.group(3) == null ? "" : call.group(3));
        } else {
            s.same(line, "a call");
        }
    }

    private static Face faceOf(String name) {
        return Face.valueOf(name.equals("nextDay") ? "NEXT_DAY" : name.toUpperCase(Locale.ROOT));
    }

    private static int[] argumentsOf(String text) {
        return Arrays.stream(text.split(",")).map(String::trim).filter(part -> !part.isEmpty())
                .mapToInt(Integer::parseInt).toArray();
    }

    private static void make(Sentence s, String line, Face face, int[] arguments, String words) {
        s.same(line + " arguments: " + arguments.length, line + " arguments: " + face.arguments);
        Matcher said = SAID.matcher(words);
        if (!said.matches()) {
            s.same(line + " " + isVoid(face), line + " true");
            s.goes(() -> face.call(day, arguments));
        } else if (said.group(1) != null) {
            s.same(line + " " + isVoid(face), line + " false");
            s.is(Long.parseLong(said.group(1)), () -> face.call(day, arguments));
        } else if (said.group(2).equals("IllegalArgumentException")) {
            s.badArgument(() -> face.call(day, arguments));
        } else {
            s.same(said.group(2), "IllegalStateException");
            s.badState(() -> face.call(day, arguments));
        }
    }

    private static boolean isVoid(Face face) {
        switch (face) {
            case COLLATERAL: case LIAR: case TELL: case METER: case NEXT_DAY: return true;
            default: return false;
        }
    }
}
