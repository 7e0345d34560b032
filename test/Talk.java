import java.util.ArrayList;
import java.util.List;
import java.util.regex.Matcher;
import java.util.regex.Pattern;

/**
 * One new object and what it is asked, in words: "make() = 2, has(MAX, 2) = OUTSIDE".
 * A call without "= .." only makes ready for others; it must not be refused.
 */
final class Talk {
    private static final Pattern CALL = Pattern.compile("(\\w+)\\(([^)]*)\\)(?:\\s*=\\s*(-?\\w+))?");
    private static final int MOST_CALLS = 512;
    private static final int GREATEST_REFUSAL = -101;

    private final Due due;
    private final String sentence;
    private final NotionRounds x = new NotionRounds();
    private final List<String> heard = new ArrayList<>();

    Talk(Due due, String sentence) {
        this.due = due;
        this.sentence = sentence;
    }

    /** Asks all calls that stand in the lines, one after the other. */
    Talk asks(String... lines) {
        for (String line : lines) {
            Matcher call = CALL.matcher(line);
            while (call.find()) {
                hear(call.group(1), numbers(call.group(2)), call.group(3));
            }
        }
        return this;
    }

    /** The same call for each of the numbers, "#" being the number: one answer is due for all of them. */
    Talk each(String call, String want, String... given) {
        for (String number : given) {
            asks(call.replace("#", number) + " = " + want);
        }
        return this;
    }

    /** All nine numbers of conclusion k, in the order that conclusion() tells them: "0 2 3 NONE 2 4 2 NONE 0". */
    Talk row(int k, String want) {
        String[] parts = want.split(" ");
        for (int what = 0; what < parts.length; what++) {
            asks("conclusion(" + k + ", " + what + ") = " + parts[what]);
        }
        return this;
    }

    /** What a call answers, whatever it is. */
    long answer(String call) {
        Matcher found = CALL.matcher(call);
        if (!found.matches()) {
            throw new IllegalArgumentException("no call: " + call);
        }
        return answer(found.group(1), numbers(found.group(2)));
    }

    /** What the slow reading of the document answers to the same words. */
    static long onSlow(SlowRounds slow, String call) {
        Matcher found = CALL.matcher(call);
        if (!found.matches()) {
            throw new IllegalArgumentException("no call: " + call);
        }
        return Call.on(slow, found.group(1), numbers(found.group(2)));
    }

    void is(String call, long want) {
        due.is(place(call), answer(call), want);
    }

    private void hear(String name, int[] given, String want) {
        String place = place(name + words(given));
        long got = answer(name, given);
        if (want != null) {
            due.is(place, got, value(want));
        } else if (got <= GREATEST_REFUSAL && got >= NotionRounds.FULL && !name.equals("digest")) {
            due.is(place + ", which makes ready,", got, 0);
        }
    }

    private long answer(String name, int[] given) {
        if (heard.size() == MOST_CALLS) {
            throw new IllegalStateException("an object is asked too often: " + sentence);
        }
        heard.add(name + words(given));
        return Call.on(x, name, given);
    }

    private String place(String call) {
        int from = Math.max(0, heard.size() - 12);
        String gap = from > 0 ? ".. " : "";
        return "\"" + sentence + "\", behind " + gap + String.join(" ", heard.subList(from, heard.size())) + ": " + call;
    }

    private static int[] numbers(String words) {
        if (words.isBlank()) {
            return new int[0];
        }
        String[] parts = words.split(",");
        int[] numbers = new int[parts.length];
        for (int i = 0; i < parts.length; i++) {
            numbers[i] = (int) value(parts[i].trim());
        }
        return numbers;
    }

    private static String words(int[] given) {
        List<String> words = new ArrayList<>();
        for (int number : given) {
            words.add(Integer.toString(number));
        }
        return "(" + String.join(", ", words) + ")";
    }

    static long value(String word) {
        switch (word) {
            case "NONE": return -1;
            case "UNKNOWN": return -101;
            case "OUTSIDE": return -102;
            case "STATE": return -103;
            case "FULL": return -104;
            case "MIN": return Integer.MIN_VALUE;
            case "MAX": return Integer.MAX_VALUE;
            default: return Long.parseLong(word);
        }
    }
}
