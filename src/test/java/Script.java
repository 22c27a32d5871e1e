import java.lang.reflect.Method;
import java.util.Arrays;

/**
 * Runs of calls written as lines, on a fresh object each:
 * "text T" reads T, which has no fault; "fault N P T" reads T, whose fault is N at P; "fault N @ T" reads T without its @,
 * where the fault N is; "feed T" has T come onto the tape;
 * "call(1, 2) = 3" is a call and the answer that is due (true is 1, false 0); "times 5 call(1, 2)" is a call five times,
 * whose answers are not looked at. In a text \t, \n, \r and \xHH stand for bytes.
 */
final class Script {
    private final Check check;
    private String document;

    Script(Check check) {
        this.check = check;
    }

    /** A sentence of the document, word by word, and a run that would go otherwise if it did not hold. */
    void says(int promise, String sentence, String lines) {
        quoted(sentence);
        runAs("promise " + promise + " <" + sentence + ">", lines);
    }

    /** Looks whether the document, where it can be read, has these words. */
    void quoted(String sentence) {
        if (document == null) {
            document = Document.wholeText();
        }
        if (!document.isEmpty()) {
            check.due("the document says <" + sentence + ">", document.contains(sentence), true);
        }
    }

    void run(int promise, String lines) {
        runAs("promise " + promise, lines);
    }

    private void runAs(String label, String lines) {
        SewnRoads x = new SewnRoads();
        for (String line : lines.split("\n")) {
            String row = line.strip();
            if (row.startsWith("text ")) {
                faultAs(label, x, 0, -1, row.substring(5));
            } else if (row.startsWith("fault ")) {
                String[] words = row.split(" ", 4);
                String text = words.length > 3 ? words[3] : "";
                boolean marked = words[2].equals("@");
                int place = marked ? bytes(text).indexOf('@') : Integer.parseInt(words[2]);
                faultAs(label, x, Integer.parseInt(words[1]), place, marked ? text.replace("@", "") : text);
            } else if (row.startsWith("feed ")) {
                Check.feed(x, bytes(row.substring(5)));
            } else if (row.startsWith("times ")) {
                String[] words = row.split(" ", 3);
                for (int i = Integer.parseInt(words[1]); i > 0; i--) {
                    answer(x, words[2]);
                }
            } else if (!row.isEmpty()) {
                String[] sides = row.split(" = ");
                check.due(label + ": " + sides[0], answer(x, sides[0]), Long.parseLong(sides[1].strip()));
            }
        }
    }

    void fault(int promise, SewnRoads x, int number, int place, String text) {
        faultAs("promise " + promise, x, number, place, text);
    }

    private void faultAs(String label, SewnRoads x, int number, int place, String text) {
        String bytes = bytes(text);
        check.due(label + ": read() of <" + text + ">", Check.read(x, bytes), number);
        check.due(label + ": place() of <" + text + ">", x.place(), place);
    }

    /** What a call, written "name(1, 2)", answers; true is 1, false 0. */
    static long answer(SewnRoads x, String call) {
        int open = call.indexOf('(');
        String inside = call.substring(open + 1, call.indexOf(')')).strip();
        Object[] args = inside.isEmpty() ? new Object[0]
            : Arrays.stream(inside.split(",")).map(a -> (Object) Integer.valueOf(a.strip())).toArray();
        try {
            Class<?>[] types = new Class<?>[args.length];
            Arrays.fill(types, int.class);
            Method method = SewnRoads.class.getMethod(call.substring(0, open), types);
            Object got = method.invoke(x, args);
            return got instanceof Boolean b ? b ? 1 : 0 : (Integer) got;
        } catch (ReflectiveOperationException e) {
            throw new IllegalStateException(call, e);
        }
    }

    private static String bytes(String text) {
        StringBuilder s = new StringBuilder();
        for (int i = 0; i < text.length(); i++) {
            char c = text.charAt(i);
            if (c != '\\') {
                s.append(c);
                continue;
            }
            i++;
            switch (text.charAt(i)) {
                case 't' -> s.append('\t');
                case 'n' -> s.append('\n');
                case 'r' -> s.append('\r');
                default -> {
                    s.append((char) Integer.parseInt(text.substring(i + 1, i + 3), 16));
                    i += 2;
                }
            }
        }
        return s.toString();
    }
}
