import java.lang.reflect.Method;
import java.util.Arrays;

/**
 * Runs of calls written as lines, on a fresh object each:
 * "text T" reads T, which has no fault; "fault N P T" reads T, whose fault is N at P; "call(1, 2) = 3" is a call and the
 * answer that is due (true is 1, false 0). In a text \t, \n, \r and \xHH stand for bytes.
 */
final class Script {
    private final Check check;

    Script(Check check) {
        this.check = check;
    }

    void run(int promise, String lines) {
        SewnRoads x = new SewnRoads();
        for (String line : lines.split("\n")) {
            String row = line.strip();
            if (row.startsWith("text ")) {
                fault(promise, x, 0, -1, row.substring(5));
            } else if (row.startsWith("fault ")) {
                String[] words = row.split(" ", 4);
                fault(promise, x, Integer.parseInt(words[1]), Integer.parseInt(words[2]), words.length > 3 ? words[3] : "");
            } else if (!row.isEmpty()) {
                call(promise, x, row);
            }
        }
    }

    void fault(int promise, SewnRoads x, int number, int place, String text) {
        String bytes = bytes(text);
        check.due("promise " + promise + ": read() of <" + text + ">", Check.read(x, bytes), number);
        check.due("promise " + promise + ": place() of <" + text + ">", x.place(), place);
    }

    private void call(int promise, SewnRoads x, String row) {
        String[] sides = row.split(" = ");
        String name = sides[0].substring(0, sides[0].indexOf('('));
        String inside = sides[0].substring(sides[0].indexOf('(') + 1, sides[0].indexOf(')')).strip();
        Object[] args = inside.isEmpty() ? new Object[0]
            : Arrays.stream(inside.split(",")).map(a -> (Object) Integer.valueOf(a.strip())).toArray();
        try {
            Class<?>[] types = new Class<?>[args.length];
            Arrays.fill(types, int.class);
            Method method = SewnRoads.class.getMethod(name, types);
            Object got = method.invoke(x, args);
            long number = got instanceof Boolean b ? b ? 1 : 0 : (Integer) got;
            check.due("promise " + promise + ": " + sides[0], number, Long.parseLong(sides[1].strip()));
        } catch (ReflectiveOperationException e) {
            throw new IllegalStateException(row, e);
        }
    }

    private static String bytes(String text) {
        StringBuilder s = new StringBuilder();
        for (int i = 0; i < text.length(); i++) {
            char c = text.charAt(i);
            if (c != '\\') {
                s.append(c);
                continue;
            }
            i++;
            switch (text.charAt(i)) {
                case 't' -> s.append('\t');
                case 'n' -> s.append('\n');
                case 'r' -> s.append('\r');
                default -> {
                    s.append((char) Integer.parseInt(text.substring(i + 1, i + 3), 16));
                    i += 2;
                }
            }
        }
        return s.toString();
    }
}
