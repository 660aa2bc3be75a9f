import java.util.function.IntSupplier;

/** Counts answers that are not the due ones, and helps tests to make halls. */
final class Check {
    private int checks;
    private int failures;

    void due(String call, long got, long want) {
        checks++;
        if (got != want) {
            failures++;
            System.out.println(call + " answered " + got + ", due is " + want);
        }
    }

    void holds(String call, boolean got) {
        due(call, got ? 1 : 0, 1);
    }

    void fails(String call, boolean got) {
        due(call, got ? 1 : 0, 0);
    }

    void outside(String call, IntSupplier asked) {
        checks++;
        try {
            int got = asked.getAsInt();
            failures++;
            System.out.println(call + " answered " + got + ", due is an IndexOutOfBoundsException");
        } catch (IndexOutOfBoundsException thrown) {
            if (thrown.getClass() != IndexOutOfBoundsException.class) {
                failures++;
                System.out.println(call + " threw " + thrown + ": that is the machine's");
            }
        }
    }

    void end() {
        System.out.println(checks - failures + " answers as due, " + failures + " not");
        if (failures != 0) {
            System.exit(1);
        }
    }

    /** Feeds a text, filled up with spaces to whole feeds. */
    static void feed(CountHall hall, String text) {
        for (int at = 0; at < text.length(); at += 20) {
            int[] words = new int[5];
            for (int i = 0; i < 20; i++) {
                char sign = at + i < text.length() ? text.charAt(at + i) : ' ';
                words[i / 4] |= (sign & 255) << 24 - i % 4 * 8;
            }
            hall.feed(words[0], words[1], words[2], words[3], words[4]);
        }
    }

    static int load(CountHall hall, String text) {
        feed(hall, text);
        return hall.load(text.length());
    }

    static CountHall hall(String text) {
        CountHall hall = new CountHall();
        int answer = load(hall, text);
        if (answer < 0) {
            throw new IllegalStateException("the test's text has error " + answer + " at " + hall.errorPosition() + ": " + text);
        }
        return hall;
    }

    static int letters(String name) {
        int letters = 0;
        for (int i = 0; i < 6; i++) {
            letters = letters * 32 + (i < name.length() ? name.charAt(i) - 'a' + 1 : 0);
        }
        return letters;
    }

    static String output(CountHall hall) {
        StringBuilder text = new StringBuilder();
        for (int i = 0; hall.outputAt(i) >= 0; i++) {
            text.append((char) hall.outputAt(i));
        }
        return text.toString();
    }

    /** Lets a table count a box that is in the hall, and seals it again. */
    static void count(CountHall hall, int box, int table) {
        if (hall.open(box, table) < 0 || hall.countBox(table) < 0 || hall.seal(table) < 0) {
            throw new IllegalStateException("box " + box + " cannot be counted at table " + table);
        }
    }
}
