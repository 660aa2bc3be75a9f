import java.util.function.IntSupplier;
import java.util.function.IntUnaryOperator;
import java.util.function.Supplier;
import java.util.function.ToIntFunction;

/** Counts answers that are not the due ones, and helps tests to make halls. */
final class Check {
    private int checks;
    private int failures;

    void due(String call, long got, long want) {
        checks++;
        if (got != want) {
            failures++;
            System.out.println(call + " answered " + got + ", due is " + want);
        }
    }

    void holds(String call, boolean got) {
        due(call, got ? 1 : 0, 1);
    }

    void fails(String call, boolean got) {
        due(call, got ? 1 : 0, 0);
    }

    void outside(String call, IntSupplier asked) {
        checks++;
        try {
            int got = asked.getAsInt();
            failures++;
            System.out.println(call + " answered " + got + ", due is an IndexOutOfBoundsException");
        } catch (IndexOutOfBoundsException thrown) {
            if (thrown.getClass() != IndexOutOfBoundsException.class) {
                failures++;
                System.out.println(call + " threw " + thrown + ": that is the machine's");
            }
        }
    }

    /** An index that is one too low, one too high, and far off on both sides. */
    void outside(String call, int number, IntUnaryOperator asked) {
        for (int index : new int[] {-1, number, Integer.MIN_VALUE, Integer.MAX_VALUE}) {
            outside(call + "(" + index + ")", () -> asked.applyAsInt(index));
        }
    }

    /** Two halls that answer the same, but for the input buffer. */
    void same(String call, CountHall got, CountHall want) {
        due("undoCount, " + call, got.undoCount(), want.undoCount());
        due("errorPosition, " + call, got.errorPosition(), want.errorPosition());
        holds("the same output, " + call, output(got).equals(output(want)));
        holds("the same answers, " + call, everything(got).equals(everything(want)));
    }

    /** A call that answers with an error code, and leaves the hall as one that was made in the same way without the call. */
    void refused(String call, Supplier<CountHall> made, ToIntFunction<CountHall> asked, int code) {
        CountHall hall = made.get();
        due(call, asked.applyAsInt(hall), code);
        same("after " + call, hall, made.get());
    }

    boolean isWrong() {
        return failures > 0;
    }

    boolean isUsed() {
        return checks > 0;
    }

    void add(Check other) {
        checks += other.checks;
        failures += other.failures;
    }

    void end() {
        System.out.println(checks - failures + " answers as due, " + failures + " not");
        if (failures != 0) {
            System.exit(1);
        }
    }

    /** Feeds a text, filled up with spaces to whole feeds. */
    static void feed(CountHall hall, String text) {
        for (int at = 0; at < text.length(); at += 20) {
            int[] words = new int[5];
            for (int i = 0; i < 20; i++) {
                char sign = at + i < text.length() ? text.charAt(at + i) : ' ';
                words[i / 4] |= (sign & 255) << 24 - i % 4 * 8;
            }
            hall.feed(words[0], words[1], words[2], words[3], words[4]);
        }
    }

    static int load(CountHall hall, String text) {
        feed(hall, text);
        return hall.load(text.length());
    }

    static CountHall hall(String text) {
        CountHall hall = new CountHall();
        int answer = load(hall, text);
        if (answer < 0) {
            throw new IllegalStateException("the test's text has error " + answer + " at " + hall.errorPosition() + ": " + text);
        }
        return hall;
    }

    static int letters(String name) {
        int letters = 0;
        for (int i = 0; i < 6; i++) {
            letters = letters * 32 + (i < name.length() ? name.charAt(i) - 'a' + 1 : 0);
        }
        return letters;
    }

    static String output(CountHall hall) {
        StringBuilder text = new StringBuilder();
        for (int i = 0; hall.outputAt(i) >= 0; i++) {
            text.append((char) hall.outputAt(i));
        }
        return text.toString();
    }

    /** Lets a table count a box that is in the hall, and seals it again. */
    static void count(CountHall hall, int box, int table) {
        if (hall.open(box, table) < 0 || hall.countBox(table) < 0 || hall.seal(table) < 0) {
            throw new IllegalStateException("box " + box + " cannot be counted at table " + table);
        }
    }

    /** All that a hall answers about itself, but for its buffers and the error position. */
    static String everything(CountHall hall) {
        StringBuilder all = new StringBuilder();
        int piles = hall.count(0) + 1;
        put(all, "hall", hall.count(0), hall.count(1), hall.count(2), hall.count(3), hall.count(4), hall.getSetting(0),
                hall.getSetting(1), hall.toCount(), hall.nextWard(), hall.declaredCount(), hall.misplaced(), hall.worstTable());
        for (int k = 0; k < 7; k++) {
            put(all, "declared", hall.declared(k));
        }
        for (int region = 0; region < hall.count(1); region++) {
            put(all, "region", hall.regionAround(region), hall.wardsIn(region), hall.depthOf(region),
                    bit(hall.isRegionDeclared(region)), bit(hall.isDecided(region)));
            for (int party = 0; party < piles; party++) {
                put(all, "party", hall.regionVotes(region, party), hall.regionSeats(region, party));
            }
        }
        for (int ward = 0; ward < hall.count(2); ward++) {
            put(all, "ward", hall.regionOf(ward), hall.leader(ward), hall.margin(ward), bit(hall.isClose(ward)), hall.whyNot(ward));
            for (int pile = 0; pile <= piles; pile++) {
                put(all, "votes", hall.wardVotes(ward, pile));
            }
        }
        for (int box = 0; box < hall.count(3); box++) {
            putBox(all, hall, box, piles);
        }
        for (int table = 0; table < hall.count(4); table++) {
            put(all, "table", hall.boxAt(table), hall.slipOf(table));
        }
        return all.toString();
    }

    private static void putBox(StringBuilder all, CountHall hall, int box, int piles) {
        put(all, "box", hall.boxProperty(box, 0), hall.boxProperty(box, 1), hall.boxProperty(box, 2), hall.boxProperty(box, 3),
                hall.placeOf(box), bit(hall.isSealGood(box)), hall.ledgerSize(box), bit(hall.isConfirmed(box)),
                hall.surplus(box), bit(hall.isOff(box)), hall.countsLeft(box), hall.rightTable(box));
        for (int entry = 0; entry < 13; entry++) {
            put(all, "entry", hall.ledger(box, entry));
        }
        for (int pile = 0; pile <= piles; pile++) {
            put(all, "pile", hall.papers(box, pile), hall.result(box, pile));
            for (int count = 0; count < 5; count++) {
                put(all, "count", hall.countedAt(box, count), hall.counted(box, count, pile));
            }
            for (int table = 0; table < hall.count(4); table++) {
                put(all, "would", hall.wouldCount(table, box, pile));
            }
        }
    }

    private static void put(StringBuilder all, String what, int... answers) {
        all.append(what).append(java.util.Arrays.toString(answers)).append('\n');
    }

    static int bit(boolean answer) {
        return answer ? 1 : 0;
    }
}
