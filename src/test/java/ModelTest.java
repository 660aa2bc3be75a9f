import java.lang.reflect.InvocationTargetException;
import java.lang.reflect.Method;
import java.lang.reflect.Modifier;
import java.util.ArrayList;
import java.util.Arrays;
import java.util.Comparator;
import java.util.HashMap;
import java.util.List;
import java.util.Map;

/** Long runs of calls, the same for CountHall and for HallModel: all their answers must be the same. */
final class ModelTest {
    private static final int RUNS = 3000;
    private static final int CALLS = 511;
    private static final String[] WORDS = {"party", "region", "in", "ward", "box", "table", "set", "trigger", "tolerance",
        ";", ";", "0", "1", "5", "50", "51", "9999", "10000", "301", "1000", "a", "b", "c", "abcdef", "abcdefg", "?", "\u00e9", "\t"};

    private final int run;
    private long seed;
    private final CountHall hall = new CountHall();
    private final HallModel model = new HallModel();
    private final Map<String, Method> halls;
    private final Map<String, Method> models;
    private final List<String> trace = new ArrayList<>();
    private int calls;
    private boolean wrong;

    private ModelTest(int run, Map<String, Method> halls, Map<String, Method> models) {
        this.run = run;
        this.seed = run * 7919L + 17;
        this.halls = halls;
        this.models = models;
    }

    public static void main(String[] args) {
        Map<String, Method> halls = methods(CountHall.class);
        Map<String, Method> models = methods(HallModel.class);
        int failed = 0;
        for (int run = 0; run < RUNS && failed < 5; run++) {
            ModelTest test = new ModelTest(run, halls, models);
            test.play();
            failed += test.wrong ? 1 : 0;
        }
        System.out.println(failed == 0 ? RUNS + " runs as the model's" : failed + " runs are not as the model's");
        if (failed != 0) {
            System.exit(1);
        }
    }

    private static Map<String, Method> methods(Class<?> type) {
        Map<String, Method> methods = new HashMap<>();
        for (Method method : type.getDeclaredMethods()) {
            if (Modifier.isPublic(method.getModifiers())) {
                methods.put(method.getName(), method);
            }
        }
        return methods;
    }

    /** A number from 0 to below, always the same ones for the same run. */
    private int pick(int below) {
        seed = seed * 6364136223846793005L + 1442695040888963407L;
        return (int) ((seed >>> 33) % below);
    }

    private boolean chance(int percent) {
        return pick(100) < percent;
    }

    private static String answer(Method method, Object object, Object[] arguments) {
        try {
            return String.valueOf(method.invoke(object, arguments));
        } catch (InvocationTargetException thrown) {
            return "throws " + thrown.getCause().getClass().getName();
        } catch (IllegalAccessException impossible) {
            throw new IllegalStateException(impossible);
        }
    }

    private String call(String name, int... numbers) {
        Object[] arguments = Arrays.stream(numbers).boxed().toArray();
        String got = answer(halls.get(name), hall, arguments);
        String due = answer(models.get(name), model, arguments);
        trace.add(name + Arrays.toString(numbers) + " = " + got);
        calls++;
        if (!got.equals(due) && !wrong) {
            wrong = true;
            System.out.println("run " + run + ": due is " + due + " at the end of");
            trace.subList(Math.max(0, trace.size() - 60), trace.size()).forEach(row -> System.out.println("  " + row));
        }
        return got;
    }

    private void play() {
        load(chance(70) ? goodText() : damaged(goodText()));
        while (calls < CALLS && !wrong) {
            if (chance(1)) {
                load(chance(50) ? goodText() : damaged(goodText()));
            } else if (chance(55)) {
                change();
            } else {
                ask();
            }
        }
    }

    private void load(String text) {
        if (text.length() > 900) {
            text = text.substring(0, 900);
        }
        for (int at = 0; at < text.length(); at += 20) {
            int[] words = new int[5];
            for (int i = 0; i < 20; i++) {
                words[i / 4] = words[i / 4] << 8 | (at + i < text.length() ? text.charAt(at + i) & 255 : 32);
            }
            call("feed", words);
        }
        trace.add("  the text is " + text);
        call("load", chance(97) ? text.length() : pick(920) - 10);
        call("errorPosition");
        for (int what = 0; what < 5; what++) {
            call("count", what);
        }
    }

    private static String name(int index) {
        return new String[] {"a", "b", "cc", "dde", "zyxwvu", "e", "f", "g", "h", "i", "j", "k"}[index];
    }

    private String goodText() {
        int parties = pick(4) + (chance(20) ? 2 : 0);
        int regions = 1 + pick(5);
        int wards = 1 + pick(6);
        int boxes = chance(30) ? pick(13) : 1 + pick(5);
        int tables = pick(5);
        List<String> rows = new ArrayList<>();
        for (int i = 0; i < regions; i++) {
            rows.add("region " + name(i) + (i > 0 && chance(60) ? " in " + name(pick(i)) : ""));
        }
        for (int i = 0; i < wards; i++) {
            rows.add("ward " + name(i) + " " + name(pick(regions)));
        }
        int aheadOfBoxes = rows.size();
        for (int i = 0; i < boxes; i++) {
            rows.add(box(i, wards, parties));
        }
        boolean mixed = chance(50);
        for (int i = parties - 1; i >= 0; i--) {
            aheadOfBoxes = mixed ? pick(aheadOfBoxes + 1) : 0;
            rows.add(aheadOfBoxes, "party " + name(i));
        }
        int[] slips = {0, 0, 99, 1, 2, 3, 3, 7, 12, 40};
        for (int i = 0; i < tables; i++) {
            rows.add(place(rows, mixed), "table " + slips[pick(slips.length)]);
        }
        if (chance(50)) {
            rows.add(place(rows, mixed), "set trigger " + pick(51));
        }
        if (chance(50)) {
            rows.add(place(rows, mixed), "set tolerance " + pick(10));
        }
        String between = chance(80) ? ";" : " ;\n";
        return rows.isEmpty() ? "" : String.join(between, rows) + between;
    }

    /** Tables and settings may stand anywhere. */
    private int place(List<String> rows, boolean mixed) {
        return mixed ? pick(rows.size() + 1) : rows.size();
    }

    private String box(int index, int wards, int parties) {
        int most = chance(60) ? 8 : 301;
        int level = pick(most);
        int sum = 0;
        StringBuilder piles = new StringBuilder();
        for (int pile = 0; pile <= parties; pile++) {
            int papers = chance(40) ? level : pick(most);
            sum += papers;
            piles.append(" ").append(papers);
        }
        int issued = chance(60) ? sum : Math.max(0, sum + pick(21) - 10);
        return "box " + name(index) + " " + name(pick(Math.min(wards, 3))) + " " + Math.min(issued, 999) + " " + (1 + pick(20)) + piles;
    }

    /** The text with a few tokens exchanged, left out or doubled. */
    private String damaged(String text) {
        List<String> tokens = new ArrayList<>(Arrays.asList(text.replace(";", " ; ").trim().split("[ \n]+")));
        int damages = 1 + pick(2);
        for (int i = 0; i < damages && !tokens.isEmpty(); i++) {
            int at = pick(tokens.size());
            switch (pick(5)) {
                case 0 -> tokens.remove(at);
                case 1 -> tokens.add(at, tokens.get(pick(tokens.size())));
                case 2 -> tokens.set(at, tokens.get(pick(tokens.size())));
                case 3 -> tokens.add(at, WORDS[pick(WORDS.length)]);
                default -> tokens.set(at, WORDS[pick(WORDS.length)]);
            }
        }
        if (chance(15) && !tokens.isEmpty()) {
            tokens = tokens.subList(0, pick(tokens.size()));
        }
        return String.join(chance(80) ? " " : "\n ", tokens) + (chance(20) ? " " : "");
    }

    private int index(int number) {
        if (chance(3)) {
            return new int[] {-1, number, number + 1, Integer.MIN_VALUE, Integer.MAX_VALUE}[pick(5)];
        }
        return number == 0 ? 0 : pick(number);
    }

    private int aBox() {
        return index(model.count(3));
    }

    private int aTable() {
        return index(model.count(4));
    }

    private void change() {
        int which = pick(100);
        if (which < 18) {
            call("bring", aBox());
        } else if (which < 42) {
            call("open", aBox(), aTable());
        } else if (which < 60) {
            call("countBox", aTable());
        } else if (which < 76) {
            call("seal", aTable());
        } else if (which < 79) {
            call("tamper", aBox(), chance(10) ? pick(12000) - 1000 : 1 + pick(20));
        } else if (which < 84) {
            call("accept", aBox());
        } else if (which < 89) {
            call("declare");
        } else if (which < 93) {
            call("work");
        } else if (which < 96) {
            call("setSetting", index(2), pick(54) - 1);
        } else {
            int times = chance(10) ? 11 : 1 + pick(3);
            for (int i = 0; i < times && calls < CALLS; i++) {
                call("undo");
            }
        }
    }

    private void ask() {
        String[] names = halls.keySet().stream().sorted(Comparator.naturalOrder()).toArray(String[]::new);
        String name = names[pick(names.length)];
        switch (name) {
            case "load", "feed", "bring", "open", "countBox", "seal", "tamper", "accept", "declare", "work", "setSetting", "undo" -> call("toCount");
            case "named" -> call(name, index(4), Check.letters(name(pick(12))));
            case "count", "getSetting" -> call(name, pick(7) - 1);
            case "outputAt" -> call(name, pick(40) - 1);
            case "declared" -> call(name, pick(7) - 1);
            case "regionAround", "wardsIn", "depthOf", "isRegionDeclared", "isDecided" -> call(name, index(model.count(1)));
            case "regionVotes", "regionSeats" -> call(name, index(model.count(1)), index(model.count(0) + 1));
            case "regionOf", "leader", "margin", "isClose", "whyNot", "write" -> call(name, index(model.count(2)));
            case "wardVotes" -> call(name, index(model.count(2)), index(model.count(0) + 1));
            case "boxAt", "slipOf" -> call(name, aTable());
            case "wouldCount" -> call(name, aTable(), aBox(), index(model.count(0) + 1));
            case "boxProperty" -> call(name, aBox(), pick(6) - 1);
            case "papers", "result" -> call(name, aBox(), index(model.count(0) + 1));
            case "ledger" -> call(name, aBox(), index(13));
            case "countedAt" -> call(name, aBox(), index(4));
            case "counted" -> call(name, aBox(), index(4), index(model.count(0) + 1));
            default -> {
                if (halls.get(name).getParameterCount() == 0) {
                    call(name);
                } else {
                    call(name, aBox());
                }
            }
        }
    }
}
