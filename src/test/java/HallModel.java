import java.math.BigInteger;
import java.util.ArrayList;
import java.util.Arrays;
import java.util.List;
import java.util.stream.IntStream;

/**
 * The document once more, written for plainness and apart from CountHall: papers are gone through one by one,
 * whatever follows from the counts is found anew at each call, and each change copies the whole hall.
 */
public final class HallModel {
    private static final class LoadError extends RuntimeException {
        private static final long serialVersionUID = 1;
        final int code;
        final int position;

        LoadError(int code, int position) {
            this.code = code;
            this.position = position;
        }
    }

    private record Token(String text, int position) {
        boolean isWord() {
            return text.matches("[a-z]+");
        }

        boolean isInteger() {
            return text.matches("[0-9]+");
        }

        boolean isName() {
            return text.matches("[a-z]{1,6}") && !List.of("party", "region", "in", "ward", "box", "table", "set").contains(text);
        }
    }

    private record Count(int table, List<Integer> found) {
        boolean agrees(Count other) {
            return table != other.table && found.equals(other.found);
        }
    }

    private static final class Box {
        String name;
        int ward;
        int issued;
        List<Integer> papers = new ArrayList<>();
        int place = -3;
        int seal;
        List<Integer> ledger = new ArrayList<>();
        List<Count> counts = new ArrayList<>();

        Box copy() {
            Box copy = new Box();
            copy.name = name;
            copy.ward = ward;
            copy.issued = issued;
            copy.papers = papers;
            copy.place = place;
            copy.seal = seal;
            copy.ledger = new ArrayList<>(ledger);
            copy.counts = new ArrayList<>(counts);
            return copy;
        }

        boolean good() {
            return place < 0 && seal == ledger.get(ledger.size() - 1);
        }

        Count firstConfirmed() {
            for (Count count : counts) {
                if (counts.stream().anyMatch(count::agrees)) {
                    return count;
                }
            }
            return null;
        }

        Count valid() {
            if (counts.isEmpty()) {
                return null;
            }
            return firstConfirmed() != null ? firstConfirmed() : counts.get(counts.size() - 1);
        }

        int found(int pile) {
            return valid() == null ? 0 : valid().found.get(pile);
        }
    }

    private static final class World {
        List<String> parties = new ArrayList<>();
        List<String> regions = new ArrayList<>();
        List<Integer> around = new ArrayList<>();
        List<String> wards = new ArrayList<>();
        List<Integer> wardRegions = new ArrayList<>();
        List<Box> boxes = new ArrayList<>();
        List<Integer> slips = new ArrayList<>();
        int[] settings = {5, 0};
        List<Integer> declared = new ArrayList<>();
        int nextSeal = 5000;

        World copy() {
            World copy = new World();
            copy.parties = parties;
            copy.regions = regions;
            copy.around = around;
            copy.wards = wards;
            copy.wardRegions = wardRegions;
            copy.slips = slips;
            for (Box box : boxes) {
                copy.boxes.add(box.copy());
            }
            copy.settings = settings.clone();
            copy.declared = new ArrayList<>(declared);
            copy.nextSeal = nextSeal;
            return copy;
        }
    }

    private World world = new World();
    private final List<World> kept = new ArrayList<>();
    private final List<Integer> input = new ArrayList<>();
    private String output = "";
    private int errorPosition = -1;

    // Loading.

    public int feed(int a, int b, int c, int d, int e) {
        if (input.size() + 20 > 900) {
            return -5;
        }
        for (int word : new int[] {a, b, c, d, e}) {
            for (int shift = 24; shift >= 0; shift -= 8) {
                input.add(word >>> shift & 255);
            }
        }
        return input.size();
    }

    public int load(int length) {
        if (length < 0 || length > input.size()) {
            return -2;
        }
        StringBuilder text = new StringBuilder();
        for (int sign : input.subList(0, length)) {
            text.append((char) sign);
        }
        input.clear();
        try {
            World loaded = new World();
            int statements = parse(tokens(text.toString()), loaded);
            world = loaded;
            kept.clear();
            errorPosition = -1;
            return statements;
        } catch (LoadError error) {
            errorPosition = error.position;
            return error.code;
        }
    }

    private static List<Token> tokens(String text) {
        List<Token> tokens = new ArrayList<>();
        java.util.regex.Matcher matcher = java.util.regex.Pattern.compile("[a-z]+|[0-9]+|[^ \n]", java.util.regex.Pattern.DOTALL).matcher(text);
        while (matcher.find()) {
            tokens.add(new Token(matcher.group(), matcher.start()));
        }
        tokens.add(new Token("", text.length()));
        return tokens;
    }

    private static void demand(boolean right, int code, Token token) {
        if (!right) {
            throw new LoadError(code, token.position);
        }
    }

    private static int number(Token token, int least, int most) {
        demand(token.isInteger(), -11, token);
        BigInteger value = new BigInteger(token.text);
        demand(value.compareTo(BigInteger.valueOf(least)) >= 0 && value.compareTo(BigInteger.valueOf(most)) <= 0, -12, token);
        return value.intValue();
    }

    private static String newName(Token token, List<String> taken) {
        demand(token.isName(), -11, token);
        demand(!taken.contains(token.text), -14, token);
        return token.text;
    }

    private static int oldName(Token token, List<String> known) {
        demand(token.isName(), -11, token);
        demand(known.contains(token.text), -13, token);
        return known.indexOf(token.text);
    }

    private static List<String> boxNames(World w) {
        return w.boxes.stream().map(box -> box.name).toList();
    }

    private static int parse(List<Token> tokens, World w) {
        int at = 0;
        int statements = 0;
        boolean[] given = new boolean[2];
        while (!tokens.get(at).text.isEmpty()) {
            Token first = tokens.get(at++);
            switch (first.text) {
                case "party" -> {
                    demand(w.boxes.isEmpty(), -11, first);
                    demand(w.parties.size() < 5, -15, first);
                    w.parties.add(newName(tokens.get(at++), w.parties));
                }
                case "region" -> {
                    demand(w.regions.size() < 5, -15, first);
                    String name = newName(tokens.get(at++), w.regions);
                    int around = -1;
                    if (tokens.get(at).text.equals("in")) {
                        around = oldName(tokens.get(at + 1), w.regions);
                        at += 2;
                    }
                    w.regions.add(name);
                    w.around.add(around);
                }
                case "ward" -> {
                    demand(w.wards.size() < 6, -15, first);
                    w.wards.add(newName(tokens.get(at++), w.wards));
                    w.wardRegions.add(oldName(tokens.get(at++), w.regions));
                }
                case "box" -> {
                    demand(w.boxes.size() < 12, -15, first);
                    Box box = new Box();
                    box.name = newName(tokens.get(at++), boxNames(w));
                    box.ward = oldName(tokens.get(at++), w.wards);
                    box.issued = number(tokens.get(at++), 0, 999);
                    box.seal = number(tokens.get(at++), 1, 9999);
                    box.ledger.add(box.seal);
                    for (int pile = 0; pile <= w.parties.size(); pile++) {
                        box.papers.add(number(tokens.get(at++), 0, 300));
                    }
                    w.boxes.add(box);
                }
                case "table" -> {
                    demand(w.slips.size() < 4, -15, first);
                    w.slips.add(number(tokens.get(at++), 0, 99));
                }
                case "set" -> {
                    Token setting = tokens.get(at++);
                    int index = List.of("trigger", "tolerance").indexOf(setting.text);
                    demand(index >= 0, -11, setting);
                    demand(!given[index], -14, setting);
                    given[index] = true;
                    w.settings[index] = number(tokens.get(at++), 0, index == 0 ? 50 : 9);
                }
                default -> demand(false, -11, first);
            }
            demand(tokens.get(at).text.equals(";"), -11, tokens.get(at));
            at++;
            statements++;
        }
        return statements;
    }

    // Answers.

    public int errorPosition() {
        return errorPosition;
    }

    public int count(int what) {
        return switch (what) {
            case 0 -> world.parties.size();
            case 1 -> world.regions.size();
            case 2 -> world.wards.size();
            case 3 -> world.boxes.size();
            case 4 -> world.slips.size();
            default -> -2;
        };
    }

    public int undoCount() {
        return kept.size();
    }

    public int named(int what, int letters) {
        if (what < 0 || what > 3) {
            return -2;
        }
        List<String> names = List.of(world.parties, world.regions, world.wards, boxNames(world)).get(what);
        for (String name : names) {
            if (Check.letters(name) == letters) {
                return names.indexOf(name);
            }
        }
        return -1;
    }

    public int getSetting(int setting) {
        return setting == 0 || setting == 1 ? world.settings[setting] : -2;
    }

    private static void in(int index, List<?> list) {
        if (index < 0 || index >= list.size()) {
            throw new IndexOutOfBoundsException();
        }
    }

    private Box box(int box) {
        in(box, world.boxes);
        return world.boxes.get(box);
    }

    private boolean noPile(int pile) {
        return pile < 0 || pile > world.parties.size();
    }

    public int regionAround(int region) {
        in(region, world.regions);
        return world.around.get(region);
    }

    public int regionOf(int ward) {
        in(ward, world.wards);
        return world.wardRegions.get(ward);
    }

    private boolean within(int inner, int outer) {
        return inner == outer || inner >= 0 && within(world.around.get(inner), outer);
    }

    private IntStream wards(int region) {
        return IntStream.range(0, world.wards.size()).filter(ward -> within(world.wardRegions.get(ward), region));
    }

    public int wardsIn(int region) {
        in(region, world.regions);
        return wards(region).map(ward -> 1 << ward).sum();
    }

    public int depthOf(int region) {
        in(region, world.regions);
        return world.around.get(region) < 0 ? 0 : 1 + depthOf(world.around.get(region));
    }

    public int boxProperty(int box, int what) {
        Box b = box(box);
        return switch (what) {
            case 0 -> b.ward;
            case 1 -> b.issued;
            case 2 -> b.place >= 0 ? 0 : b.seal;
            case 3 -> b.counts.size();
            default -> -2;
        };
    }

    public int placeOf(int box) {
        return box(box).place;
    }

    public int papers(int box, int pile) {
        Box b = box(box);
        return noPile(pile) ? -2 : b.papers.get(pile);
    }

    public boolean isSealGood(int box) {
        return box(box).good();
    }

    public int ledgerSize(int box) {
        return box(box).ledger.size();
    }

    public int ledger(int box, int entry) {
        List<Integer> ledger = box(box).ledger;
        return entry < 0 || entry >= ledger.size() ? -1 : ledger.get(entry);
    }

    private int at(int table) {
        for (int box = 0; box < world.boxes.size(); box++) {
            if (world.boxes.get(box).place == table) {
                return box;
            }
        }
        return -1;
    }

    public int boxAt(int table) {
        in(table, world.slips);
        return at(table);
    }

    public int slipOf(int table) {
        in(table, world.slips);
        return world.slips.get(table);
    }

    public int counted(int box, int count, int pile) {
        List<Count> counts = box(box).counts;
        if (count < 0 || count >= counts.size()) {
            return -1;
        }
        return noPile(pile) ? -2 : counts.get(count).found.get(pile);
    }

    public int countedAt(int box, int count) {
        List<Count> counts = box(box).counts;
        return count < 0 || count >= counts.size() ? -1 : counts.get(count).table;
    }

    private Count wouldBe(int table, Box box) {
        int slip = world.slips.get(table);
        Integer[] found = new Integer[box.papers.size()];
        Arrays.fill(found, 0);
        int number = 0;
        for (int pile = 0; pile < found.length; pile++) {
            for (int paper = 0; paper < box.papers.get(pile); paper++) {
                number++;
                found[slip > 0 && number % slip == 0 ? (pile + 1) % found.length : pile]++;
            }
        }
        return new Count(table, Arrays.asList(found));
    }

    public int wouldCount(int table, int box, int pile) {
        in(table, world.slips);
        Box b = box(box);
        return noPile(pile) ? -2 : wouldBe(table, b).found.get(pile);
    }

    public boolean isConfirmed(int box) {
        return box(box).firstConfirmed() != null;
    }

    public int result(int box, int pile) {
        Box b = box(box);
        if (b.counts.isEmpty()) {
            return -1;
        }
        return noPile(pile) ? -2 : b.found(pile);
    }

    public int surplus(int box) {
        Box b = box(box);
        return b.counts.isEmpty() ? 0 : b.valid().found.stream().mapToInt(i -> i).sum() - b.issued;
    }

    public boolean isOff(int box) {
        return Math.abs(surplus(box)) > world.settings[1];
    }

    private IntStream boxes(int ward) {
        return IntStream.range(0, world.boxes.size()).filter(box -> world.boxes.get(box).ward == ward);
    }

    public int wardVotes(int ward, int pile) {
        in(ward, world.wards);
        return noPile(pile) ? -2 : boxes(ward).map(box -> box(box).found(pile)).sum();
    }

    private int[] votes(int ward) {
        return IntStream.range(0, world.parties.size()).map(party -> wardVotes(ward, party)).toArray();
    }

    public int leader(int ward) {
        in(ward, world.wards);
        int[] votes = votes(ward);
        int most = Arrays.stream(votes).max().orElse(0);
        return most == 0 ? -1 : IntStream.range(0, votes.length).filter(party -> votes[party] == most).findFirst().getAsInt();
    }

    public int margin(int ward) {
        in(ward, world.wards);
        int[] votes = votes(ward);
        Arrays.sort(votes);
        int n = votes.length;
        return n == 0 ? 0 : votes[n - 1] - (n == 1 ? 0 : votes[n - 2]);
    }

    public boolean isClose(int ward) {
        in(ward, world.wards);
        int all = Arrays.stream(votes(ward)).sum();
        return all > 0 && margin(ward) * 100 <= world.settings[0] * all;
    }

    public int whyNot(int ward) {
        in(ward, world.wards);
        if (world.declared.contains(ward)) {
            return 1;
        }
        if (boxes(ward).count() == 0 || boxes(ward).anyMatch(box -> box(box).counts.isEmpty())) {
            return 2;
        }
        if (boxes(ward).anyMatch(box -> placeOf(box) != -4)) {
            return 3;
        }
        if (boxes(ward).anyMatch(box -> isOff(box) && !isConfirmed(box))) {
            return 4;
        }
        return isClose(ward) && boxes(ward).anyMatch(box -> !isConfirmed(box)) ? 5 : 0;
    }

    public int toCount() {
        int set = 0;
        for (int ward = 0; ward < world.wards.size(); ward++) {
            for (int box : boxes(ward).toArray()) {
                boolean again = (isOff(box) || isClose(ward)) && !isConfirmed(box);
                if (!world.declared.contains(ward) && (box(box).counts.isEmpty() || again)) {
                    set |= 1 << box;
                }
            }
        }
        return set;
    }

    public int countsLeft(int box) {
        return left(box(box).copy(), 0);
    }

    /** Tries all ways to count the box at most twice more. */
    private int left(Box box, int made) {
        if (box.firstConfirmed() != null) {
            return made;
        }
        int least = -1;
        for (int table = 0; table < world.slips.size() && box.counts.size() < 4 && made < 2; table++) {
            Box more = box.copy();
            more.counts.add(wouldBe(table, box));
            int left = left(more, made + 1);
            least = least < 0 ? left : left < 0 ? least : Math.min(left, least);
        }
        return least;
    }

    public int rightTable(int box) {
        Box b = box(box);
        return IntStream.range(0, world.slips.size()).filter(table -> wouldBe(table, b).found.equals(b.papers)).findFirst().orElse(-1);
    }

    public int nextWard() {
        int best = -1;
        long fewest = Long.MAX_VALUE;
        for (int ward = 0; ward < world.wards.size(); ward++) {
            long papers = boxes(ward).flatMap(box -> IntStream.rangeClosed(0, world.parties.size()).map(pile -> box(box).found(pile))).sum();
            if (whyNot(ward) == 0 && papers < fewest) {
                fewest = papers;
                best = ward;
            }
        }
        return best;
    }

    public int declaredCount() {
        return world.declared.size();
    }

    public int declared(int k) {
        return k < 0 || k >= world.declared.size() ? -1 : world.declared.get(k);
    }

    public boolean isRegionDeclared(int region) {
        return wardsIn(region) != 0 && wards(region).allMatch(world.declared::contains);
    }

    private IntStream declaredIn(int region) {
        return wards(region).filter(world.declared::contains);
    }

    public int regionVotes(int region, int party) {
        in(region, world.regions);
        return party == world.parties.size() || noPile(party) ? -2 : declaredIn(region).map(ward -> wardVotes(ward, party)).sum();
    }

    public int regionSeats(int region, int party) {
        in(region, world.regions);
        return party == world.parties.size() || noPile(party) ? -2 : (int) declaredIn(region).filter(ward -> leader(ward) == party).count();
    }

    public boolean isDecided(int region) {
        in(region, world.regions);
        int open = (int) (wards(region).count() - declaredIn(region).count());
        int[] seats = IntStream.range(0, world.parties.size()).map(party -> regionSeats(region, party)).toArray();
        return IntStream.range(0, seats.length).anyMatch(p ->
                IntStream.range(0, seats.length).allMatch(q -> p == q || seats[p] > seats[q] + open));
    }

    public int misplaced() {
        int sum = 0;
        for (Box box : world.boxes) {
            for (int pile = 0; pile <= world.parties.size() && !box.counts.isEmpty(); pile++) {
                sum += Math.abs(box.found(pile) - box.papers.get(pile));
            }
        }
        return sum / 2;
    }

    public int worstTable() {
        int[] wrong = new int[world.slips.size()];
        for (Box box : world.boxes) {
            for (Count count : box.counts) {
                wrong[count.table] += count.found.equals(box.papers) ? 0 : 1;
            }
        }
        int most = Arrays.stream(wrong).max().orElse(0);
        return most == 0 ? -1 : IntStream.range(0, wrong.length).filter(table -> wrong[table] == most).findFirst().getAsInt();
    }

    // Changes.

    private void change() {
        kept.add(world.copy());
        if (kept.size() > 10) {
            kept.remove(0);
        }
    }

    private boolean none(int index, List<?> list) {
        return index < 0 || index >= list.size();
    }

    public int bring(int box) {
        if (none(box, world.boxes)) {
            return -1;
        }
        if (placeOf(box) != -3) {
            return -6;
        }
        change();
        box(box).place = -4;
        return (int) world.boxes.stream().filter(b -> b.place == -4).count();
    }

    public int open(int box, int table) {
        if (none(box, world.boxes) || none(table, world.slips)) {
            return -1;
        }
        Box b = box(box);
        if (b.place != -4 || at(table) >= 0 || world.declared.contains(b.ward)) {
            return -6;
        }
        if (!b.good()) {
            return -7;
        }
        change();
        b.place = table;
        return b.seal;
    }

    public int countBox(int table) {
        if (none(table, world.slips)) {
            return -1;
        }
        if (at(table) < 0) {
            return -6;
        }
        Box b = box(at(table));
        if (b.counts.size() == 4) {
            return -5;
        }
        change();
        b.counts.add(wouldBe(table, b));
        return b.counts.size();
    }

    private int reseal(Box b) {
        b.place = -4;
        b.seal = world.nextSeal++;
        b.ledger.add(b.seal);
        return b.seal;
    }

    public int seal(int table) {
        if (none(table, world.slips)) {
            return -1;
        }
        if (at(table) < 0) {
            return -6;
        }
        Box b = box(at(table));
        if (b.ledger.size() == 12) {
            return -5;
        }
        change();
        return reseal(b);
    }

    public int tamper(int box, int seal) {
        if (none(box, world.boxes)) {
            return -1;
        }
        if (seal < 1 || seal > 9999) {
            return -2;
        }
        Box b = box(box);
        if (b.place >= 0) {
            return -6;
        }
        change();
        int before = b.seal;
        b.seal = seal;
        return before;
    }

    public int accept(int box) {
        if (none(box, world.boxes)) {
            return -1;
        }
        Box b = box(box);
        if (b.place >= 0 || b.good()) {
            return -6;
        }
        if (b.ledger.size() == 12) {
            return -5;
        }
        change();
        b.ledger.add(b.seal);
        return b.ledger.size();
    }

    public int declare() {
        int ward = nextWard();
        if (ward >= 0) {
            change();
            world.declared.add(ward);
        }
        return ward;
    }

    public int work() {
        change();
        int due = toCount();
        for (int table = 0; table < world.slips.size(); table++) {
            for (int box = 0; box < world.boxes.size() && at(table) < 0; box++) {
                Box b = box(box);
                int here = table;
                if ((due & 1 << box) != 0 && b.place == -4 && b.good() && b.counts.stream().noneMatch(c -> c.table == here)) {
                    b.place = table;
                }
            }
        }
        int made = 0;
        for (int table = 0; table < world.slips.size(); table++) {
            if (at(table) >= 0) {
                Box b = box(at(table));
                if (b.counts.size() < 4) {
                    b.counts.add(wouldBe(table, b));
                    made++;
                }
                if (b.ledger.size() < 12) {
                    reseal(b);
                }
            }
        }
        return made;
    }

    public int setSetting(int setting, int value) {
        if (setting < 0 || setting > 1 || value < 0 || value > (setting == 0 ? 50 : 9)) {
            return -2;
        }
        change();
        int before = world.settings[setting];
        world.settings[setting] = value;
        return before;
    }

    public int undo() {
        if (kept.isEmpty()) {
            return -1;
        }
        world = kept.remove(kept.size() - 1);
        return kept.size();
    }

    public int write(int ward) {
        in(ward, world.wards);
        StringBuilder text = new StringBuilder(world.wards.get(ward));
        for (int party = 0; party < world.parties.size(); party++) {
            text.append(" " + world.parties.get(party) + "=" + wardVotes(ward, party));
        }
        output = text + (world.declared.contains(ward) ? " !" : "");
        return output.length();
    }

    public int outputAt(int index) {
        return index < 0 || index >= output.length() ? -1 : output.charAt(index);
    }
}
