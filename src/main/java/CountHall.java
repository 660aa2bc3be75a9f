/** A hall in which the boxes of an election are counted, as ../shared/DOC.md describes it. */
public final class CountHall {
    public static final int AWAY = -3, HALL = -4;
    public static final int TRIGGER = 0, TOLERANCE = 1;
    public static final int NOT_FOUND = -1;
    public static final int BAD_VALUE = -2;
    public static final int FULL = -5;
    public static final int NOT_ALLOWED = -6;
    public static final int BAD_SEAL = -7;
    public static final int SYNTAX_ERROR = -11, RANGE_ERROR = -12, NAME_ERROR = -13, DUPLICATE_ERROR = -14, COUNT_ERROR = -15;

    // The sorts of things, numbered as count and named number them.
    private static final int PARTIES = 0, REGIONS = 1, WARDS = 2, BOXES = 3, TABLES = 4;
    private static final int SORTS = 5;

    private static final int MOST_PARTIES = 5, MOST_REGIONS = 5, MOST_WARDS = 6, MOST_BOXES = 12, MOST_TABLES = 4;
    private static final int MOST_PILES = MOST_PARTIES + 1;
    private static final int MOST_COUNTS = 4;
    private static final int MOST_ENTRIES = 12;
    private static final int MOST_CHANGES = 10;
    private static final int MOST_BYTES = 900, BYTES_A_FEED = 20;
    private static final int MOST_LETTERS = 6, BITS_A_LETTER = 5;

    private static final int SETTINGS = 2;
    private static final int MOST_TRIGGER = 50, MOST_TOLERANCE = 9;
    private static final int FIRST_TRIGGER = 5, FIRST_TOLERANCE = 0;

    private static final int MOST_ISSUED = 999, MOST_SEAL = 9999, MOST_PAPERS = 300, MOST_SLIP = 99;
    private static final int FIRST_NEW_SEAL = 5000;

    private final Loader loader = new Loader();
    private final Hall hall = new Hall();
    private final History history = new History();
    private final StringBuilder output = new StringBuilder();
    private int lastErrorAt = NOT_FOUND;

    public CountHall() {
    }

    public int feed(int a, int b, int c, int d, int e) {
        Input input = loader.input;
        if (input.filled + BYTES_A_FEED > MOST_BYTES) {
            return FULL;
        }
        input.append(a);
        input.append(b);
        input.append(c);
        input.append(d);
        input.append(e);
        return input.filled;
    }

    public int load(int length) {
        if (length < 0 || length > loader.input.filled) {
            return BAD_VALUE;
        }
        int outcome = loader.readText(length);
        lastErrorAt = loader.errorAt;
        if (outcome >= 0) {
            hall.begin(loader.exchange(hall.plan));
            history.size = 0;
        }
        return outcome;
    }

    public int errorPosition() {
        return lastErrorAt;
    }

    public int count(int what) {
        return what >= PARTIES && what <= TABLES ? hall.plan.number[what] : BAD_VALUE;
    }

    public int undoCount() {
        return history.size;
    }

    public int named(int what, int letters) {
        return what >= PARTIES && what <= BOXES ? hall.plan.find(what, letters) : BAD_VALUE;
    }

    public int getSetting(int setting) {
        return isSetting(setting) ? hall.now.settings[setting] : BAD_VALUE;
    }

    public int regionAround(int region) throws IndexOutOfBoundsException {
        demand(REGIONS, region);
        return hall.plan.around[region];
    }

    public int regionOf(int ward) throws IndexOutOfBoundsException {
        demand(WARDS, ward);
        return hall.plan.regions[ward];
    }

    public int wardsIn(int region) throws IndexOutOfBoundsException {
        demand(REGIONS, region);
        int wards = 0;
        for (int ward = 0; ward < hall.plan.number[WARDS]; ward++) {
            if (hall.plan.isWardIn(ward, region)) {
                wards |= 1 << ward;
            }
        }
        return wards;
    }

    public int depthOf(int region) throws IndexOutOfBoundsException {
        demand(REGIONS, region);
        return hall.plan.regionsAround(region);
    }

    public int boxProperty(int box, int what) throws IndexOutOfBoundsException {
        demand(BOXES, box);
        switch (what) {
            case 0:
                return hall.plan.wards[box];
            case 1:
                return hall.plan.issued[box];
            case 2:
                return hall.now.boxes[box].seal;
            case 3:
                return hall.now.boxes[box].counts;
            default:
                return BAD_VALUE;
        }
    }

    public int placeOf(int box) throws IndexOutOfBoundsException {
        demand(BOXES, box);
        return hall.now.boxes[box].place;
    }

    public int papers(int box, int pile) throws IndexOutOfBoundsException {
        demand(BOXES, box);
        return hall.plan.hasPile(pile) ? hall.plan.papers[box][pile] : BAD_VALUE;
    }

    public boolean isSealGood(int box) throws IndexOutOfBoundsException {
        demand(BOXES, box);
        return hall.now.boxes[box].bearsGoodSeal();
    }

    public int ledgerSize(int box) throws IndexOutOfBoundsException {
        demand(BOXES, box);
        return hall.now.boxes[box].entries;
    }

    public int ledger(int box, int entry) throws IndexOutOfBoundsException {
        demand(BOXES, box);
        Box asked = hall.now.boxes[box];
        return entry >= 0 && entry < asked.entries ? asked.ledgerOf[entry] : NOT_FOUND;
    }

    public int boxAt(int table) throws IndexOutOfBoundsException {
        demand(TABLES, table);
        return hall.boxOn(table);
    }

    public int slipOf(int table) throws IndexOutOfBoundsException {
        demand(TABLES, table);
        return hall.plan.slips[table];
    }

    public int counted(int box, int count, int pile) throws IndexOutOfBoundsException {
        demand(BOXES, box);
        Box asked = hall.now.boxes[box];
        if (!asked.hasCount(count)) {
            return NOT_FOUND;
        }
        return hall.plan.hasPile(pile) ? asked.foundBy(count, pile) : BAD_VALUE;
    }

    public int countedAt(int box, int count) throws IndexOutOfBoundsException {
        demand(BOXES, box);
        Box asked = hall.now.boxes[box];
        return asked.hasCount(count) ? asked.tables[count] : NOT_FOUND;
    }

    public int wouldCount(int table, int box, int pile) throws IndexOutOfBoundsException {
        demand(TABLES, table);
        demand(BOXES, box);
        return hall.plan.hasPile(pile) ? hall.plan.wouldFind(table, box, pile) : BAD_VALUE;
    }

    public boolean isConfirmed(int box) throws IndexOutOfBoundsException {
        demand(BOXES, box);
        return hall.now.boxes[box].confirmed;
    }

    public int result(int box, int pile) throws IndexOutOfBoundsException {
        demand(BOXES, box);
        Box asked = hall.now.boxes[box];
        if (asked.counts == 0) {
            return NOT_FOUND;
        }
        return hall.plan.hasPile(pile) ? asked.foundValidly(pile) : BAD_VALUE;
    }

    public int surplus(int box) throws IndexOutOfBoundsException {
        demand(BOXES, box);
        return hall.papersTooMany(box);
    }

    public boolean isOff(int box) throws IndexOutOfBoundsException {
        demand(BOXES, box);
        return hall.isBoxOff(box);
    }

    public int wardVotes(int ward, int pile) throws IndexOutOfBoundsException {
        demand(WARDS, ward);
        return hall.plan.hasPile(pile) ? hall.foundInWard(ward, pile) : BAD_VALUE;
    }

    public int leader(int ward) throws IndexOutOfBoundsException {
        demand(WARDS, ward);
        return hall.partyAhead(ward);
    }

    public int margin(int ward) throws IndexOutOfBoundsException {
        demand(WARDS, ward);
        return hall.lead(ward);
    }

    public boolean isClose(int ward) throws IndexOutOfBoundsException {
        demand(WARDS, ward);
        return hall.isWardClose(ward);
    }

    public int whyNot(int ward) throws IndexOutOfBoundsException {
        demand(WARDS, ward);
        return hall.reasonAgainst(ward);
    }

    public int toCount() {
        return hall.boxesToCount();
    }

    public int countsLeft(int box) throws IndexOutOfBoundsException {
        demand(BOXES, box);
        return hall.countsToConfirm(box);
    }

    public int rightTable(int box) throws IndexOutOfBoundsException {
        demand(BOXES, box);
        for (int table = 0; table < hall.plan.number[TABLES]; table++) {
            if (hall.plan.wouldFindTruth(table, box)) {
                return table;
            }
        }
        return NOT_FOUND;
    }

    public int nextWard() {
        return hall.nextReady();
    }

    public int declaredCount() {
        return hall.now.declaredWards;
    }

    public int declared(int k) {
        return k >= 0 && k < hall.now.declaredWards ? hall.now.inOrder[k] : NOT_FOUND;
    }

    public boolean isRegionDeclared(int region) throws IndexOutOfBoundsException {
        demand(REGIONS, region);
        return hall.wardsWithin(region, true) > 0 && hall.wardsWithin(region, false) == 0;
    }

    public int regionVotes(int region, int party) throws IndexOutOfBoundsException {
        demand(REGIONS, region);
        return hall.plan.has(PARTIES, party) ? hall.votesWithin(region, party) : BAD_VALUE;
    }

    public int regionSeats(int region, int party) throws IndexOutOfBoundsException {
        demand(REGIONS, region);
        return hall.plan.has(PARTIES, party) ? hall.seatsWithin(region, party) : BAD_VALUE;
    }

    public boolean isDecided(int region) throws IndexOutOfBoundsException {
        demand(REGIONS, region);
        for (int party = 0; party < hall.plan.number[PARTIES]; party++) {
            if (hall.cannotBeCaught(region, party)) {
                return true;
            }
        }
        return false;
    }

    public int misplaced() {
        int differences = 0;
        for (int box = 0; box < hall.plan.number[BOXES]; box++) {
            differences += hall.differencesOf(box);
        }
        return differences / 2;
    }

    public int worstTable() {
        int worst = NOT_FOUND;
        int most = 0;
        for (int table = 0; table < hall.plan.number[TABLES]; table++) {
            int wrong = hall.wrongCountsAt(table);
            if (wrong > most) {
                most = wrong;
                worst = table;
            }
        }
        return worst;
    }

    public int bring(int box) {
        if (!hall.plan.has(BOXES, box)) {
            return NOT_FOUND;
        }
        if (hall.now.boxes[box].place != AWAY) {
            return NOT_ALLOWED;
        }
        history.keep(hall.now);
        hall.now.boxes[box].place = HALL;
        return hall.boxesInHall();
    }

    public int open(int box, int table) {
        if (!hall.plan.has(BOXES, box) || !hall.plan.has(TABLES, table)) {
            return NOT_FOUND;
        }
        Box opened = hall.now.boxes[box];
        boolean free = opened.place == HALL && hall.boxOn(table) == NOT_FOUND;
        if (!free || hall.isWardDeclared(hall.plan.wards[box])) {
            return NOT_ALLOWED;
        }
        if (!opened.bearsGoodSeal()) {
            return BAD_SEAL;
        }
        history.keep(hall.now);
        return opened.openOn(table);
    }

    public int countBox(int table) {
        if (!hall.plan.has(TABLES, table)) {
            return NOT_FOUND;
        }
        int box = hall.boxOn(table);
        if (box == NOT_FOUND) {
            return NOT_ALLOWED;
        }
        if (hall.now.boxes[box].counts >= MOST_COUNTS) {
            return FULL;
        }
        history.keep(hall.now);
        hall.addCount(box, table);
        return hall.now.boxes[box].counts;
    }

    public int seal(int table) {
        if (!hall.plan.has(TABLES, table)) {
            return NOT_FOUND;
        }
        int box = hall.boxOn(table);
        if (box == NOT_FOUND) {
            return NOT_ALLOWED;
        }
        if (hall.now.boxes[box].entries >= MOST_ENTRIES) {
            return FULL;
        }
        history.keep(hall.now);
        hall.now.sealUp(box);
        return hall.now.boxes[box].seal;
    }

    public int tamper(int box, int seal) {
        if (!hall.plan.has(BOXES, box)) {
            return NOT_FOUND;
        }
        if (seal < 1 || seal > MOST_SEAL) {
            return BAD_VALUE;
        }
        Box tampered = hall.now.boxes[box];
        if (tampered.isAtTable()) {
            return NOT_ALLOWED;
        }
        history.keep(hall.now);
        int before = tampered.seal;
        tampered.seal = seal;
        return before;
    }

    public int accept(int box) {
        if (!hall.plan.has(BOXES, box)) {
            return NOT_FOUND;
        }
        Box accepted = hall.now.boxes[box];
        if (accepted.isAtTable() || accepted.bearsGoodSeal()) {
            return NOT_ALLOWED;
        }
        if (accepted.entries >= MOST_ENTRIES) {
            return FULL;
        }
        history.keep(hall.now);
        accepted.enter(accepted.seal);
        return accepted.entries;
    }

    public int declare() {
        int ward = hall.nextReady();
        if (ward == NOT_FOUND) {
            return NOT_FOUND;
        }
        history.keep(hall.now);
        hall.now.addDeclared(ward);
        return ward;
    }

    public int work() {
        history.keep(hall.now);
        hall.fillTables(hall.boxesToCount());
        int made = 0;
        for (int table = 0; table < hall.plan.number[TABLES]; table++) {
            made += hall.countAndSeal(table);
        }
        return made;
    }

    public int setSetting(int setting, int value) {
        if (!isSetting(setting) || value < 0 || value > mostOf(setting)) {
            return BAD_VALUE;
        }
        history.keep(hall.now);
        int before = hall.now.settings[setting];
        hall.now.settings[setting] = value;
        return before;
    }

    public int undo() {
        if (history.size == 0) {
            return NOT_FOUND;
        }
        history.giveBack(hall.now);
        return history.size;
    }

    public int write(int ward) throws IndexOutOfBoundsException {
        demand(WARDS, ward);
        output.setLength(0);
        writeName(WARDS, ward);
        for (int party = 0; party < hall.plan.number[PARTIES]; party++) {
            output.append(' ');
            writeName(PARTIES, party);
            output.append('=');
            output.append(hall.foundInWard(ward, party));
        }
        if (hall.isWardDeclared(ward)) {
            output.append(" !");
        }
        return output.length();
    }

    public int outputAt(int index) {
        return index >= 0 && index < output.length() ? output.charAt(index) : NOT_FOUND;
    }

    private void demand(int sort, int index) throws IndexOutOfBoundsException {
        if (!hall.plan.has(sort, index)) {
            throw new IndexOutOfBoundsException("no such thing");
        }
    }

    private void writeName(int sort, int index) {
        int letters = hall.plan.names[sort][index];
        for (int letter = 0; letter < MOST_LETTERS; letter++) {
            int group = (letters >> (MOST_LETTERS - 1 - letter) * BITS_A_LETTER) & 31;
            if (group != 0) {
                output.append((char) ('a' + group - 1));
            }
        }
    }

    private static boolean isSetting(int setting) {
        return setting == TRIGGER || setting == TOLERANCE;
    }

    private static int mostOf(int setting) {
        return setting == TRIGGER ? MOST_TRIGGER : MOST_TOLERANCE;
    }

    /** What the loaded text describes: nothing of it changes until the next load. */
    private static final class Plan {
        final int[] number = new int[SORTS];
        /** Names by sort, packed as the method named takes them; tables have none. */
        final int[][] names = new int[SORTS][MOST_BOXES];
        final int[] around = new int[MOST_REGIONS];
        final int[] regions = new int[MOST_WARDS];
        final int[] wards = new int[MOST_BOXES];
        final int[] issued = new int[MOST_BOXES];
        final int[] seals = new int[MOST_BOXES];
        final int[][] papers = new int[MOST_BOXES][MOST_PILES];
        final int[] slips = new int[MOST_TABLES];
        final int[] settings = new int[SETTINGS];

        void clear() {
            for (int sort = 0; sort < SORTS; sort++) {
                number[sort] = 0;
            }
            settings[TRIGGER] = FIRST_TRIGGER;
            settings[TOLERANCE] = FIRST_TOLERANCE;
        }

        boolean has(int sort, int index) {
            return index >= 0 && index < number[sort];
        }

        int piles() {
            return number[PARTIES] + 1;
        }

        boolean hasPile(int pile) {
            return pile >= 0 && pile < piles();
        }

        int find(int sort, int letters) {
            for (int index = 0; index < number[sort]; index++) {
                if (names[sort][index] == letters) {
                    return index;
                }
            }
            return NOT_FOUND;
        }

        boolean isWardIn(int ward, int region) {
            int outer = regions[ward];
            for (int step = 0; step < MOST_REGIONS && has(REGIONS, outer); step++) {
                if (outer == region) {
                    return true;
                }
                outer = around[outer];
            }
            return false;
        }

        int regionsAround(int region) {
            int depth = 0;
            int outer = around[region];
            while (depth < MOST_REGIONS && has(REGIONS, outer)) {
                depth++;
                outer = around[outer];
            }
            return depth;
        }

        int wouldFind(int table, int box, int pile) {
            int slip = slips[table];
            int neighbour = pile == 0 ? piles() - 1 : pile - 1;
            return papers[box][pile] - slipped(box, pile, slip) + slipped(box, neighbour, slip);
        }

        /** The papers of a pile whose numbers are multiples of the slip: those that go onto the next pile. */
        private int slipped(int box, int pile, int slip) {
            if (slip <= 0) {
                return 0;
            }
            int ahead = 0;
            for (int earlier = 0; earlier < pile; earlier++) {
                ahead += papers[box][earlier];
            }
            return (ahead + papers[box][pile]) / slip - ahead / slip;
        }

        boolean wouldFindTruth(int table, int box) {
            for (int pile = 0; pile < piles(); pile++) {
                if (wouldFind(table, box, pile) != papers[box][pile]) {
                    return false;
                }
            }
            return true;
        }

        boolean wouldAgree(int table, int other, int box) {
            for (int pile = 0; pile < piles(); pile++) {
                if (wouldFind(table, box, pile) != wouldFind(other, box, pile)) {
                    return false;
                }
            }
            return table != other;
        }
    }

    /** What changes of a box. */
    private static final class Box {
        int place;
        int seal;
        int entries;
        int counts;
        /** The index of the valid count, NOT_FOUND before the first count. */
        int valid;
        boolean confirmed;
        final int[] ledgerOf = new int[MOST_ENTRIES];
        final int[] tables = new int[MOST_COUNTS];
        final int[] found = new int[MOST_COUNTS * MOST_PILES];

        void begin(int firstSeal) {
            place = AWAY;
            seal = firstSeal;
            entries = 0;
            enter(firstSeal);
            counts = 0;
            valid = NOT_FOUND;
            confirmed = false;
        }

        void copyFrom(Box other) {
            place = other.place;
            seal = other.seal;
            entries = other.entries;
            counts = other.counts;
            valid = other.valid;
            confirmed = other.confirmed;
            System.arraycopy(other.ledgerOf, 0, ledgerOf, 0, MOST_ENTRIES);
            System.arraycopy(other.tables, 0, tables, 0, MOST_COUNTS);
            System.arraycopy(other.found, 0, found, 0, MOST_COUNTS * MOST_PILES);
        }

        boolean isAtTable() {
            return place >= 0;
        }

        boolean bearsGoodSeal() {
            return !isAtTable() && entries > 0 && ledgerOf[entries - 1] == seal;
        }

        void enter(int newSeal) {
            if (entries < MOST_ENTRIES) {
                ledgerOf[entries] = newSeal;
                entries++;
            }
        }

        int openOn(int table) {
            int takenOff = seal;
            seal = 0;
            place = table;
            return takenOff;
        }

        boolean hasCount(int count) {
            return count >= 0 && count < counts;
        }

        boolean wasCountedAt(int table) {
            for (int count = 0; count < counts; count++) {
                if (tables[count] == table) {
                    return true;
                }
            }
            return false;
        }

        int foundBy(int count, int pile) {
            return found[count * MOST_PILES + pile];
        }

        int foundValidly(int pile) {
            return hasCount(valid) ? foundBy(valid, pile) : 0;
        }

        void chooseValid(int piles) {
            valid = counts - 1;
            confirmed = false;
            for (int count = 0; count < counts && !confirmed; count++) {
                if (isRepeatedAfter(count, piles)) {
                    valid = count;
                    confirmed = true;
                }
            }
        }

        private boolean isRepeatedAfter(int count, int piles) {
            for (int later = count + 1; later < counts; later++) {
                if (agree(count, later, piles)) {
                    return true;
                }
            }
            return false;
        }

        private boolean agree(int count, int other, int piles) {
            for (int pile = 0; pile < piles; pile++) {
                if (foundBy(count, pile) != foundBy(other, pile)) {
                    return false;
                }
            }
            return tables[count] != tables[other];
        }
    }

    /** All that a change can change, and so all that is kept to undo it. */
    private static final class State {
        final Box[] boxes = new Box[MOST_BOXES];
        final int[] settings = new int[SETTINGS];
        final int[] inOrder = new int[MOST_WARDS];
        int declaredWards;
        int nextSeal;

        State() {
            for (int box = 0; box < MOST_BOXES; box++) {
                boxes[box] = new Box();
            }
            settings[TRIGGER] = FIRST_TRIGGER;
            settings[TOLERANCE] = FIRST_TOLERANCE;
            nextSeal = FIRST_NEW_SEAL;
        }

        void begin(Plan plan) {
            for (int box = 0; box < plan.number[BOXES]; box++) {
                boxes[box].begin(plan.seals[box]);
            }
            System.arraycopy(plan.settings, 0, settings, 0, SETTINGS);
            declaredWards = 0;
            nextSeal = FIRST_NEW_SEAL;
        }

        void copyFrom(State other) {
            for (int box = 0; box < MOST_BOXES; box++) {
                boxes[box].copyFrom(other.boxes[box]);
            }
            System.arraycopy(other.settings, 0, settings, 0, SETTINGS);
            System.arraycopy(other.inOrder, 0, inOrder, 0, MOST_WARDS);
            declaredWards = other.declaredWards;
            nextSeal = other.nextSeal;
        }

        void sealUp(int index) {
            Box box = boxes[index];
            box.seal = nextSeal;
            box.enter(nextSeal);
            box.place = HALL;
            nextSeal++;
        }

        void addDeclared(int ward) {
            if (declaredWards < MOST_WARDS) {
                inOrder[declaredWards] = ward;
                declaredWards++;
            }
        }
    }

    /** The states before the latest changes, the oldest one first. */
    private static final class History {
        private final State[] states = new State[MOST_CHANGES];
        int size;

        History() {
            for (int change = 0; change < MOST_CHANGES; change++) {
                states[change] = new State();
            }
        }

        void keep(State now) {
            if (size == MOST_CHANGES) {
                forgetOldest();
            }
            states[size].copyFrom(now);
            size++;
        }

        private void forgetOldest() {
            State oldest = states[0];
            for (int change = 1; change < MOST_CHANGES; change++) {
                states[change - 1] = states[change];
            }
            states[MOST_CHANGES - 1] = oldest;
            size--;
        }

        void giveBack(State now) {
            if (size > 0) {
                size--;
                now.copyFrom(states[size]);
            }
        }
    }

    /** The plan and the state together, and all that follows from both. */
    private static final class Hall {
        Plan plan = new Plan();
        final State now = new State();

        void begin(Plan newPlan) {
            plan = newPlan;
            now.begin(plan);
        }

        int boxOn(int table) {
            for (int box = 0; box < plan.number[BOXES]; box++) {
                if (now.boxes[box].place == table) {
                    return box;
                }
            }
            return NOT_FOUND;
        }

        int boxesInHall() {
            int inHall = 0;
            for (int box = 0; box < plan.number[BOXES]; box++) {
                if (now.boxes[box].place == HALL) {
                    inHall++;
                }
            }
            return inHall;
        }

        void addCount(int index, int table) {
            Box box = now.boxes[index];
            int count = box.counts;
            if (count >= MOST_COUNTS) {
                return;
            }
            box.tables[count] = table;
            for (int pile = 0; pile < plan.piles(); pile++) {
                box.found[count * MOST_PILES + pile] = plan.wouldFind(table, index, pile);
            }
            box.counts++;
            box.chooseValid(plan.piles());
        }

        void fillTables(int wanted) {
            for (int table = 0; table < plan.number[TABLES]; table++) {
                int box = boxOn(table) == NOT_FOUND ? boxFor(table, wanted) : NOT_FOUND;
                if (box != NOT_FOUND) {
                    now.boxes[box].openOn(table);
                }
            }
        }

        private int boxFor(int table, int wanted) {
            for (int index = 0; index < plan.number[BOXES]; index++) {
                Box box = now.boxes[index];
                boolean due = (wanted >> index & 1) == 1 && !box.wasCountedAt(table);
                if (due && box.place == HALL && box.bearsGoodSeal()) {
                    return index;
                }
            }
            return NOT_FOUND;
        }

        /** Returns the number of counts that the table made: 0 or 1. */
        int countAndSeal(int table) {
            int index = boxOn(table);
            if (index == NOT_FOUND) {
                return 0;
            }
            Box box = now.boxes[index];
            int before = box.counts;
            addCount(index, table);
            if (box.entries < MOST_ENTRIES) {
                now.sealUp(index);
            }
            return box.counts - before;
        }

        int papersTooMany(int index) {
            Box box = now.boxes[index];
            if (box.counts == 0) {
                return 0;
            }
            int found = 0;
            for (int pile = 0; pile < plan.piles(); pile++) {
                found += box.foundValidly(pile);
            }
            return found - plan.issued[index];
        }

        boolean isBoxOff(int box) {
            return Math.abs(papersTooMany(box)) > now.settings[TOLERANCE];
        }

        /** Twice the papers of a box that lie on wrong piles: each is missing on one and too many on another. */
        int differencesOf(int index) {
            Box box = now.boxes[index];
            int differences = 0;
            for (int pile = 0; pile < plan.piles() && box.counts > 0; pile++) {
                differences += Math.abs(box.foundValidly(pile) - plan.papers[index][pile]);
            }
            return differences;
        }

        int wrongCountsAt(int table) {
            int wrong = 0;
            for (int index = 0; index < plan.number[BOXES]; index++) {
                for (int count = 0; count < now.boxes[index].counts; count++) {
                    if (now.boxes[index].tables[count] == table && isWrong(index, count)) {
                        wrong++;
                    }
                }
            }
            return wrong;
        }

        private boolean isWrong(int box, int count) {
            for (int pile = 0; pile < plan.piles(); pile++) {
                if (now.boxes[box].foundBy(count, pile) != plan.papers[box][pile]) {
                    return true;
                }
            }
            return false;
        }

        int countsToConfirm(int index) {
            Box box = now.boxes[index];
            if (box.confirmed) {
                return 0;
            }
            if (box.counts + 1 <= MOST_COUNTS && canRepeatACount(index)) {
                return 1;
            }
            return box.counts + 2 <= MOST_COUNTS && haveTablesThatAgree(index) ? 2 : NOT_FOUND;
        }

        private boolean canRepeatACount(int index) {
            for (int table = 0; table < plan.number[TABLES]; table++) {
                for (int count = 0; count < now.boxes[index].counts; count++) {
                    if (wouldRepeat(table, index, count)) {
                        return true;
                    }
                }
            }
            return false;
        }

        private boolean wouldRepeat(int table, int index, int count) {
            Box box = now.boxes[index];
            for (int pile = 0; pile < plan.piles(); pile++) {
                if (plan.wouldFind(table, index, pile) != box.foundBy(count, pile)) {
                    return false;
                }
            }
            return box.tables[count] != table;
        }

        private boolean haveTablesThatAgree(int box) {
            for (int table = 0; table < plan.number[TABLES]; table++) {
                for (int other = table + 1; other < plan.number[TABLES]; other++) {
                    if (plan.wouldAgree(table, other, box)) {
                        return true;
                    }
                }
            }
            return false;
        }

        int foundInWard(int ward, int pile) {
            int found = 0;
            for (int box = 0; box < plan.number[BOXES]; box++) {
                if (plan.wards[box] == ward) {
                    found += now.boxes[box].foundValidly(pile);
                }
            }
            return found;
        }

        int partyAhead(int ward) {
            int ahead = NOT_FOUND;
            int most = 0;
            for (int party = 0; party < plan.number[PARTIES]; party++) {
                int votes = foundInWard(ward, party);
                if (votes > most) {
                    most = votes;
                    ahead = party;
                }
            }
            return ahead;
        }

        int lead(int ward) {
            int most = 0;
            int second = 0;
            for (int party = 0; party < plan.number[PARTIES]; party++) {
                int votes = foundInWard(ward, party);
                second = Math.max(second, Math.min(votes, most));
                most = Math.max(most, votes);
            }
            return most - second;
        }

        boolean isWardClose(int ward) {
            int votes = 0;
            for (int party = 0; party < plan.number[PARTIES]; party++) {
                votes += foundInWard(ward, party);
            }
            return votes > 0 && lead(ward) * 100 <= now.settings[TRIGGER] * votes;
        }

        boolean isWardDeclared(int ward) {
            for (int k = 0; k < now.declaredWards; k++) {
                if (now.inOrder[k] == ward) {
                    return true;
                }
            }
            return false;
        }

        /** The reasons, and their order, are those of whyNot. */
        int reasonAgainst(int ward) {
            if (isWardDeclared(ward)) {
                return 1;
            }
            boolean empty = true, uncounted = false, outside = false, offAndOpen = false, unconfirmed = false;
            for (int index = 0; index < plan.number[BOXES]; index++) {
                if (plan.wards[index] == ward) {
                    Box box = now.boxes[index];
                    empty = false;
                    uncounted |= box.counts == 0;
                    outside |= box.place != HALL;
                    offAndOpen |= isBoxOff(index) && !box.confirmed;
                    unconfirmed |= !box.confirmed;
                }
            }
            if (empty || uncounted) {
                return 2;
            }
            if (outside) {
                return 3;
            }
            if (offAndOpen) {
                return 4;
            }
            return unconfirmed && isWardClose(ward) ? 5 : 0;
        }

        int boxesToCount() {
            int boxes = 0;
            for (int box = 0; box < plan.number[BOXES]; box++) {
                if (mustBeCounted(box)) {
                    boxes |= 1 << box;
                }
            }
            return boxes;
        }

        private boolean mustBeCounted(int index) {
            Box box = now.boxes[index];
            int ward = plan.wards[index];
            if (box.confirmed || isWardDeclared(ward)) {
                return false;
            }
            return box.counts == 0 || isBoxOff(index) || isWardClose(ward);
        }

        int nextReady() {
            int next = NOT_FOUND;
            int fewest = 0;
            for (int ward = 0; ward < plan.number[WARDS]; ward++) {
                int found = foundInAll(ward);
                if ((next == NOT_FOUND || found < fewest) && reasonAgainst(ward) == 0) {
                    next = ward;
                    fewest = found;
                }
            }
            return next;
        }

        private int foundInAll(int ward) {
            int found = 0;
            for (int pile = 0; pile < plan.piles(); pile++) {
                found += foundInWard(ward, pile);
            }
            return found;
        }

        int wardsWithin(int region, boolean declaredOnes) {
            int wards = 0;
            for (int ward = 0; ward < plan.number[WARDS]; ward++) {
                if (plan.isWardIn(ward, region) && isWardDeclared(ward) == declaredOnes) {
                    wards++;
                }
            }
            return wards;
        }

        int votesWithin(int region, int party) {
            int votes = 0;
            for (int k = 0; k < now.declaredWards; k++) {
                if (plan.isWardIn(now.inOrder[k], region)) {
                    votes += foundInWard(now.inOrder[k], party);
                }
            }
            return votes;
        }

        int seatsWithin(int region, int party) {
            int seats = 0;
            for (int k = 0; k < now.declaredWards; k++) {
                int ward = now.inOrder[k];
                if (plan.isWardIn(ward, region) && partyAhead(ward) == party) {
                    seats++;
                }
            }
            return seats;
        }

        boolean cannotBeCaught(int region, int party) {
            int seats = seatsWithin(region, party);
            int stillOpen = wardsWithin(region, false);
            for (int other = 0; other < plan.number[PARTIES]; other++) {
                if (other != party && seatsWithin(region, other) + stillOpen >= seats) {
                    return false;
                }
            }
            return true;
        }
    }

    /** The input buffer, and the tokens of the text that it holds. */
    private static final class Input {
        static final int END = 0, WORD = 1, INTEGER = 2, SEMICOLON = 3, OTHER = 4;
        private static final int ABOVE_ALL_RANGES = 99999;

        private final byte[] bytes = new byte[MOST_BYTES];
        int filled;
        private int length;
        /** The token at hand: its kind, its first byte, and the byte behind it. */
        int kind;
        int start;
        private int end;

        void append(int fourBytes) {
            for (int shift = 24; shift >= 0; shift -= 8) {
                if (filled < MOST_BYTES) {
                    bytes[filled] = (byte) (fourBytes >> shift);
                    filled++;
                }
            }
        }

        void beginText(int textLength) {
            length = Math.min(textLength, MOST_BYTES);
            filled = 0;
            end = 0;
            next();
        }

        void next() {
            start = end;
            while (start < length && isBlank(bytes[start])) {
                start++;
            }
            kind = start < length ? kindOf(bytes[start]) : END;
            end = kind == END ? start : start + 1;
            boolean run = kind == WORD || kind == INTEGER;
            while (run && end < length && kindOf(bytes[end]) == kind) {
                end++;
            }
        }

        private static boolean isBlank(int sign) {
            return sign == 32 || sign == 10;
        }

        private static int kindOf(int sign) {
            if (sign >= 'a' && sign <= 'z') {
                return WORD;
            }
            if (sign >= '0' && sign <= '9') {
                return INTEGER;
            }
            return sign == ';' ? SEMICOLON : OTHER;
        }

        boolean spells(String word) {
            if (kind != WORD || end - start != word.length()) {
                return false;
            }
            for (int letter = 0; letter < word.length(); letter++) {
                if (bytes[start + letter] != word.charAt(letter)) {
                    return false;
                }
            }
            return true;
        }

        boolean isName() {
            if (kind != WORD || end - start > MOST_LETTERS) {
                return false;
            }
            boolean declares = spells("party") || spells("region") || spells("ward") || spells("box") || spells("table");
            return !declares && !spells("in") && !spells("set");
        }

        /** The letters of a name, packed as the method named takes them. */
        int packed() {
            int letters = 0;
            for (int letter = 0; letter < MOST_LETTERS; letter++) {
                int group = start + letter < end ? bytes[start + letter] - 'a' + 1 : 0;
                letters = letters << BITS_A_LETTER | group;
            }
            return letters;
        }

        int value() {
            int value = 0;
            for (int at = start; at < end; at++) {
                value = Math.min(value * 10 + bytes[at] - '0', ABOVE_ALL_RANGES);
            }
            return value;
        }
    }

    /**
     * Reads a text into a draft. Each reader looks at the token at hand: it returns an error code and
     * leaves the token, so that the error's position is the token's; or it steps behind what it has read
     * and returns what that says, 0 or more.
     */
    private static final class Loader {
        final Input input = new Input();
        private Plan draft = new Plan();
        private int settingsGiven;
        int errorAt = NOT_FOUND;

        /** Hands the draft out, and takes a plan that is no longer used as the next draft. */
        Plan exchange(Plan unused) {
            Plan read = draft;
            draft = unused;
            return read;
        }

        int readText(int length) {
            draft.clear();
            settingsGiven = 0;
            errorAt = NOT_FOUND;
            input.beginText(length);
            int statements = 0;
            while (statements <= length && input.kind != Input.END) {
                int outcome = readDeclaration();
                if (outcome >= 0) {
                    outcome = readSemicolon();
                }
                if (outcome < 0) {
                    errorAt = input.start;
                    return outcome;
                }
                statements++;
            }
            return statements;
        }

        private int readSemicolon() {
            if (input.kind != Input.SEMICOLON) {
                return SYNTAX_ERROR;
            }
            input.next();
            return 0;
        }

        private int readDeclaration() {
            if (input.spells("party")) {
                return readParty();
            }
            if (input.spells("region")) {
                return readRegion();
            }
            if (input.spells("ward")) {
                return readWard();
            }
            if (input.spells("box")) {
                return readBox();
            }
            if (input.spells("table")) {
                return readTable();
            }
            return input.spells("set") ? readSetting() : SYNTAX_ERROR;
        }

        private int readParty() {
            if (draft.number[BOXES] > 0) {
                return SYNTAX_ERROR;
            }
            int name = readNewName(PARTIES, MOST_PARTIES);
            return name < 0 ? name : add(PARTIES, name);
        }

        private int readRegion() {
            int name = readNewName(REGIONS, MOST_REGIONS);
            if (name < 0) {
                return name;
            }
            int around = NOT_FOUND;
            if (input.spells("in")) {
                input.next();
                around = readKnownName(REGIONS);
                if (around < 0) {
                    return around;
                }
            }
            draft.around[draft.number[REGIONS]] = around;
            return add(REGIONS, name);
        }

        private int readWard() {
            int name = readNewName(WARDS, MOST_WARDS);
            if (name < 0) {
                return name;
            }
            int region = readKnownName(REGIONS);
            if (region < 0) {
                return region;
            }
            draft.regions[draft.number[WARDS]] = region;
            return add(WARDS, name);
        }

        private int readBox() {
            int name = readNewName(BOXES, MOST_BOXES);
            if (name < 0) {
                return name;
            }
            int ward = readKnownName(WARDS);
            if (ward < 0) {
                return ward;
            }
            int issued = readInteger(0, MOST_ISSUED);
            if (issued < 0) {
                return issued;
            }
            int seal = readInteger(1, MOST_SEAL);
            if (seal < 0) {
                return seal;
            }
            int box = draft.number[BOXES];
            draft.wards[box] = ward;
            draft.issued[box] = issued;
            draft.seals[box] = seal;
            int outcome = readPapers(box);
            return outcome < 0 ? outcome : add(BOXES, name);
        }

        private int readPapers(int box) {
            for (int pile = 0; pile < draft.piles(); pile++) {
                int papers = readInteger(0, MOST_PAPERS);
                if (papers < 0) {
                    return papers;
                }
                draft.papers[box][pile] = papers;
            }
            return 0;
        }

        private int readTable() {
            int outcome = beginThing(TABLES, MOST_TABLES);
            if (outcome < 0) {
                return outcome;
            }
            int slip = readInteger(0, MOST_SLIP);
            if (slip < 0) {
                return slip;
            }
            draft.slips[draft.number[TABLES]] = slip;
            draft.number[TABLES]++;
            return 0;
        }

        private int readSetting() {
            input.next();
            if (!input.spells("trigger") && !input.spells("tolerance")) {
                return SYNTAX_ERROR;
            }
            int setting = input.spells("trigger") ? TRIGGER : TOLERANCE;
            if ((settingsGiven >> setting & 1) == 1) {
                return DUPLICATE_ERROR;
            }
            input.next();
            int value = readInteger(0, mostOf(setting));
            if (value < 0) {
                return value;
            }
            settingsGiven |= 1 << setting;
            draft.settings[setting] = value;
            return 0;
        }

        /** Steps behind the first word of a statement that declares a thing. */
        private int beginThing(int sort, int most) {
            if (draft.number[sort] >= most) {
                return COUNT_ERROR;
            }
            input.next();
            return 0;
        }

        /** Reads the first word of a statement, and the name of the new thing. */
        private int readNewName(int sort, int most) {
            int outcome = beginThing(sort, most);
            if (outcome < 0) {
                return outcome;
            }
            if (!input.isName()) {
                return SYNTAX_ERROR;
            }
            int name = input.packed();
            if (draft.find(sort, name) != NOT_FOUND) {
                return DUPLICATE_ERROR;
            }
            input.next();
            return name;
        }

        /** Reads the name of a thing that is declared, and returns its index. */
        private int readKnownName(int sort) {
            if (!input.isName()) {
                return SYNTAX_ERROR;
            }
            int index = draft.find(sort, input.packed());
            if (index == NOT_FOUND) {
                return NAME_ERROR;
            }
            input.next();
            return index;
        }

        private int readInteger(int least, int most) {
            if (input.kind != Input.INTEGER) {
                return SYNTAX_ERROR;
            }
            int value = input.value();
            if (value < least || value > most) {
                return RANGE_ERROR;
            }
            input.next();
            return value;
        }

        private int add(int sort, int name) {
            draft.names[sort][draft.number[sort]] = name;
            draft.number[sort]++;
            return 0;
        }
    }
}
