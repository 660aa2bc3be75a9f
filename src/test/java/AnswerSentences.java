import java.util.function.IntUnaryOperator;

/** Tests of the sentences of promises 9 to 44 that name a boundary case. */
final class AnswerSentences {
    private static final int NOT_FOUND = CountHall.NOT_FOUND;
    private static final int BAD_VALUE = CountHall.BAD_VALUE;
    private static final int TRIGGER = CountHall.TRIGGER;
    private static final int TOLERANCE = CountHall.TOLERANCE;
    private static final int FAR = Integer.MAX_VALUE;
    private static final String WARD = "party a;party b;region r;ward w r;";
    private static final String BOX = WARD + "box k w 10 7 6 3 1;table 0;table 99;table 3;";
    /** Another number of each sort, so that an index is not valid by way of another sort. */
    private static final String SORTS = "party a;region r;region s;region t;ward w r;ward x r;box k w 10 7 6 3;box l w 10 7 6 3;"
            + "box m x 10 7 6 3;box n x 10 7 6 3;box o x 10 7 6 3;table 0;table 1;table 2;table 3;";
    private static final int REGIONS = 3, WARDS = 2, BOXES = 5, TABLES = 4;

    private interface Asked {
        int ask(CountHall hall, int index);
    }

    /** The first and the last index are valid, those beside them are not, and in an empty hall none is. */
    private static void indexes(Check check, String call, int number, Asked asked) {
        CountHall hall = Check.hall(SORTS);
        asked.ask(hall, 0);
        asked.ask(hall, number - 1);
        check.outside(call, number, index -> asked.ask(hall, index));
        CountHall empty = new CountHall();
        check.outside(call + " of an empty hall", 0, index -> asked.ask(empty, index));
    }

    private static void answers(Check check, String call, int code, IntUnaryOperator asked, int... parameters) {
        for (int parameter : parameters) {
            check.due(call + ", " + parameter, asked.applyAsInt(parameter), code);
        }
    }

    private static CountHall counted(String text) {
        return HallSentences.countedAt(0, text + "table 0;");
    }

    // Promises 9 to 12: regions.

    @Sentence(promise = 9, says = "NOT_FOUND if there is none.")
    static void noRegionAround(Check check) {
        CountHall hall = Check.hall("region a;region b in a;region c;");
        check.due("the first one", hall.regionAround(0), NOT_FOUND);
        check.due("one in the first one", hall.regionAround(1), 0);
        check.due("one in none", hall.regionAround(2), NOT_FOUND);
        Check.load(hall, "region a;region b;");
        check.due("one in none, after a hall with one in another", hall.regionAround(1), NOT_FOUND);
    }

    @Sentence(promise = 9, says = "Throws `IndexOutOfBoundsException` if region is not a valid index")
    static void regionAroundOutside(Check check) {
        indexes(check, "regionAround", REGIONS, CountHall::regionAround);
    }

    @Sentence(promise = 10, says = "Throws `IndexOutOfBoundsException` if ward is not a valid index")
    static void regionOfOutside(Check check) {
        indexes(check, "regionOf", WARDS, CountHall::regionOf);
    }

    @Sentence(promise = 11, says = "Returns the wards of a region and of all regions in it, directly or not.")
    static void wardsOfInnerRegions(Check check) {
        CountHall hall = Check.hall("region a;region b in a;region c in b;region d;region e in c;"
                + "ward u e;ward v c;ward w b;ward x d;ward y a;");
        int[] due = {0b10111, 0b00111, 0b00011, 0b01000, 0b00001};
        for (int region = 0; region < 5; region++) {
            check.due("wardsIn " + region, hall.wardsIn(region), due[region]);
        }
        check.due("a region without wards", Check.hall("region r;region s;ward w r;").wardsIn(1), 0);
        CountHall chain = Check.hall("region a;region b in a;region c in b;region d in c;region e in d;ward w e;");
        for (int region = 0; region < 5; region++) {
            check.due("a chain, wardsIn " + region, chain.wardsIn(region), 1);
        }
    }

    @Sentence(promise = 11, says = "Returns the wards as a bit set: bit w is 1 for ward w.")
    static void wardsAsBits(Check check) {
        CountHall hall = Check.hall("region r;region s;ward a r;ward b r;ward c s;ward d r;ward e r;ward f r;");
        check.due("all but ward 2", hall.wardsIn(0), 0b111011);
        check.due("ward 2", hall.wardsIn(1), 0b100);
    }

    @Sentence(promise = 11, says = "Throws `IndexOutOfBoundsException` if region is not a valid index")
    static void wardsInOutside(Check check) {
        indexes(check, "wardsIn", REGIONS, CountHall::wardsIn);
    }

    @Sentence(promise = 12, says = {"Returns the number of regions around a region, directly or not.", "Returns 0 or more."})
    static void depths(Check check) {
        CountHall hall = Check.hall("region a;region b in a;region c in b;region d in c;region e in d;");
        for (int region = 0; region < 5; region++) {
            check.due("depthOf " + region, hall.depthOf(region), region);
        }
    }

    @Sentence(promise = 12, says = "Throws `IndexOutOfBoundsException` if region is not a valid index")
    static void depthOfOutside(Check check) {
        indexes(check, "depthOf", REGIONS, CountHall::depthOf);
    }

    // Promises 13 to 20: boxes, seals and tables.

    @Sentence(promise = 13, says = "2: the seal on it, 0 if there is none;")
    static void noSeal(Check check) {
        CountHall hall = Check.hall(BOX);
        check.due("away", hall.boxProperty(0, 2), 7);
        hall.bring(0);
        hall.open(0, 2);
        check.due("at a table", hall.boxProperty(0, 2), 0);
        hall.seal(2);
        check.due("in the hall", hall.boxProperty(0, 2), 5000);
    }

    @Sentence(promise = 13, says = "BAD_VALUE for any other what.")
    static void propertiesThatAreNone(Check check) {
        CountHall hall = Check.hall(BOX);
        answers(check, "boxProperty", BAD_VALUE, what -> hall.boxProperty(0, what), -1, 4, Integer.MIN_VALUE, FAR);
        int[] due = {0, 10, 7, 0};
        for (int what = 0; what < 4; what++) {
            check.due("boxProperty " + what, hall.boxProperty(0, what), due[what]);
        }
    }

    @Sentence(promise = 13, says = "Throws `IndexOutOfBoundsException` if box is not a valid index (checked first)")
    static void boxPropertyOutside(Check check) {
        indexes(check, "boxProperty", BOXES, (hall, box) -> hall.boxProperty(box, 0));
        indexes(check, "boxProperty 4", BOXES, (hall, box) -> hall.boxProperty(box, 4));
    }

    @Sentence(promise = 14, says = "Returns AWAY, HALL, or the index of a table.")
    static void places(Check check) {
        CountHall hall = Check.hall(BOX + "table 4;");
        check.due("away", hall.placeOf(0), -3);
        hall.bring(0);
        check.due("in the hall", hall.placeOf(0), -4);
        for (int table = 0; table < 4; table++) {
            hall.open(0, table);
            check.due("at table " + table, hall.placeOf(0), table);
            hall.seal(table);
        }
    }

    @Sentence(promise = 14, says = "Throws `IndexOutOfBoundsException` if box is not a valid index")
    static void placeOfOutside(Check check) {
        indexes(check, "placeOf", BOXES, CountHall::placeOf);
    }

    @Sentence(promise = 15, says = {
            "- `pile`: index of a party, or the number of parties for spoilt papers",
            "BAD_VALUE if there is no such pile."})
    static void papersOfNoPile(Check check) {
        CountHall hall = Check.hall(BOX);
        answers(check, "papers", BAD_VALUE, pile -> hall.papers(0, pile), -1, 3, 4, 5, 6, Integer.MIN_VALUE, FAR);
        check.due("the last pile", hall.papers(0, 2), 1);
        CountHall none = Check.hall("region r;ward w r;box k w 1 1 9;");
        check.due("the only pile", none.papers(0, 0), 9);
        answers(check, "papers without parties", BAD_VALUE, pile -> none.papers(0, pile), -1, 1);
    }

    @Sentence(promise = 15, says = "Throws `IndexOutOfBoundsException` if box is not a valid index (checked first)")
    static void papersOutside(Check check) {
        indexes(check, "papers", BOXES, (hall, box) -> hall.papers(box, 0));
        indexes(check, "papers of no pile", BOXES, (hall, box) -> hall.papers(box, 9));
    }

    @Sentence(promise = 16, says = {"Returns true if it is;", "false also if the box is at a table."})
    static void noGoodSealAtATable(Check check) {
        CountHall hall = Check.hall(BOX);
        check.holds("away", hall.isSealGood(0));
        hall.bring(0);
        check.holds("in the hall", hall.isSealGood(0));
        hall.open(0, 0);
        check.fails("at a table", hall.isSealGood(0));
        hall.countBox(0);
        check.fails("counted at a table", hall.isSealGood(0));
        hall.seal(0);
        check.holds("sealed", hall.isSealGood(0));
    }

    @Sentence(promise = 16, says = "Throws `IndexOutOfBoundsException` if box is not a valid index")
    static void isSealGoodOutside(Check check) {
        indexes(check, "isSealGood", BOXES, (hall, box) -> Check.bit(hall.isSealGood(box)));
    }

    private static CountHall withFullLedger() {
        CountHall hall = Check.hall(BOX);
        for (int seal = 1; seal <= 11; seal++) {
            hall.tamper(0, 100 + seal);
            hall.accept(0);
        }
        return hall;
    }

    @Sentence(promise = 17, says = "Returns 1 or more.")
    static void ledgerSizes(Check check) {
        check.due("at first", Check.hall(BOX).ledgerSize(0), 1);
        check.due("full", withFullLedger().ledgerSize(0), 12);
    }

    @Sentence(promise = 17, says = "Throws `IndexOutOfBoundsException` if box is not a valid index")
    static void ledgerSizeOutside(Check check) {
        indexes(check, "ledgerSize", BOXES, CountHall::ledgerSize);
    }

    @Sentence(promise = 18, says = {"- `entry`: 0 for the first one", "NOT_FOUND if there is no such entry."})
    static void noSuchEntry(Check check) {
        CountHall hall = Check.hall(BOX);
        check.due("the first entry", hall.ledger(0, 0), 7);
        answers(check, "ledger", NOT_FOUND, entry -> hall.ledger(0, entry), -1, 1, 11, 12, Integer.MIN_VALUE, FAR);
        CountHall full = withFullLedger();
        check.due("the last entry", full.ledger(0, 11), 111);
        answers(check, "a full ledger", NOT_FOUND, entry -> full.ledger(0, entry), -1, 12, Integer.MIN_VALUE, FAR);
        full.undo();
        check.due("an entry that was undone", full.ledger(0, 11), NOT_FOUND);
    }

    @Sentence(promise = 18, says = "Throws `IndexOutOfBoundsException` if box is not a valid index (checked first)")
    static void ledgerOutside(Check check) {
        indexes(check, "ledger", BOXES, (hall, box) -> hall.ledger(box, 0));
        indexes(check, "ledger of no entry", BOXES, (hall, box) -> hall.ledger(box, 99));
    }

    @Sentence(promise = 19, says = "NOT_FOUND if there is none.")
    static void noBoxAtTheTable(Check check) {
        CountHall hall = Check.hall(BOX);
        check.due("nothing brought", hall.boxAt(0), NOT_FOUND);
        hall.bring(0);
        check.due("a box in the hall", hall.boxAt(0), NOT_FOUND);
        hall.open(0, 2);
        check.due("a box at another table", hall.boxAt(0), NOT_FOUND);
        check.due("box 0", hall.boxAt(2), 0);
        hall.seal(2);
        check.due("sealed", hall.boxAt(2), NOT_FOUND);
    }

    @Sentence(promise = 19, says = "Throws `IndexOutOfBoundsException` if table is not a valid index")
    static void boxAtOutside(Check check) {
        indexes(check, "boxAt", TABLES, CountHall::boxAt);
        CountHall hall = Check.hall(SORTS);
        check.outside("boxAt(AWAY)", () -> hall.boxAt(CountHall.AWAY));
        hall.bring(0);
        check.outside("boxAt(HALL)", () -> hall.boxAt(CountHall.HALL));
    }

    @Sentence(promise = 20, says = "Returns 0 to 99.")
    static void slips(Check check) {
        CountHall hall = Check.hall("table 0;table 99;table 1;table 98;");
        int[] due = {0, 99, 1, 98};
        for (int table = 0; table < 4; table++) {
            check.due("slipOf " + table, hall.slipOf(table), due[table]);
        }
    }

    @Sentence(promise = 20, says = "Throws `IndexOutOfBoundsException` if table is not a valid index")
    static void slipOfOutside(Check check) {
        indexes(check, "slipOf", TABLES, CountHall::slipOf);
    }

    // Promises 21 to 27: counts.

    private static CountHall withCounts(int... tables) {
        CountHall hall = Check.hall(BOX);
        hall.bring(0);
        for (int table : tables) {
            Check.count(hall, 0, table);
        }
        return hall;
    }

    @Sentence(promise = 21, says = {"- `count`: 0 for its first count", "NOT_FOUND if there is no such count (checked first);"})
    static void noSuchCount(Check check) {
        CountHall none = withCounts();
        answers(check, "counted before a count", NOT_FOUND, count -> none.counted(0, count, 0), -1, 0, 1, 4, FAR);
        answers(check, "counted of no pile before a count", NOT_FOUND, pile -> none.counted(0, 0, pile), -1, 3, FAR);
        CountHall four = withCounts(0, 0, 0, 2);
        check.due("the last count", four.counted(0, 3, 0), 4);
        answers(check, "counted", NOT_FOUND, count -> four.counted(0, count, 0), -1, 4, Integer.MIN_VALUE, FAR);
        answers(check, "counted of no pile", NOT_FOUND, count -> four.counted(0, count, 3), -1, 4);
        four.undo();
        four.undo();
        check.due("a count that was undone", four.counted(0, 3, 0), NOT_FOUND);
    }

    @Sentence(promise = 21, says = {
            "- `pile`: index of a party, or the number of parties for spoilt papers",
            "BAD_VALUE if there is no such pile."})
    static void countedOfNoPile(Check check) {
        CountHall hall = withCounts(2);
        answers(check, "counted", BAD_VALUE, pile -> hall.counted(0, 0, pile), -1, 3, 4, 5, 6, Integer.MIN_VALUE, FAR);
        check.due("the first pile", hall.counted(0, 0, 0), 4);
        check.due("the last pile", hall.counted(0, 0, 2), 2);
    }

    @Sentence(promise = 21, says = "Throws `IndexOutOfBoundsException` if box is not a valid index (checked first of all)")
    static void countedOutside(Check check) {
        indexes(check, "counted", BOXES, (hall, box) -> hall.counted(box, 0, 0));
        indexes(check, "counted of no count and no pile", BOXES, (hall, box) -> hall.counted(box, 9, 9));
    }

    @Sentence(promise = 22, says = {"- `count`: 0 for its first count", "NOT_FOUND if there is no such count."})
    static void countedAtNoTable(Check check) {
        CountHall none = withCounts();
        answers(check, "countedAt before a count", NOT_FOUND, count -> none.countedAt(0, count), -1, 0, FAR);
        CountHall four = withCounts(2, 0, 1, 2);
        int[] due = {2, 0, 1, 2};
        for (int count = 0; count < 4; count++) {
            check.due("countedAt " + count, four.countedAt(0, count), due[count]);
        }
        answers(check, "countedAt", NOT_FOUND, count -> four.countedAt(0, count), -1, 4, Integer.MIN_VALUE, FAR);
    }

    @Sentence(promise = 22, says = "Throws `IndexOutOfBoundsException` if box is not a valid index (checked first)")
    static void countedAtOutside(Check check) {
        indexes(check, "countedAt", BOXES, (hall, box) -> hall.countedAt(box, 0));
        indexes(check, "countedAt of no count", BOXES, (hall, box) -> hall.countedAt(box, -1));
    }

    @Sentence(promise = 23, says = {
            "- `pile`: index of a party, or the number of parties for spoilt papers",
            "BAD_VALUE if there is no such pile."})
    static void wouldCountNoPile(Check check) {
        CountHall hall = Check.hall(BOX);
        answers(check, "wouldCount", BAD_VALUE, pile -> hall.wouldCount(2, 0, pile), -1, 3, 4, 5, 6, Integer.MIN_VALUE, FAR);
        check.due("the first pile", hall.wouldCount(2, 0, 0), 4);
        check.due("the last pile", hall.wouldCount(2, 0, 2), 2);
        CountHall none = Check.hall("region r;ward w r;box k w 1 1 9;table 1;");
        check.due("the only pile", none.wouldCount(0, 0, 0), 9);
        check.due("no pile", none.wouldCount(0, 0, 1), BAD_VALUE);
    }

    @Sentence(promise = 23, says = "Throws `IndexOutOfBoundsException` if table or box is not a valid index")
    static void wouldCountOutside(Check check) {
        indexes(check, "wouldCount, table", TABLES, (hall, table) -> hall.wouldCount(table, 0, 0));
        indexes(check, "wouldCount, box", BOXES, (hall, box) -> hall.wouldCount(0, box, 0));
        indexes(check, "wouldCount of no pile, table", TABLES, (hall, table) -> hall.wouldCount(table, 0, 9));
        indexes(check, "wouldCount of no pile, box", BOXES, (hall, box) -> hall.wouldCount(0, box, 9));
        CountHall hall = Check.hall(SORTS);
        check.outside("wouldCount, both", () -> hall.wouldCount(4, 5, 0));
        CountHall noTable = Check.hall(WARD + "box k w 1 1 1 1 1;");
        check.outside("wouldCount without tables", () -> noTable.wouldCount(0, 0, 0));
    }

    @Sentence(promise = 24, says = "Throws `IndexOutOfBoundsException` if box is not a valid index")
    static void isConfirmedOutside(Check check) {
        indexes(check, "isConfirmed", BOXES, (hall, box) -> Check.bit(hall.isConfirmed(box)));
    }

    @Sentence(promise = 25, says = "NOT_FOUND if the box was not counted (checked first);")
    static void resultBeforeACount(Check check) {
        CountHall hall = withCounts();
        answers(check, "result", NOT_FOUND, pile -> hall.result(0, pile), 0, 1, 2, 3, -1, Integer.MIN_VALUE, FAR);
        Check.count(hall, 0, 0);
        check.due("counted", hall.result(0, 0), 6);
        hall.undo();
        hall.undo();
        check.due("the count was undone", hall.result(0, 0), NOT_FOUND);
    }

    @Sentence(promise = 25, says = {
            "- `pile`: index of a party, or the number of parties for spoilt papers",
            "BAD_VALUE if there is no such pile."})
    static void resultOfNoPile(Check check) {
        CountHall hall = withCounts(0);
        answers(check, "result", BAD_VALUE, pile -> hall.result(0, pile), -1, 3, 4, 5, 6, Integer.MIN_VALUE, FAR);
        check.due("the last pile", hall.result(0, 2), 1);
    }

    @Sentence(promise = 25, says = "Throws `IndexOutOfBoundsException` if box is not a valid index (checked first of all)")
    static void resultOutside(Check check) {
        indexes(check, "result", BOXES, (hall, box) -> hall.result(box, 0));
        indexes(check, "result of no pile", BOXES, (hall, box) -> hall.result(box, 9));
    }

    @Sentence(promise = 26, says = "Returns the difference, negative if there are fewer; 0 if the box was not counted.")
    static void surpluses(Check check) {
        check.due("more", counted(WARD + "box k w 0 1 300 300 300;").surplus(0), 900);
        check.due("fewer", counted(WARD + "box k w 999 1 0 0 0;").surplus(0), -999);
        check.due("one fewer", counted(WARD + "box k w 11 1 6 3 1;").surplus(0), -1);
        check.due("as many", counted(WARD + "box k w 10 1 6 3 1;").surplus(0), 0);
        CountHall hall = Check.hall(WARD + "box k w 999 1 0 0 0;table 0;");
        check.due("not counted", hall.surplus(0), 0);
        hall.bring(0);
        hall.open(0, 0);
        check.due("at a table, not counted", hall.surplus(0), 0);
    }

    @Sentence(promise = 26, says = "Throws `IndexOutOfBoundsException` if box is not a valid index")
    static void surplusOutside(Check check) {
        indexes(check, "surplus", BOXES, CountHall::surplus);
    }

    @Sentence(promise = 27, says = "Throws `IndexOutOfBoundsException` if box is not a valid index")
    static void isOffOutside(Check check) {
        indexes(check, "isOff", BOXES, (hall, box) -> Check.bit(hall.isOff(box)));
    }

    // Promises 28 to 36: wards, and what must be counted.

    @Sentence(promise = 28, says = {
            "- `pile`: index of a party, or the number of parties for spoilt papers",
            "BAD_VALUE if there is no such pile."})
    static void wardVotesOfNoPile(Check check) {
        CountHall hall = withCounts(0);
        answers(check, "wardVotes", BAD_VALUE, pile -> hall.wardVotes(0, pile), -1, 3, 4, 5, 6, Integer.MIN_VALUE, FAR);
        check.due("spoilt ones", hall.wardVotes(0, 2), 1);
        CountHall none = Check.hall("region r;ward w r;");
        check.due("spoilt ones without parties and boxes", none.wardVotes(0, 0), 0);
        check.due("no pile", none.wardVotes(0, 1), BAD_VALUE);
    }

    @Sentence(promise = 28, says = "Throws `IndexOutOfBoundsException` if ward is not a valid index (checked first)")
    static void wardVotesOutside(Check check) {
        indexes(check, "wardVotes", WARDS, (hall, ward) -> hall.wardVotes(ward, 0));
        indexes(check, "wardVotes of no pile", WARDS, (hall, ward) -> hall.wardVotes(ward, 9));
    }

    private static CountHall votes(int a, int b, int c) {
        return counted("party a;party b;party c;region r;ward w r;box k w 9 1 " + a + " " + b + " " + c + " 50;");
    }

    @Sentence(promise = 29, says = "Ties are broken by lower index.")
    static void leadersOfTies(Check check) {
        check.due("all three", votes(4, 4, 4).leader(0), 0);
        check.due("the first two", votes(4, 4, 3).leader(0), 0);
        check.due("the last two", votes(3, 4, 4).leader(0), 1);
        check.due("the first and the last one", votes(4, 3, 4).leader(0), 0);
        check.due("no tie", votes(3, 4, 5).leader(0), 2);
    }

    @Sentence(promise = 29, says = "NOT_FOUND if there are no votes.")
    static void noLeader(Check check) {
        check.due("spoilt ones alone", votes(0, 0, 0).leader(0), NOT_FOUND);
        check.due("one vote", votes(0, 0, 1).leader(0), 2);
        check.due("not counted", Check.hall(BOX).leader(0), NOT_FOUND);
        check.due("no box", Check.hall(WARD).leader(0), NOT_FOUND);
        check.due("no party", counted("region r;ward w r;box k w 9 1 9;").leader(0), NOT_FOUND);
    }

    @Sentence(promise = 29, says = "Throws `IndexOutOfBoundsException` if ward is not a valid index")
    static void leaderOutside(Check check) {
        indexes(check, "leader", WARDS, CountHall::leader);
    }

    @Sentence(promise = 30, says = "the votes of its leader minus the most votes of another party (minus 0 if there"
            + " is no other one).")
    static void margins(Check check) {
        check.due("one party", counted("party a;region r;ward w r;box k w 9 1 9 5;").margin(0), 9);
        check.due("a tie", votes(4, 2, 4).margin(0), 0);
        check.due("the leader is the first one", votes(9, 2, 4).margin(0), 5);
        check.due("the leader is between", votes(4, 9, 2).margin(0), 5);
        check.due("the leader is the last one", votes(2, 4, 9).margin(0), 5);
        check.due("the leader alone has votes", votes(0, 9, 0).margin(0), 9);
        check.due("the largest one", votes(300, 0, 0).margin(0), 300);
    }

    @Sentence(promise = 30, says = "Returns the margin, 0 if there are no votes.")
    static void noMargin(Check check) {
        check.due("spoilt ones alone", votes(0, 0, 0).margin(0), 0);
        check.due("not counted", Check.hall(BOX).margin(0), 0);
        check.due("no box", Check.hall(WARD).margin(0), 0);
        check.due("no party", counted("region r;ward w r;box k w 9 1 9;").margin(0), 0);
    }

    @Sentence(promise = 30, says = "Throws `IndexOutOfBoundsException` if ward is not a valid index")
    static void marginOutside(Check check) {
        indexes(check, "margin", WARDS, CountHall::margin);
    }

    @Sentence(promise = 31, says = "Throws `IndexOutOfBoundsException` if ward is not a valid index")
    static void isCloseOutside(Check check) {
        indexes(check, "isClose", WARDS, (hall, ward) -> Check.bit(hall.isClose(ward)));
    }

    /** Box k is off by 5 and box l makes a tie: reasons 2 to 5 stand against the ward, as long as nothing is done. */
    private static CountHall withAllReasons() {
        return Check.hall(WARD + "box k w 3 1 4 4 0;box l w 2 2 1 1 0;table 0;table 0;");
    }

    @Sentence(promise = 32, says = {
            "Returns 1: it is declared;",
            "0: none of these, it is ready.",
            "Returns why a ward cannot be declared now: the first of these reasons that applies."})
    static void theFirstReason(Check check) {
        CountHall hall = withAllReasons();
        hall.bring(0);
        check.due("not counted, and away", hall.whyNot(0), 2);
        Check.count(hall, 0, 0);
        check.due("not counted, away, off and close", hall.whyNot(0), 2);
        hall.bring(1);
        hall.open(1, 1);
        hall.countBox(1);
        check.due("not in the hall, off and close", hall.whyNot(0), 3);
        hall.seal(1);
        check.due("off and close", hall.whyNot(0), 4);
        hall.setSetting(TOLERANCE, 5);
        check.due("close", hall.whyNot(0), 5);
        Check.count(hall, 1, 0);
        check.due("close, and the other one is not confirmed", hall.whyNot(0), 5);
        Check.count(hall, 0, 1);
        check.due("nothing", hall.whyNot(0), 0);
        hall.declare();
        hall.setSetting(TOLERANCE, 0);
        check.due("declared", hall.whyNot(0), 1);
    }

    @Sentence(promise = 32, says = "2: it has no box, or one that was not counted;")
    static void reason2(Check check) {
        check.due("no box", Check.hall(WARD).whyNot(0), 2);
        CountHall other = counted(WARD + "ward x r;box k w 10 1 9 0 1;");
        check.due("a box in another ward alone", other.whyNot(1), 2);
        CountHall hall = Check.hall(WARD + "box k w 9 1 9 0 0;box l w 9 2 9 0 0;table 0;");
        hall.bring(0);
        hall.bring(1);
        check.due("neither is counted", hall.whyNot(0), 2);
        Check.count(hall, 1, 0);
        check.due("the first one is not counted", hall.whyNot(0), 2);
        Check.count(hall, 0, 0);
        check.due("both are", hall.whyNot(0), 0);
    }

    @Sentence(promise = 32, says = "3: one of its boxes is not in the hall;")
    static void reason3(Check check) {
        CountHall hall = counted(WARD + "ward x r;box k w 9 1 9 0 0;box l w 9 2 9 0 0;box m x 9 2 9 0 0;");
        for (int box = 0; box < 2; box++) {
            hall.open(box, 0);
            check.due("box " + box + " is at a table", hall.whyNot(0), 3);
            hall.seal(0);
            check.due("both are in the hall", hall.whyNot(0), 0);
        }
        hall.open(2, 0);
        check.due("a box of another ward is at a table", hall.whyNot(0), 0);
    }

    @Sentence(promise = 32, says = "4: one of its boxes is off and not confirmed;")
    static void reason4(Check check) {
        CountHall hall = counted(WARD + "box k w 9 1 9 0 0;box l w 8 2 9 0 0;table 0;");
        check.due("off by 1", hall.whyNot(0), 4);
        hall.setSetting(TOLERANCE, 1);
        check.due("off no more", hall.whyNot(0), 0);
        hall.undo();
        Check.count(hall, 0, 1);
        check.due("the other box is confirmed", hall.whyNot(0), 4);
        Check.count(hall, 1, 1);
        check.due("off and confirmed", hall.whyNot(0), 0);
        check.due("the first of two boxes is off", counted(WARD + "box k w 8 1 9 0 0;box l w 9 2 9 0 0;").whyNot(0), 4);
    }

    @Sentence(promise = 32, says = "5: it is close, and one of its boxes is not confirmed;")
    static void reason5(Check check) {
        CountHall hall = counted(WARD + "box k w 60 1 60 0 0;box l w 40 2 0 40 0;table 0;set trigger 20;");
        check.due("close, none is confirmed", hall.whyNot(0), 5);
        hall.setSetting(TRIGGER, 19);
        check.due("not close", hall.whyNot(0), 0);
        hall.undo();
        Check.count(hall, 0, 1);
        check.due("close, one is confirmed", hall.whyNot(0), 5);
        Check.count(hall, 1, 1);
        check.due("close, both are confirmed", hall.whyNot(0), 0);
        hall.undo();
        hall.undo();
        hall.undo();
        Check.count(hall, 1, 1);
        check.due("close, both are confirmed again", hall.whyNot(0), 0);
        CountHall last = counted(WARD + "box k w 60 1 60 0 0;box l w 40 2 0 40 0;table 0;set trigger 20;");
        Check.count(last, 1, 1);
        check.due("close, the last one is confirmed", last.whyNot(0), 5);
        check.due("no votes", counted(WARD + "box k w 9 1 0 0 9;set trigger 50;").whyNot(0), 0);
        check.due("no papers", counted(WARD + "box k w 0 1 0 0 0;set trigger 50;").whyNot(0), 0);
    }

    @Sentence(promise = 32, says = "Throws `IndexOutOfBoundsException` if ward is not a valid index")
    static void whyNotOutside(Check check) {
        indexes(check, "whyNot", WARDS, CountHall::whyNot);
    }

    @Sentence(promise = 33, says = "of wards that are not declared those that were not counted, those that are off"
            + " and not confirmed,"
            + " and those of close wards that are not confirmed.")
    static void boxesToCount(Check check) {
        CountHall hall = Check.hall(WARD + "ward x r;table 0;table 0;"
                + "box k w 9 1 9 0 0;box l w 8 2 9 0 0;box m x 4 3 4 0 0;box n x 4 4 0 4 0;");
        check.due("none is counted", hall.toCount(), 0b1111);
        for (int box = 0; box < 4; box++) {
            hall.bring(box);
            Check.count(hall, box, 0);
        }
        check.due("one is off, two are of a close ward", hall.toCount(), 0b1110);
        hall.setSetting(TOLERANCE, 1);
        check.due("none is off", hall.toCount(), 0b1100);
        hall.declare();
        hall.setSetting(TOLERANCE, 0);
        check.due("the ward of the one that is off is declared", hall.toCount(), 0b1100);
        Check.count(hall, 2, 1);
        check.due("one of the close ward is confirmed", hall.toCount(), 0b1000);
        Check.count(hall, 3, 1);
        check.due("both are", hall.toCount(), 0);
        CountHall off = counted(WARD + "box k w 9 1 9 9 0;table 0;");
        Check.count(off, 0, 1);
        check.due("off, of a close ward, and confirmed", off.toCount(), 0);
        check.due("an empty hall", new CountHall().toCount(), 0);
    }

    @Sentence(promise = 33, says = "Returns the boxes as a bit set.")
    static void boxesAsBits(Check check) {
        check.due("twelve boxes", Check.hall(HallSentences.largest()).toCount(), 0xfff);
        CountHall hall = Check.hall(WARD + "box k w 1 1 1 0 0;box l w 1 1 1 0 0;box m w 1 1 1 0 0;table 0;");
        hall.bring(1);
        Check.count(hall, 1, 0);
        check.due("all but box 1", hall.toCount(), 0b101);
    }

    @Sentence(promise = 34, says = "if it was counted at the tables that there are in the way that is best"
            + " (wherever the box is, and whatever is at the tables).")
    static void whereverTheBoxIs(Check check) {
        CountHall hall = Check.hall(WARD + "box k w 10 1 6 3 1;box l w 10 2 6 3 1;table 0;table 99;");
        check.due("away", hall.countsLeft(0), 2);
        hall.tamper(0, 5);
        check.due("with a bad seal", hall.countsLeft(0), 2);
        hall.accept(0);
        hall.bring(0);
        check.due("in the hall", hall.countsLeft(0), 2);
        hall.bring(1);
        hall.open(1, 1);
        check.due("a table has another box", hall.countsLeft(0), 2);
        hall.open(0, 0);
        check.due("at a table", hall.countsLeft(0), 2);
        hall.countBox(0);
        check.due("counted, the table that agrees has another box", hall.countsLeft(0), 1);
    }

    @Sentence(promise = 34, says = "Returns 0 if it is confirmed, 1 or 2;")
    static void countsThatAreLeft(Check check) {
        check.due("no count", withCounts().countsLeft(0), 2);
        check.due("a count that another table repeats", withCounts(0).countsLeft(0), 1);
        check.due("a later table's count, repeated by the first table", withCounts(1).countsLeft(0), 1);
        check.due("a count that no table repeats", withCounts(2).countsLeft(0), 2);
        check.due("the first of two counts", withCounts(0, 2).countsLeft(0), 1);
        check.due("the second of two counts", withCounts(2, 0).countsLeft(0), 1);
        check.due("confirmed by two", withCounts(0, 1).countsLeft(0), 0);
        check.due("confirmed by the last of four", withCounts(2, 2, 0, 1).countsLeft(0), 0);
        CountHall wrong = Check.hall(WARD + "box k w 10 7 6 3 1;table 0;table 3;table 3;");
        check.due("tables that are wrong in the same way", wrong.countsLeft(0), 2);
        check.due("no papers", Check.hall(WARD + "box k w 0 1 0 0 0;table 0;table 3;").countsLeft(0), 2);
        CountHall undone = withCounts(0);
        undone.undo();
        undone.undo();
        check.due("a count that was undone", undone.countsLeft(0), 2);
    }

    @Sentence(promise = 34, says = "at the tables that there are")
    static void allTablesAreLookedAt(Check check) {
        String none = "region r;ward w r;box k w 9 1 9;table 1;table 2;";
        check.due("no parties", Check.hall(none).countsLeft(0), 2);
        check.due("no parties, counted", HallSentences.countedAt(0, none).countsLeft(0), 1);
        String four = "party a;region r;ward w r;box k w 9 1 6 3;table 1;table 2;table 0;table 99;";
        check.due("the last two of four tables", Check.hall(four).countsLeft(0), 2);
        check.due("the last one of four tables", HallSentences.countedAt(2, four).countsLeft(0), 1);
        String five = "party a;party b;party c;party d;party e;region r;ward w r;box k w 21 7 1 2 3 4 5 6;"
                + "table 2;table 0;table 99;table 3;";
        check.due("six piles", Check.hall(five).countsLeft(0), 2);
        check.due("six piles, counted", HallSentences.countedAt(1, five).countsLeft(0), 1);
        check.due("six piles, counted at another table", HallSentences.countedAt(3, five).countsLeft(0), 2);
        check.due("six piles, three counts", threeCounts(five).countsLeft(0), NOT_FOUND);
    }

    private static CountHall threeCounts(String text) {
        CountHall hall = Check.hall(text);
        hall.bring(0);
        for (int count = 0; count < 3; count++) {
            Check.count(hall, 0, 3);
        }
        return hall;
    }

    @Sentence(promise = 34, says = "NOT_FOUND if that is not possible with the tables that there are, or with at most 4 counts.")
    static void cannotBeConfirmed(Check check) {
        String box = WARD + "box k w 10 7 6 3 1;";
        check.due("no table", Check.hall(box).countsLeft(0), NOT_FOUND);
        check.due("one table", Check.hall(box + "table 0;").countsLeft(0), NOT_FOUND);
        check.due("tables that do not agree", Check.hall(box + "table 0;table 3;table 1;table 5;").countsLeft(0), NOT_FOUND);
        check.due("two counts, and two more", withCounts(2, 2).countsLeft(0), 2);
        check.due("three counts, and two more", withCounts(2, 2, 2).countsLeft(0), NOT_FOUND);
        check.due("three counts, and one more", withCounts(2, 2, 0).countsLeft(0), 1);
        check.due("four counts, and one more", withCounts(2, 2, 2, 0).countsLeft(0), NOT_FOUND);
        check.due("four counts of one table", withCounts(0, 0, 0, 0).countsLeft(0), NOT_FOUND);
    }

    @Sentence(promise = 34, says = "Throws `IndexOutOfBoundsException` if box is not a valid index")
    static void countsLeftOutside(Check check) {
        indexes(check, "countsLeft", BOXES, CountHall::countsLeft);
    }

    private static int right(String papers, String tables) {
        return Check.hall(WARD + "box k w 10 7 " + papers + ";" + tables).rightTable(0);
    }

    @Sentence(promise = 35, says = "Ties are broken by lower index.")
    static void theFirstRightTable(Check check) {
        check.due("all are right", right("6 3 1", "table 99;table 0;table 11;"), 0);
        check.due("the last two", right("6 3 1", "table 3;table 99;table 0;"), 1);
        check.due("the last one", right("6 3 1", "table 3;table 10;table 1;table 0;"), 3);
    }

    @Sentence(promise = 35, says = "Returns the table whose count of a box would find the truth for all piles, if there is one.")
    static void rightForAllPiles(Check check) {
        check.due("the first pile alone", right("6 3 1", "table 5;"), NOT_FOUND);
        check.due("the last pile alone", right("6 3 4", "table 3;"), NOT_FOUND);
        check.due("slipped papers that are made up for", right("5 5 5", "table 1;"), 0);
        check.due("no papers", right("0 0 0", "table 1;"), 0);
        check.due("no parties", Check.hall("region r;ward w r;box k w 1 1 9;table 1;").rightTable(0), 0);
    }

    @Sentence(promise = 35, says = "NOT_FOUND if there is none.")
    static void noRightTable(Check check) {
        check.due("no table", right("6 3 1", ""), NOT_FOUND);
        check.due("wrong tables", right("6 3 1", "table 1;table 2;table 3;table 10;"), NOT_FOUND);
    }

    @Sentence(promise = 35, says = "Throws `IndexOutOfBoundsException` if box is not a valid index")
    static void rightTableOutside(Check check) {
        indexes(check, "rightTable", BOXES, CountHall::rightTable);
    }

    @Sentence(promise = 36, says = "NOT_FOUND if there is none.")
    static void noNextWard(Check check) {
        check.due("an empty hall", new CountHall().nextWard(), NOT_FOUND);
        check.due("a ward without a box", Check.hall(WARD).nextWard(), NOT_FOUND);
        check.due("a box that is not counted", Check.hall(BOX).nextWard(), NOT_FOUND);
        CountHall hall = withCounts(0);
        check.due("a ward that is ready", hall.nextWard(), 0);
        hall.declare();
        check.due("a declared ward", hall.nextWard(), NOT_FOUND);
    }

    // Promises 37 to 44: what is declared, and what is wrong.

    @Sentence(promise = 37, says = "Returns the number of wards that are declared.")
    static void declaredWards(Check check) {
        check.due("an empty hall", new CountHall().declaredCount(), 0);
        StringBuilder text = new StringBuilder("party a;region r;");
        for (char name = 'a'; name < 'g'; name++) {
            text.append("ward ").append(name).append(" r;box ").append(name).append(' ').append(name).append(" 9 1 9 0;");
        }
        CountHall hall = counted(text.toString());
        for (int ward = 0; ward < 6; ward++) {
            check.due("declaredCount", hall.declaredCount(), ward);
            check.due("declare", hall.declare(), ward);
        }
        check.due("all wards", hall.declaredCount(), 6);
        check.due("declare", hall.declare(), NOT_FOUND);
        check.due("all wards", hall.declaredCount(), 6);
        check.due("the last one", hall.declared(5), 5);
    }

    @Sentence(promise = 38, says = {
            "Returns a ward that is declared, in the order in which they were.",
            "- `k`: 0 for the first one",
            "NOT_FOUND if there is no such ward."})
    static void noSuchDeclaredWard(Check check) {
        CountHall hall = counted("party a;region r;ward v r;ward w r;box k v 9 1 9 0;box l w 8 1 8 0;");
        answers(check, "none is declared", NOT_FOUND, hall::declared, -1, 0, 1, 5, 6, Integer.MIN_VALUE, FAR);
        hall.declare();
        check.due("the first one", hall.declared(0), 1);
        answers(check, "one is declared", NOT_FOUND, hall::declared, -1, 1, 2, Integer.MIN_VALUE, FAR);
        hall.declare();
        check.due("the second one", hall.declared(1), 0);
        answers(check, "two are declared", NOT_FOUND, hall::declared, -1, 2, FAR);
        hall.undo();
        check.due("undone", hall.declared(1), NOT_FOUND);
    }

    @Sentence(promise = 39, says = "whether it has wards in it (see wardsIn), and all of them are declared.")
    static void declaredRegions(Check check) {
        CountHall hall = counted("party a;region p;region q in p;region r;ward v q;ward w p;box k v 8 1 8 0;box l w 9 1 9 0;");
        check.fails("none of its wards", hall.isRegionDeclared(0));
        check.fails("no wards in it", hall.isRegionDeclared(2));
        hall.declare();
        check.fails("one of two wards", hall.isRegionDeclared(0));
        check.holds("its only ward", hall.isRegionDeclared(1));
        hall.declare();
        check.holds("both wards, one of an inner region", hall.isRegionDeclared(0));
        check.fails("no wards in it", hall.isRegionDeclared(2));
    }

    @Sentence(promise = 39, says = "Throws `IndexOutOfBoundsException` if region is not a valid index")
    static void isRegionDeclaredOutside(Check check) {
        indexes(check, "isRegionDeclared", REGIONS, (hall, region) -> Check.bit(hall.isRegionDeclared(region)));
    }

    @Sentence(promise = 40, says = "Returns the votes of a party in all declared wards of a region (see wardsIn).")
    static void votesOfDeclaredWardsAlone(Check check) {
        CountHall hall = counted("party a;region p;region q in p;region r;ward v q;ward w p;ward x p;"
                + "box k v 8 1 8 0;box l w 9 1 9 0;box m x 3 1 4 0;");
        check.due("none is declared", hall.regionVotes(0, 0), 0);
        hall.declare();
        check.due("one of an inner region", hall.regionVotes(0, 0), 8);
        hall.declare();
        check.due("two", hall.regionVotes(0, 0), 17);
        check.due("the inner region", hall.regionVotes(1, 0), 8);
        check.due("a region without wards", hall.regionVotes(2, 0), 0);
        check.due("the third one is off", hall.declare(), NOT_FOUND);
        check.due("two of three", hall.regionVotes(0, 0), 17);
    }

    @Sentence(promise = 40, says = "BAD_VALUE if there is no such party.")
    static void regionVotesOfNoParty(Check check) {
        CountHall hall = withCounts(0);
        hall.declare();
        answers(check, "regionVotes", BAD_VALUE, party -> hall.regionVotes(0, party), -1, 2, 3, 5, Integer.MIN_VALUE, FAR);
        check.due("the last party", hall.regionVotes(0, 1), 3);
        check.due("spoilt ones without parties", Check.hall("region r;").regionVotes(0, 0), BAD_VALUE);
    }

    @Sentence(promise = 40, says = "Throws `IndexOutOfBoundsException` if region is not a valid index (checked first)")
    static void regionVotesOutside(Check check) {
        indexes(check, "regionVotes", REGIONS, (hall, region) -> hall.regionVotes(region, 0));
        indexes(check, "regionVotes of no party", REGIONS, (hall, region) -> hall.regionVotes(region, 9));
    }

    @Sentence(promise = 41, says = "Returns the number of declared wards of a region in which a party leads (see wardsIn).")
    static void seatsOfLeaders(Check check) {
        CountHall hall = counted(WARD + "ward x r;ward y r;box k w 4 1 4 0 0;box l x 9 1 0 0 9;box m y 9 1 2 7 0;");
        check.due("none is declared", hall.regionSeats(0, 0), 0);
        hall.declare();
        check.due("one is declared", hall.regionSeats(0, 0), 1);
        hall.declare();
        check.due("nobody leads without votes", hall.regionSeats(0, 0), 1);
        check.due("a ward that is not declared", hall.regionSeats(0, 1), 0);
        hall.declare();
        check.due("all are declared", hall.regionSeats(0, 1), 1);
    }

    @Sentence(promise = 41, says = "BAD_VALUE if there is no such party.")
    static void regionSeatsOfNoParty(Check check) {
        CountHall hall = withCounts(0);
        hall.declare();
        answers(check, "regionSeats", BAD_VALUE, party -> hall.regionSeats(0, party), -1, 2, 3, 5, Integer.MIN_VALUE, FAR);
        check.due("the last party", hall.regionSeats(0, 1), 0);
        check.due("no parties", Check.hall("region r;").regionSeats(0, 0), BAD_VALUE);
    }

    @Sentence(promise = 41, says = "Throws `IndexOutOfBoundsException` if region is not a valid index (checked first)")
    static void regionSeatsOutside(Check check) {
        indexes(check, "regionSeats", REGIONS, (hall, region) -> hall.regionSeats(region, 0));
        indexes(check, "regionSeats of no party", REGIONS, (hall, region) -> hall.regionSeats(region, 9));
    }

    @Sentence(promise = 42, says = "whether one party has more seats in it (see regionSeats) than each other party would have"
            + " if that led in all wards of the region that are not declared, too.")
    static void decidedBySeats(Check check) {
        CountHall hall = counted("party a;party b;region r;region s in r;ward u r;ward v r;ward w s;ward x r;ward y s;"
                + "box k u 1 1 1 0 0;box l v 2 1 2 0 0;box m w 3 1 0 3 0;box n x 4 1 4 0 0;box o y 5 1 5 0 0;");
        boolean[] due = {false, false, false, false, true, true};
        for (int wards = 0; wards <= 5; wards++) {
            check.due("decided after " + wards, Check.bit(hall.isDecided(0)), Check.bit(due[wards]));
            hall.declare();
        }
        check.fails("one seat each", hall.isDecided(1));
        CountHall open = counted("party a;party b;region r;ward u r;ward v r;ward w r;box k u 1 1 0 1 0;box l v 2 1 0 2 0;");
        open.declare();
        check.fails("1 seat, 0 and 2 open", open.isDecided(0));
        open.declare();
        check.holds("2 seats, 0 and 1 open without a box", open.isDecided(0));
        CountHall tie = counted("party a;party b;region r;ward u r;ward v r;box k u 1 1 0 1 0;");
        tie.declare();
        check.fails("1 seat, 0 and 1 open without a box", tie.isDecided(0));
        check.fails("no wards", Check.hall("party a;party b;region r;").isDecided(0));
    }

    @Sentence(promise = 42, says = "Returns true if so, also if there is one party alone; false if there are no parties.")
    static void decidedWithoutOthers(Check check) {
        check.holds("one party, no wards", Check.hall("party a;region r;").isDecided(0));
        check.holds("one party, an open ward", Check.hall("party a;region r;ward w r;").isDecided(0));
        check.fails("no parties, no wards", Check.hall("region r;").isDecided(0));
        CountHall none = counted("region r;ward w r;box k w 9 1 9;");
        none.declare();
        check.fails("no parties, all declared", none.isDecided(0));
    }

    @Sentence(promise = 42, says = "Throws `IndexOutOfBoundsException` if region is not a valid index")
    static void isDecidedOutside(Check check) {
        indexes(check, "isDecided", REGIONS, (hall, region) -> Check.bit(hall.isDecided(region)));
    }

    @Sentence(promise = 43, says = "half the sum, over all boxes that were counted and all piles, of the differences.")
    static void misplacedPapers(Check check) {
        check.due("an empty hall", new CountHall().misplaced(), 0);
        check.due("not counted", withCounts().misplaced(), 0);
        check.due("the truth", withCounts(0).misplaced(), 0);
        check.due("4 4 2 in place of 6 3 1", withCounts(2).misplaced(), 2);
        check.due("the valid count", withCounts(2, 0).misplaced(), 0);
        String two = WARD + "box k w 10 7 300 0 0;box l w 10 7 0 0 300;table 1;";
        check.due("all papers", HallSentences.countedAt(0, two).misplaced(), 600);
        CountHall made = HallSentences.countedAt(0, "party a;region r;ward w r;box k w 2 1 1 1;table 1;");
        check.due("as many on each pile, though none is its own", made.misplaced(), 0);
    }

    @Sentence(promise = 44, says = "the most counts (of all boxes)")
    static void wrongCountsOfAllBoxes(Check check) {
        String text = "party a;region r;ward w r;box k w 1 1 0 0;box l w 1 1 0 0;box m w 1 1 5 0;table 0;table 2;";
        check.due("the last of three boxes", HallSentences.countedAt(1, text).worstTable(), 1);
        CountHall hall = Check.hall(HallSentences.largest());
        hall.bring(11);
        Check.count(hall, 11, 3);
        check.due("the last of twelve boxes, right", hall.worstTable(), NOT_FOUND);
        Check.count(hall, 11, 2);
        check.due("the last of twelve boxes, wrong", hall.worstTable(), 2);
    }

    @Sentence(promise = 44, says = "Ties are broken by lower index.")
    static void theFirstOfTheWorst(Check check) {
        CountHall hall = Check.hall(WARD + "box k w 10 7 6 3 1;box l w 10 7 6 3 1;table 0;table 3;table 1;");
        hall.bring(0);
        hall.bring(1);
        Check.count(hall, 0, 2);
        check.due("the last table alone", hall.worstTable(), 2);
        Check.count(hall, 1, 1);
        check.due("a tie of the last two", hall.worstTable(), 1);
        Check.count(hall, 0, 2);
        check.due("the most", hall.worstTable(), 2);
        Check.count(hall, 0, 1);
        check.due("a tie again", hall.worstTable(), 1);
    }

    @Sentence(promise = 44, says = "NOT_FOUND if there was no such count.")
    static void noWorstTable(Check check) {
        check.due("an empty hall", new CountHall().worstTable(), NOT_FOUND);
        check.due("no counts", withCounts().worstTable(), NOT_FOUND);
        check.due("right counts", withCounts(0, 1).worstTable(), NOT_FOUND);
        check.due("one wrong count, which is not the valid one", withCounts(2, 0, 1).worstTable(), 2);
        CountHall last = Check.hall(WARD + "box k w 10 7 6 3 1;table 10;");
        last.bring(0);
        Check.count(last, 0, 0);
        check.due("wrong on the first and the last pile", last.worstTable(), 0);
        last.undo();
        last.undo();
        check.due("the count was undone", last.worstTable(), NOT_FOUND);
    }
}
