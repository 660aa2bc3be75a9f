/** Tests of the sentences of promises 45 to 56 that name a boundary case. */
final class ChangeSentences {
    private static final int NOT_FOUND = CountHall.NOT_FOUND;
    private static final int BAD_VALUE = CountHall.BAD_VALUE;
    private static final int FULL = CountHall.FULL;
    private static final int NOT_ALLOWED = CountHall.NOT_ALLOWED;
    private static final int AWAY = CountHall.AWAY;
    private static final int HALL = CountHall.HALL;
    private static final int TRIGGER = CountHall.TRIGGER;
    private static final int TOLERANCE = CountHall.TOLERANCE;
    private static final int[] NO_SETTINGS = {-1, 2, Integer.MIN_VALUE, Integer.MAX_VALUE};
    private static final String WARD = "party a;party b;region r;ward w r;";
    private static final String TWO = WARD + "box k w 10 7 9 0 1;box l w 10 8 9 0 1;table 0;table 3;table 0;";

    private static int[] outside(int number) {
        return new int[] {-1, number, Integer.MIN_VALUE, Integer.MAX_VALUE, AWAY, HALL};
    }

    private static CountHall away() {
        return Check.hall(TWO);
    }

    private static CountHall brought() {
        CountHall hall = away();
        hall.bring(0);
        hall.bring(1);
        return hall;
    }

    /** Box 0 stands at table 1. */
    private static CountHall opened() {
        CountHall hall = brought();
        hall.open(0, 1);
        return hall;
    }

    private static CountHall declared() {
        CountHall hall = brought();
        Check.count(hall, 0, 0);
        Check.count(hall, 1, 0);
        hall.declare();
        return hall;
    }

    private static CountHall tampered(CountHall hall) {
        hall.tamper(0, 99);
        return hall;
    }

    private static CountHall fullLedger() {
        CountHall hall = away();
        for (int entries = 2; entries <= 12; entries++) {
            hall.tamper(0, 100 + entries);
            hall.accept(0);
        }
        return hall;
    }

    // Promise 45: bring.

    @Sentence(promise = 45, says = "Returns the number of boxes in the hall then;")
    static void boxesInTheHall(Check check) {
        CountHall hall = Check.hall(HallSentences.largest());
        for (int box = 11; box >= 1; box--) {
            check.due("bring " + box, hall.bring(box), 12 - box);
        }
        check.due("open", hall.open(5, 0), 6);
        check.due("bring the last one, while another is at a table", hall.bring(0), 11);
    }

    @Sentence(promise = 45, says = "NOT_FOUND if box is not a valid index;")
    static void bringNoBox(Check check) {
        for (int box : outside(2)) {
            check.refused("bring(" + box + ")", ChangeSentences::away, hall -> hall.bring(box), NOT_FOUND);
        }
        check.due("bring in an empty hall", new CountHall().bring(0), NOT_FOUND);
        check.due("the last index", away().bring(1), 1);
    }

    @Sentence(promise = 45, says = "NOT_ALLOWED if it is not AWAY;")
    static void bringAgain(Check check) {
        check.refused("bring a box of the hall", ChangeSentences::brought, hall -> hall.bring(1), NOT_ALLOWED);
        check.refused("bring a box at a table", ChangeSentences::opened, hall -> hall.bring(0), NOT_ALLOWED);
        check.refused("bring a box of a declared ward", ChangeSentences::declared, hall -> hall.bring(0), NOT_ALLOWED);
        CountHall undone = brought();
        undone.undo();
        check.due("bring a box that is away again", undone.bring(1), 2);
    }

    @Sentence(promise = 45, says = "checked in this order.")
    static void bringChecksInOrder(Check check) {
        CountHall hall = brought();
        check.due("no box", hall.bring(2), NOT_FOUND);
        check.due("no box", hall.bring(-1), NOT_FOUND);
        check.due("a box that is not away", hall.bring(0), NOT_ALLOWED);
    }

    // Promise 46: open.

    @Sentence(promise = 46, says = {
            "Returns the seal that was taken off;",
            "Puts a box that is in the hall on a table: its seal is taken off."})
    static void openTakesTheSealOff(Check check) {
        CountHall hall = opened();
        check.due("placeOf", hall.placeOf(0), 1);
        check.due("boxAt", hall.boxAt(1), 0);
        check.due("the seal that was taken off", brought().open(0, 0), 7);
        check.due("the seal", hall.boxProperty(0, 2), 0);
        check.due("the ledger keeps it", hall.ledger(0, 0), 7);
        check.due("another box at another table", hall.open(1, 2), 8);
    }

    @Sentence(promise = 46, says = "NOT_FOUND if box or table is not a valid index;")
    static void openNoBoxOrTable(Check check) {
        for (int box : outside(2)) {
            check.refused("open(" + box + ", 0)", ChangeSentences::brought, hall -> hall.open(box, 0), NOT_FOUND);
        }
        for (int table : outside(3)) {
            check.refused("open(0, " + table + ")", ChangeSentences::brought, hall -> hall.open(0, table), NOT_FOUND);
        }
        check.due("open in an empty hall", new CountHall().open(0, 0), NOT_FOUND);
        CountHall noTable = Check.hall(WARD + "box k w 1 1 1 1 1;");
        noTable.bring(0);
        check.due("open without tables", noTable.open(0, 0), NOT_FOUND);
        check.due("the last indexes", brought().open(1, 2), 8);
    }

    @Sentence(promise = 46, says = "NOT_ALLOWED if the box is not in the hall, the table has a box, or the ward of"
            + " the box is declared;")
    static void openNotAllowed(Check check) {
        check.refused("open a box that is away", ChangeSentences::away, hall -> hall.open(0, 0), NOT_ALLOWED);
        check.refused("open a box at another table", ChangeSentences::opened, hall -> hall.open(0, 0), NOT_ALLOWED);
        check.refused("open a box at the same table", ChangeSentences::opened, hall -> hall.open(0, 1), NOT_ALLOWED);
        check.refused("open at a table with a box", ChangeSentences::opened, hall -> hall.open(1, 1), NOT_ALLOWED);
        check.refused("open a box of a declared ward", ChangeSentences::declared, hall -> hall.open(1, 2), NOT_ALLOWED);
        check.due("open at a table without a box", opened().open(1, 0), 8);
    }

    @Sentence(promise = 46, says = "BAD_SEAL if its seal is not good;")
    static void openWithABadSeal(Check check) {
        check.refused("open", () -> tampered(brought()), hall -> hall.open(0, 0), CountHall.BAD_SEAL);
        CountHall hall = tampered(brought());
        check.due("open the other box", hall.open(1, 0), 8);
        hall.accept(0);
        check.due("open with a seal that was accepted", hall.open(0, 1), 99);
        CountHall back = tampered(brought());
        back.tamper(0, 7);
        check.due("open with the seal that it had", back.open(0, 0), 7);
    }

    @Sentence(promise = 46, says = "checked in this order.")
    static void openChecksInOrder(Check check) {
        check.due("no table, and away", away().open(0, 3), NOT_FOUND);
        check.due("no box, at a table with a box", opened().open(2, 1), NOT_FOUND);
        check.due("away, with a bad seal", tampered(away()).open(0, 0), NOT_ALLOWED);
        check.due("of a declared ward, with a bad seal", tampered(declared()).open(0, 0), NOT_ALLOWED);
        CountHall hall = opened();
        hall.tamper(1, 99);
        check.due("at a table with a box, with a bad seal", hall.open(1, 1), NOT_ALLOWED);
    }

    // Promise 47: countBox.

    @Sentence(promise = 47, says = "NOT_FOUND if table is not a valid index;")
    static void countAtNoTable(Check check) {
        for (int table : outside(3)) {
            check.refused("countBox(" + table + ")", ChangeSentences::opened, hall -> hall.countBox(table), NOT_FOUND);
        }
        check.due("countBox in an empty hall", new CountHall().countBox(0), NOT_FOUND);
        CountHall last = brought();
        last.open(0, 2);
        check.due("the last table", last.countBox(2), 1);
    }

    @Sentence(promise = 47, says = "NOT_ALLOWED if it has no box;")
    static void countWithoutABox(Check check) {
        check.refused("countBox", ChangeSentences::brought, hall -> hall.countBox(1), NOT_ALLOWED);
        check.refused("countBox beside the box", ChangeSentences::opened, hall -> hall.countBox(0), NOT_ALLOWED);
        CountHall hall = opened();
        hall.seal(1);
        check.due("countBox when it is sealed", hall.countBox(1), NOT_ALLOWED);
    }

    private static CountHall countedFourTimes() {
        CountHall hall = opened();
        for (int counts = 1; counts <= 4; counts++) {
            hall.countBox(1);
        }
        return hall;
    }

    @Sentence(promise = 47, says = {"Returns the number of counts of the box then;", "FULL if the box has 4 counts;"})
    static void aFifthCount(Check check) {
        CountHall hall = opened();
        for (int counts = 1; counts <= 4; counts++) {
            check.due("countBox", hall.countBox(1), counts);
        }
        check.refused("a fifth one", ChangeSentences::countedFourTimes, full -> full.countBox(1), FULL);
        check.refused("a fifth one at another table", () -> {
            CountHall full = countedFourTimes();
            full.seal(1);
            full.open(0, 0);
            return full;
        }, full -> full.countBox(0), FULL);
        hall.undo();
        check.due("the fourth one again", hall.countBox(1), 4);
        hall.open(1, 0);
        check.due("the other box", hall.countBox(0), 1);
    }

    @Sentence(promise = 47, says = "checked in this order.")
    static void countChecksInOrder(Check check) {
        CountHall hall = countedFourTimes();
        check.due("no table", hall.countBox(3), NOT_FOUND);
        check.due("no box at the table", hall.countBox(0), NOT_ALLOWED);
        check.due("four counts", hall.countBox(1), FULL);
    }

    // Promise 48: seal.

    @Sentence(promise = 48, says = "NOT_FOUND if table is not a valid index;")
    static void sealAtNoTable(Check check) {
        for (int table : outside(3)) {
            check.refused("seal(" + table + ")", ChangeSentences::opened, hall -> hall.seal(table), NOT_FOUND);
        }
        check.due("seal in an empty hall", new CountHall().seal(0), NOT_FOUND);
        CountHall last = brought();
        last.open(0, 2);
        check.due("the last table", last.seal(2), 5000);
    }

    @Sentence(promise = 48, says = "NOT_ALLOWED if it has no box;")
    static void sealWithoutABox(Check check) {
        check.refused("seal", ChangeSentences::brought, hall -> hall.seal(1), NOT_ALLOWED);
        check.refused("seal beside the box", ChangeSentences::opened, hall -> hall.seal(0), NOT_ALLOWED);
        CountHall hall = opened();
        hall.seal(0);
        check.due("the first seal, after one that was refused", hall.seal(1), 5000);
        check.due("seal again", hall.seal(1), NOT_ALLOWED);
    }

    private static CountHall fullLedgerAtTable1() {
        CountHall hall = fullLedger();
        hall.bring(0);
        hall.open(0, 1);
        return hall;
    }

    @Sentence(promise = 48, says = {
            "it gets the next seal (see SEALS), which is an entry of its ledger.",
            "FULL if the ledger of the box has 12 entries;"})
    static void sealWithAFullLedger(Check check) {
        check.refused("seal", ChangeSentences::fullLedgerAtTable1, hall -> hall.seal(1), FULL);
        CountHall hall = fullLedgerAtTable1();
        check.due("seal", hall.seal(1), FULL);
        check.due("placeOf", hall.placeOf(0), 1);
        hall.bring(1);
        hall.open(1, 0);
        check.due("the other box gets the first seal", hall.seal(0), 5000);

        CountHall eleven = fullLedger();
        eleven.undo();
        eleven.undo();
        eleven.bring(0);
        eleven.open(0, 1);
        check.due("entries", eleven.ledgerSize(0), 11);
        check.due("seal with a ledger of 11 entries", eleven.seal(1), 5000);
        check.due("the twelfth entry", eleven.ledger(0, 11), 5000);
    }

    @Sentence(promise = 48, says = "checked in this order.")
    static void sealChecksInOrder(Check check) {
        CountHall hall = fullLedgerAtTable1();
        check.due("no table", hall.seal(3), NOT_FOUND);
        check.due("no box at the table", hall.seal(0), NOT_ALLOWED);
        check.due("a full ledger", hall.seal(1), FULL);
    }

    // Promise 49: tamper.

    @Sentence(promise = 49, says = "it becomes the one that is told (possibly the same), without an entry in the ledger.")
    static void tamperMakesNoEntry(Check check) {
        CountHall hall = away();
        check.due("the same seal", hall.tamper(0, 7), 7);
        check.holds("it is good still", hall.isSealGood(0));
        check.due("another seal", hall.tamper(0, 9), 7);
        check.due("the seal", hall.boxProperty(0, 2), 9);
        check.due("the other box's seal", hall.boxProperty(1, 2), 8);
        check.due("entries", hall.ledgerSize(0), 1);
        check.due("the entry", hall.ledger(0, 0), 7);
        CountHall late = declared();
        check.due("in the hall, of a declared ward", late.tamper(0, 9), 5000);
        CountHall full = fullLedger();
        check.due("with a full ledger", full.tamper(0, 9), 112);
    }

    @Sentence(promise = 49, says = "NOT_FOUND if box is not a valid index;")
    static void tamperNoBox(Check check) {
        for (int box : outside(2)) {
            check.refused("tamper(" + box + ", 5)", ChangeSentences::away, hall -> hall.tamper(box, 5), NOT_FOUND);
        }
        check.due("tamper in an empty hall", new CountHall().tamper(0, 5), NOT_FOUND);
        check.due("the last index", away().tamper(1, 5), 8);
    }

    @Sentence(promise = 49, says = {"- `seal`: the seal that is on it then, 1 to 9999", "BAD_VALUE if seal is out of range;"})
    static void tamperOutOfRange(Check check) {
        for (int seal : new int[] {0, -1, 10000, Integer.MIN_VALUE, Integer.MAX_VALUE}) {
            check.refused("tamper(0, " + seal + ")", ChangeSentences::away, hall -> hall.tamper(0, seal), BAD_VALUE);
        }
        CountHall hall = away();
        check.due("the least", hall.tamper(0, 1), 7);
        check.due("the largest", hall.tamper(0, 9999), 1);
        check.due("the seal", hall.boxProperty(0, 2), 9999);
    }

    @Sentence(promise = 49, says = "NOT_ALLOWED if the box is at a table;")
    static void tamperAtATable(Check check) {
        check.refused("tamper", ChangeSentences::opened, hall -> hall.tamper(0, 5), NOT_ALLOWED);
        check.due("tamper in the hall", opened().tamper(1, 5), 8);
        CountHall first = brought();
        first.open(0, 0);
        check.due("tamper at the first table", first.tamper(0, 5), NOT_ALLOWED);
        first.seal(0);
        check.due("tamper when it is sealed", first.tamper(0, 5), 5000);
    }

    @Sentence(promise = 49, says = "checked in this order.")
    static void tamperChecksInOrder(Check check) {
        check.due("no box, no seal", opened().tamper(2, 0), NOT_FOUND);
        check.due("no seal, at a table", opened().tamper(0, 0), BAD_VALUE);
        check.due("no seal, at a table", opened().tamper(0, 10000), BAD_VALUE);
    }

    // Promise 50: accept.

    @Sentence(promise = 50, says = "NOT_FOUND if box is not a valid index;")
    static void acceptNoBox(Check check) {
        for (int box : outside(2)) {
            check.refused("accept(" + box + ")", () -> tampered(away()), hall -> hall.accept(box), NOT_FOUND);
        }
        check.due("accept in an empty hall", new CountHall().accept(0), NOT_FOUND);
        CountHall last = away();
        last.tamper(1, 5);
        check.due("the last index", last.accept(1), 2);
    }

    @Sentence(promise = 50, says = "NOT_ALLOWED if the box is at a table or its seal is good;")
    static void acceptNotAllowed(Check check) {
        check.refused("at a table", ChangeSentences::opened, hall -> hall.accept(0), NOT_ALLOWED);
        check.refused("a good seal, away", ChangeSentences::away, hall -> hall.accept(0), NOT_ALLOWED);
        check.refused("a good seal, in the hall", ChangeSentences::brought, hall -> hall.accept(0), NOT_ALLOWED);
        CountHall hall = tampered(away());
        check.due("a seal that is not good", hall.accept(0), 2);
        check.due("again", hall.accept(0), NOT_ALLOWED);
        hall.tamper(0, 7);
        check.due("an earlier entry, which is not good", hall.accept(0), 3);
        check.due("the entry", hall.ledger(0, 2), 7);
    }

    @Sentence(promise = 50, says = {
            "Accepts the seal that is on a box: it becomes an entry of its ledger.",
            "Returns the number of entries then;",
            "FULL if its ledger has 12 entries;"})
    static void acceptWithAFullLedger(Check check) {
        CountHall hall = away();
        for (int entries = 2; entries <= 12; entries++) {
            hall.tamper(0, 100 + entries);
            check.due("accept", hall.accept(0), entries);
        }
        check.refused("accept", () -> tampered(fullLedger()), full -> full.accept(0), FULL);
        check.due("the last entry", hall.ledger(0, 11), 112);
    }

    @Sentence(promise = 50, says = "checked in this order.")
    static void acceptChecksInOrder(Check check) {
        CountHall full = fullLedger();
        check.due("no box", full.accept(2), NOT_FOUND);
        check.due("a good seal, with a full ledger", full.accept(0), NOT_ALLOWED);
        check.due("at a table, with a full ledger", fullLedgerAtTable1().accept(0), NOT_ALLOWED);
        check.due("a bad seal, with a full ledger", tampered(full).accept(0), FULL);
    }

    // Promises 51 and 52: declare and work.

    @Sentence(promise = 51, says = "NOT_FOUND if there is none.")
    static void declareNoWard(Check check) {
        check.refused("nothing is counted", ChangeSentences::brought, hall -> hall.declare(), NOT_FOUND);
        check.refused("all are declared", ChangeSentences::declared, hall -> hall.declare(), NOT_FOUND);
        check.refused("an empty hall", CountHall::new, hall -> hall.declare(), NOT_FOUND);
        check.refused("a ward without a box", () -> Check.hall(WARD), hall -> hall.declare(), NOT_FOUND);
    }

    @Sentence(promise = 52, says = "Works through the hall, as one change.")
    static void workIsOneChange(Check check) {
        CountHall hall = brought();
        check.due("work", hall.work(), 2);
        check.due("undoCount", hall.undoCount(), 3);
        check.due("undo", hall.undo(), 2);
        check.same("undone", hall, brought());
        hall.open(0, 0);
        check.due("the next seal, after undo", hall.seal(0), 5000);
        CountHall idle = away();
        check.due("work with nothing to do", idle.work(), 0);
        check.due("undoCount", idle.undoCount(), 1);
    }

    private static void workOpens(Check check, String call, CountHall hall, int box, int table) {
        check.due("work, " + call, hall.work(), 1);
        check.due("table of " + call, hall.countedAt(box, 0), table);
        check.due("placeOf, " + call, hall.placeOf(box), HALL);
    }

    @Sentence(promise = 52, says = "For each table without a box, in ascending order: of the boxes that must be counted"
            + " (see toCount, as at the beginning), are in the hall, have a good seal, and were not counted at this table so far,"
            + " the one with the lowest index is opened there, if there is one.")
    static void whichBoxesWorkOpens(Check check) {
        CountHall one = away();
        one.bring(1);
        workOpens(check, "the other one is away", one, 1, 0);
        workOpens(check, "the other one has a bad seal", tampered(brought()), 1, 0);

        CountHall order = brought();
        check.due("work", order.work(), 2);
        check.due("the lowest index at the first table", order.countedAt(0, 0), 0);
        check.due("the next one at the next table", order.countedAt(1, 0), 1);
        check.due("seals in the order of the tables", order.boxProperty(1, 2), 5001);
        check.due("nothing must be counted any more", order.work(), 0);

        CountHall full = Check.hall(TWO + "set tolerance 9;");
        full.bring(0);
        Check.count(full, 0, 0);
        full.bring(1);
        workOpens(check, "the other one must not be counted", full, 1, 0);
        check.due("the other one's counts", full.boxProperty(0, 3), 1);
    }

    @Sentence(promise = 52, says = "were not counted at this table so far")
    static void workTakesAnotherTable(Check check) {
        CountHall hall = Check.hall(WARD + "box k w 10 7 5 5 0;table 0;table 99;");
        hall.bring(0);
        Check.count(hall, 0, 0);
        check.due("work", hall.work(), 1);
        check.due("the second table", hall.countedAt(0, 1), 1);
        CountHall both = Check.hall(WARD + "box k w 10 7 5 5 0;table 0;table 3;");
        both.bring(0);
        Check.count(both, 0, 1);
        Check.count(both, 0, 0);
        check.due("toCount", both.toCount(), 1);
        check.due("work when each table has counted it", both.work(), 0);
        check.due("placeOf", both.placeOf(0), HALL);
        CountHall lower = Check.hall(WARD + "box k w 10 7 5 5 0;box l w 10 7 5 5 0;table 0;");
        lower.bring(0);
        Check.count(lower, 0, 0);
        lower.bring(1);
        check.due("work", lower.work(), 1);
        check.due("the next box, as the lower one was counted there", lower.countedAt(1, 0), 0);
    }

    @Sentence(promise = 52, says = "(see toCount, as at the beginning)")
    static void workLooksAtTheBeginning(Check check) {
        // Box 0 is of a close ward until box 1 is counted, which comes later in the same work.
        CountHall hall = Check.hall(WARD + "box k w 10 1 5 5 0;box l w 9 2 9 0 0;table 0;table 0;");
        hall.bring(0);
        Check.count(hall, 0, 0);
        hall.bring(1);
        check.due("work", hall.work(), 2);
        check.due("box 1 at the first table", hall.countedAt(1, 0), 0);
        check.due("box 0 at the second table", hall.countedAt(0, 1), 1);
        // The count of box 0 makes the ward close only during this work: box 1 waits until the next one.
        CountHall later = Check.hall(WARD + "box k w 9 1 0 9 0;box l w 9 2 9 0 0;table 0;table 0;");
        later.bring(1);
        Check.count(later, 1, 0);
        later.bring(0);
        check.due("work", later.work(), 1);
        check.due("box 1 is not counted again", later.boxProperty(1, 3), 1);
        check.due("it must be counted now", later.toCount(), 3);
    }

    @Sentence(promise = 52, says = "Then each table with a box, also one that had it before, in ascending order, counts it,"
            + " if the box has fewer than 4 counts, and then seals it, if its ledger has fewer than 12 entries.")
    static void workCountsAndSeals(Check check) {
        CountHall before = opened();
        check.due("work", before.work(), 2);
        check.due("the box that stood there", before.countedAt(0, 0), 1);
        check.due("the first seal is that of table 0", before.boxProperty(1, 2), 5000);
        check.due("the next seal is that of table 1", before.boxProperty(0, 2), 5001);

        CountHall three = opened();
        for (int counts = 1; counts <= 3; counts++) {
            three.countBox(1);
        }
        check.due("a fourth count, and one of the other box", three.work(), 2);
        check.due("counts", three.boxProperty(0, 3), 4);

        CountHall four = countedFourTimes();
        check.due("no fifth count, but one of the other box", four.work(), 1);
        check.due("counts", four.boxProperty(0, 3), 4);
        check.due("it is sealed all the same", four.placeOf(0), HALL);

        CountHall eleven = fullLedger();
        eleven.undo();
        eleven.undo();
        eleven.bring(0);
        eleven.open(0, 1);
        check.due("work with a ledger of 11 entries", eleven.work(), 1);
        check.due("it is sealed", eleven.placeOf(0), HALL);
        check.due("entries", eleven.ledgerSize(0), 12);

        CountHall full = fullLedgerAtTable1();
        check.due("work with a full ledger", full.work(), 1);
        check.due("it stays", full.placeOf(0), 1);
        check.due("entries", full.ledgerSize(0), 12);
        check.due("work again", full.work(), 1);
        full.work();
        check.due("the fourth count", full.work(), 1);
        check.due("four counts and a full ledger", full.work(), 0);
        check.due("it stays", full.placeOf(0), 1);
        full.bring(1);
        full.work();
        check.due("no seal was used up", full.boxProperty(1, 2), 5000);
    }

    @Sentence(promise = 52, says = "Returns the number of counts that were made.")
    static void countsThatWorkMade(Check check) {
        check.due("an empty hall", new CountHall().work(), 0);
        check.due("nothing brought", away().work(), 0);
        CountHall four = fullLedgerAtTable1();
        for (int counts = 1; counts <= 4; counts++) {
            four.countBox(1);
        }
        check.due("a box of four counts at a table", four.work(), 0);
        CountHall hall = Check.hall(HallSentences.largest());
        for (int box = 0; box < 3; box++) {
            hall.bring(box);
        }
        check.due("three boxes at four tables", hall.work(), 3);
        for (int box = 3; box < 12; box++) {
            hall.bring(box);
        }
        check.due("nine boxes, or more, at four tables", hall.work(), 4);
        CountHall none = Check.hall("region r;ward w r;table 1;table 2;table 3;table 4;"
                + "box k w 1 1 1;box l w 1 1 1;box m w 1 1 1;box n w 1 1 1;box o w 1 1 1;");
        for (int box = 0; box < 5; box++) {
            none.bring(box);
        }
        check.due("five boxes at four tables, without parties", none.work(), 4);
        check.due("the fifth box", none.work(), 1);
    }

    // Promises 53 and 54: setSetting and undo.

    @Sentence(promise = 53, says = {
            "- `value`: the new value, in the range of the setting",
            "Returns the previous value;",
            "BAD_VALUE if setting is neither or value is out of its range."})
    static void settingsOutOfRange(Check check) {
        for (int setting : NO_SETTINGS) {
            check.refused("setSetting(" + setting + ", 1)", ChangeSentences::brought, hall -> hall.setSetting(setting, 1), BAD_VALUE);
        }
        for (int value : new int[] {-1, 51, Integer.MIN_VALUE, Integer.MAX_VALUE}) {
            check.refused("trigger " + value, ChangeSentences::brought, hall -> hall.setSetting(TRIGGER, value), BAD_VALUE);
        }
        for (int value : new int[] {-1, 10, 50, Integer.MIN_VALUE, Integer.MAX_VALUE}) {
            check.refused("tolerance " + value, ChangeSentences::brought, hall -> hall.setSetting(TOLERANCE, value), BAD_VALUE);
        }
        CountHall hall = away();
        check.due("the largest trigger", hall.setSetting(TRIGGER, 50), 5);
        check.due("the least trigger", hall.setSetting(TRIGGER, 0), 50);
        check.due("the largest tolerance", hall.setSetting(TOLERANCE, 9), 0);
        check.due("the least tolerance", hall.setSetting(TOLERANCE, 0), 9);
    }

    @Sentence(promise = 54, says = "Undoes the latest change that is kept.")
    static void theLatestChangeFirst(Check check) {
        CountHall hall = brought();
        hall.undo();
        check.due("the box that was brought last", hall.placeOf(1), AWAY);
        check.due("the other one", hall.placeOf(0), HALL);
        hall.tamper(1, 3);
        hall.undo();
        check.due("a change behind an undo", hall.boxProperty(1, 2), 8);
        hall.undo();
        check.due("the first change", hall.placeOf(0), AWAY);
    }

    @Sentence(promise = 54, says = {
            "Returns the number of changes that can still be undone;",
            "NOT_FOUND if there is none to undo."})
    static void nothingToUndo(Check check) {
        check.refused("undo in a new hall", CountHall::new, hall -> hall.undo(), NOT_FOUND);
        check.refused("undo behind a load", ChangeSentences::away, hall -> hall.undo(), NOT_FOUND);
        CountHall hall = new CountHall();
        for (int change = 1; change <= 11; change++) {
            hall.work();
        }
        for (int left = 9; left >= 0; left--) {
            check.due("undo", hall.undo(), left);
        }
        check.due("undo of the eleventh", hall.undo(), NOT_FOUND);
        check.due("undoCount", hall.undoCount(), 0);
    }

    // Promises 55 and 56: the output.

    private static void writes(Check check, CountHall hall, int ward, String due) {
        check.due("write of " + due, hall.write(ward), due.length());
        check.holds("output of " + due, due.equals(Check.output(hall)));
    }

    @Sentence(promise = 55, says = "Writes a ward to the output buffer, replacing its content:")
    static void writeReplaces(Check check) {
        CountHall hall = Check.hall("party a;region r;ward abcdef r;ward b r;");
        writes(check, hall, 0, "abcdef a=0");
        writes(check, hall, 1, "b a=0");
        check.due("behind the shorter text", hall.outputAt(5), NOT_FOUND);
    }

    @Sentence(promise = 55, says = {
            "Returns the number of characters.",
            "its name, and for each party a space, the name of the party, = and its votes;"})
    static void writeForEachParty(Check check) {
        writes(check, Check.hall("region r;ward w r;"), 0, "w");
        writes(check, Check.hall("party zyxwvu;region r;ward zzzzzz r;"), 0, "zzzzzz zyxwvu=0");
        String text = "party a;party b;party c;party d;party e;region r;ward w r;table 0;";
        writes(check, HallSentences.countedAt(0, text + "box k w 1 1 1 10 0 300 99 7;"), 0, "w a=1 b=10 c=0 d=300 e=99");
        StringBuilder boxes = new StringBuilder(text);
        for (char name = 'a'; name < 'm'; name++) {
            boxes.append("box ").append(name).append(" w 1 1 300 0 0 0 0 0;");
        }
        writes(check, HallSentences.countedAt(0, boxes.toString()), 0, "w a=3600 b=0 c=0 d=0 e=0");
    }

    @Sentence(promise = 55, says = "then, if the ward is declared, a space and a !.")
    static void writeDeclared(Check check) {
        CountHall hall = declared();
        writes(check, hall, 0, "w a=18 b=0 !");
        hall.undo();
        writes(check, hall, 0, "w a=18 b=0");
        CountHall none = HallSentences.countedAt(0, "region r;ward v r;ward w r;table 0;box k w 9 1 9;");
        none.declare();
        writes(check, none, 1, "w !");
        writes(check, none, 0, "v");
    }

    @Sentence(promise = 55, says = "Throws `IndexOutOfBoundsException` if ward is not a valid index")
    static void writeOutside(Check check) {
        CountHall hall = Check.hall("party a;region r;ward v r;ward w r;");
        check.outside("write into an empty buffer", 2, hall::write);
        check.due("the output is empty", hall.outputAt(0), NOT_FOUND);
        writes(check, hall, 1, "w a=0");
        check.outside("write", 2, hall::write);
        check.holds("the output stays", Check.output(hall).equals("w a=0"));
        CountHall empty = new CountHall();
        check.outside("write in an empty hall", 0, empty::write);
    }

    @Sentence(promise = 56, says = {"- `index`: index of the character, from 0", "NOT_FOUND if there is none with that index."})
    static void noSuchCharacter(Check check) {
        CountHall hall = Check.hall("party a;region r;ward w r;");
        for (int index : new int[] {0, 1, -1, Integer.MIN_VALUE, Integer.MAX_VALUE}) {
            check.due("outputAt(" + index + ") of an empty buffer", hall.outputAt(index), NOT_FOUND);
        }
        check.due("write", hall.write(0), 5);
        check.due("the first one", hall.outputAt(0), 'w');
        check.due("the last one", hall.outputAt(4), '0');
        for (int index : new int[] {5, -1, Integer.MIN_VALUE, Integer.MAX_VALUE}) {
            check.due("outputAt(" + index + ")", hall.outputAt(index), NOT_FOUND);
        }
    }
}
