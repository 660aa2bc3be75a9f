/** Promises 45 to 56: the changes, undoing them, and the output buffer. */
final class ChangesTest {
    private static final Check check = new Check();
    private static final int NOT_FOUND = CountHall.NOT_FOUND;
    private static final int BAD_VALUE = CountHall.BAD_VALUE;
    private static final int NOT_ALLOWED = CountHall.NOT_ALLOWED;
    private static final String WARD = "party a;party b;region r;ward w r;";
    private static final String BOXES = WARD + "box k w 10 7 6 3 1;box l w 10 8 6 3 1;";

    public static void main(String[] args) {
        promise45Bring();
        promise46Open();
        promise47CountBox();
        promise48Seal();
        promise49Tamper();
        promise50Accept();
        promise51Declare();
        promise52WorkOpens();
        promise52WorkCounts();
        promise52WorkLimits();
        promise53SetSetting();
        promise54Undo();
        promise54UndoesEach();
        promise54UndoesAll();
        promises55And56Output();
        check.end();
    }

    private static void unchanged(CountHall hall, int changes) {
        check.due("undoCount after calls that fail", hall.undoCount(), changes);
    }

    private static void promise45Bring() {
        CountHall hall = Check.hall(BOXES + "box m w 1 1 1 1 1;table 0;");
        check.due("bring(-1)", hall.bring(-1), NOT_FOUND);
        check.due("bring(3)", hall.bring(3), NOT_FOUND);
        check.due("bring(largest)", hall.bring(Integer.MAX_VALUE), NOT_FOUND);
        unchanged(hall, 0);
        check.due("bring", hall.bring(1), 1);
        check.due("bring", hall.bring(0), 2);
        check.due("bring again", hall.bring(0), NOT_ALLOWED);
        hall.open(0, 0);
        check.due("bring a box at a table", hall.bring(0), NOT_ALLOWED);
        check.due("a box at a table is not in the hall", hall.bring(2), 2);
        unchanged(hall, 4);
    }

    private static void promise46Open() {
        CountHall hall = Check.hall(BOXES + "table 0;table 0;");
        check.due("open(2, 0)", hall.open(2, 0), NOT_FOUND);
        check.due("open(-1, 0)", hall.open(-1, 0), NOT_FOUND);
        check.due("open(0, 2)", hall.open(0, 2), NOT_FOUND);
        check.due("open(0, -1)", hall.open(0, -1), NOT_FOUND);
        check.due("open a box that is away", hall.open(0, 0), NOT_ALLOWED);
        hall.tamper(0, 9);
        check.due("open a box that is away, with a bad seal", hall.open(0, 0), NOT_ALLOWED);
        hall.bring(0);
        check.due("open with a bad seal", hall.open(0, 0), CountHall.BAD_SEAL);
        hall.tamper(0, 7);
        unchanged(hall, 3);
        check.due("open", hall.open(0, 1), 7);
        check.due("open again", hall.open(0, 0), NOT_ALLOWED);
        hall.bring(1);
        hall.tamper(1, 99);
        check.due("open at a table with a box", hall.open(1, 1), NOT_ALLOWED);
        check.due("open with a bad seal", hall.open(1, 0), CountHall.BAD_SEAL);
        hall.accept(1);
        unchanged(hall, 7);
        check.due("open", hall.open(1, 0), 99);
        check.due("boxAt", hall.boxAt(0), 1);

        CountHall declared = Check.hall(WARD + "box k w 10 7 9 0 1;table 0;");
        declared.bring(0);
        Check.count(declared, 0, 0);
        declared.declare();
        declared.tamper(0, 1);
        check.due("open a box of a declared ward", declared.open(0, 0), NOT_ALLOWED);
        check.due("placeOf", declared.placeOf(0), CountHall.HALL);
    }

    private static void promise47CountBox() {
        CountHall hall = Check.hall(BOXES + "table 0;table 3;");
        check.due("countBox(-1)", hall.countBox(-1), NOT_FOUND);
        check.due("countBox(2)", hall.countBox(2), NOT_FOUND);
        check.due("countBox without a box", hall.countBox(0), NOT_ALLOWED);
        hall.bring(1);
        hall.open(1, 1);
        check.due("countBox at the other table", hall.countBox(0), NOT_ALLOWED);
        for (int counts = 1; counts <= 4; counts++) {
            check.due("countBox", hall.countBox(1), counts);
        }
        check.due("countBox a fifth time", hall.countBox(1), CountHall.FULL);
        unchanged(hall, 6);
        check.due("counts", hall.boxProperty(1, 3), 4);
        check.due("counts of the other box", hall.boxProperty(0, 3), 0);
        check.due("counted", hall.counted(1, 3, 2), 2);
        check.due("placeOf", hall.placeOf(1), 1);
    }

    private static void promise48Seal() {
        CountHall hall = Check.hall(BOXES + "table 0;table 3;");
        check.due("seal(-1)", hall.seal(-1), NOT_FOUND);
        check.due("seal(2)", hall.seal(2), NOT_FOUND);
        check.due("seal without a box", hall.seal(0), NOT_ALLOWED);
        hall.bring(0);
        hall.bring(1);
        int next = 5000;
        for (int entries = 2; entries <= 12; entries++) {
            hall.open(0, 0);
            check.due("seal", hall.seal(0), next);
            check.due("ledgerSize", hall.ledgerSize(0), entries);
            check.due("ledger", hall.ledger(0, entries - 1), next);
            next++;
        }
        check.due("placeOf", hall.placeOf(0), CountHall.HALL);
        check.due("open", hall.open(0, 1), 5010);
        check.due("seal with a full ledger", hall.seal(1), CountHall.FULL);
        check.due("placeOf", hall.placeOf(0), 1);
        check.due("seal without a box", hall.seal(0), NOT_ALLOWED);
        hall.open(1, 0);
        check.due("seal of another box", hall.seal(0), 5011);
        hall.undo();
        check.due("seal after undo", hall.seal(0), 5011);
    }

    private static void promise49Tamper() {
        CountHall hall = Check.hall(BOXES + "table 0;");
        check.due("tamper(2, 0)", hall.tamper(2, 0), NOT_FOUND);
        check.due("tamper(-1, 5)", hall.tamper(-1, 5), NOT_FOUND);
        check.due("tamper(0, 0)", hall.tamper(0, 0), BAD_VALUE);
        check.due("tamper(0, 10000)", hall.tamper(0, 10000), BAD_VALUE);
        check.due("tamper(0, -1)", hall.tamper(0, -1), BAD_VALUE);
        check.due("tamper(0, 9999)", hall.tamper(0, 9999), 7);
        check.due("tamper(0, 1)", hall.tamper(0, 1), 9999);
        check.due("tamper(0, 1)", hall.tamper(0, 1), 1);
        check.due("ledgerSize", hall.ledgerSize(0), 1);
        hall.bring(1);
        check.due("tamper in the hall", hall.tamper(1, 8), 8);
        hall.open(1, 0);
        check.due("tamper at a table with no seal", hall.tamper(1, 0), BAD_VALUE);
        check.due("tamper at a table", hall.tamper(1, 5), NOT_ALLOWED);
        unchanged(hall, 6);
    }

    private static void promise50Accept() {
        CountHall hall = Check.hall(BOXES + "table 0;");
        check.due("accept(2)", hall.accept(2), NOT_FOUND);
        check.due("accept(-1)", hall.accept(-1), NOT_FOUND);
        check.due("accept a good seal", hall.accept(0), NOT_ALLOWED);
        for (int entries = 2; entries <= 12; entries++) {
            hall.tamper(0, 100 + entries);
            check.due("accept", hall.accept(0), entries);
            check.due("ledger", hall.ledger(0, entries - 1), 100 + entries);
        }
        check.due("accept a good seal with a full ledger", hall.accept(0), NOT_ALLOWED);
        hall.tamper(0, 50);
        check.due("accept with a full ledger", hall.accept(0), CountHall.FULL);
        check.fails("isSealGood", hall.isSealGood(0));
        hall.bring(1);
        hall.open(1, 0);
        int changes = hall.undoCount();
        check.due("accept at a table", hall.accept(1), NOT_ALLOWED);
        unchanged(hall, changes);
    }

    private static void promise51Declare() {
        CountHall hall = Check.hall(WARD + "ward x r;box k w 10 7 9 0 1;box l x 9 8 9 0 0;table 0;");
        check.due("declare", hall.declare(), NOT_FOUND);
        hall.bring(0);
        Check.count(hall, 0, 0);
        hall.bring(1);
        Check.count(hall, 1, 0);
        unchanged(hall, 8);
        check.due("declare", hall.declare(), 1);
        check.due("declare", hall.declare(), 0);
        check.due("declare", hall.declare(), NOT_FOUND);
        unchanged(hall, 10);
        check.due("placeOf", hall.placeOf(0), CountHall.HALL);
        hall.undo();
        check.due("declaredCount", hall.declaredCount(), 1);
        check.due("declare", hall.declare(), 0);
    }

    private static void promise52WorkOpens() {
        CountHall hall = Check.hall(WARD + "ward x r;set trigger 0;set tolerance 9;table 0;table 3;table 99;"
                + "box k w 10 1 6 3 1;box l w 10 2 6 3 1;box m w 10 3 6 3 1;box n x 10 4 9 0 0;box o w 10 5 6 3 1;box p w 10 6 6 3 1;");
        check.due("work with nothing in the hall", hall.work(), 0);
        unchanged(hall, 1);
        for (int box = 1; box < 5; box++) {
            hall.bring(box);
        }
        hall.tamper(1, 77);
        // Box 0 is away, box 1 has a bad seal, box 3 is counted and stands for a ward that is not close.
        Check.count(hall, 3, 0);
        check.due("work", hall.work(), 2);
        check.due("box 2 was at the first table", hall.countedAt(2, 0), 0);
        check.due("box 4 was at the second table", hall.countedAt(4, 0), 1);
        check.due("box 1 was at none", hall.boxProperty(1, 3), 0);
        check.due("box 3 was counted once", hall.boxProperty(3, 3), 1);
        check.due("seal", hall.boxProperty(2, 2), 5001);
        check.due("seal", hall.boxProperty(4, 2), 5002);
        check.due("placeOf", hall.placeOf(2), CountHall.HALL);
        check.due("work with no box left to count", hall.work(), 0);
        check.due("undo", hall.undo(), 9);
        check.due("undo", hall.undo(), 8);
        check.due("counts", hall.boxProperty(2, 3), 0);
        check.due("seal", hall.boxProperty(2, 2), 3);
        check.due("seal", hall.boxProperty(4, 2), 5);

        CountHall none = new CountHall();
        check.due("work in an empty hall", none.work(), 0);
        check.due("undoCount", none.undoCount(), 1);
    }

    private static void promise52WorkCounts() {
        // A tie at every table: the ward stays close, so that its box must be counted again until it is confirmed.
        CountHall hall = Check.hall(WARD + "table 0;table 99;table 3;box k w 10 1 5 5 0;box l w 10 2 5 5 0;");
        hall.bring(0);
        hall.bring(1);
        hall.open(1, 1);
        check.due("work", hall.work(), 2);
        check.due("box 0 at the first table", hall.countedAt(0, 0), 0);
        check.due("box 1 where it stood", hall.countedAt(1, 0), 1);
        check.due("toCount", hall.toCount(), 3);
        check.due("work", hall.work(), 2);
        check.due("box 1 at a table that had not counted it", hall.countedAt(1, 1), 0);
        check.due("box 0 at a table that had not counted it", hall.countedAt(0, 1), 1);
        check.holds("isConfirmed", hall.isConfirmed(0) && hall.isConfirmed(1));
        check.due("seals in the order of the tables", hall.boxProperty(1, 2), 5002);
        check.due("seals in the order of the tables", hall.boxProperty(0, 2), 5003);
        check.due("work", hall.work(), 0);

        // What must be counted is what had to be at the beginning: the second box, too, though the ward is not close then.
        CountHall start = Check.hall(WARD + "table 0;table 0;box k w 10 1 5 5 0;box l w 9 2 9 0 0;box m w 1 3 1 0 0;");
        start.bring(0);
        Check.count(start, 0, 0);
        start.bring(1);
        start.bring(2);
        check.due("work", start.work(), 2);
        check.due("the lowest index that was not at the table", start.countedAt(1, 0), 0);
        check.due("close at the beginning", start.countedAt(0, 1), 1);
        check.due("not counted", start.boxProperty(2, 3), 0);
        check.due("at no table", start.placeOf(2), CountHall.HALL);
    }

    private static void promise52WorkLimits() {
        CountHall full = Check.hall(BOXES + "table 0;table 3;");
        full.bring(0);
        full.open(0, 1);
        for (int counts = 1; counts <= 4; counts++) {
            full.countBox(1);
        }
        check.due("work with a box of four counts", full.work(), 0);
        check.due("it is sealed all the same", full.placeOf(0), CountHall.HALL);
        check.due("its counts", full.boxProperty(0, 3), 4);

        CountHall ledger = Check.hall(BOXES + "table 0;table 3;");
        for (int entries = 2; entries <= 12; entries++) {
            ledger.tamper(0, 100 + entries);
            ledger.accept(0);
        }
        ledger.bring(0);
        check.due("work with a full ledger", ledger.work(), 1);
        check.due("it stays at the table", ledger.placeOf(0), 0);
        check.due("it has no seal", ledger.boxProperty(0, 2), 0);
        check.due("work counts it again", ledger.work(), 1);
        check.due("ledgerSize", ledger.ledgerSize(0), 12);
        ledger.bring(1);
        check.due("work with a table that has a box", ledger.work(), 2);
        check.due("the other box went to the free table", ledger.countedAt(1, 0), 1);
        check.due("the next seal", ledger.boxProperty(1, 2), 5000);
    }

    private static void promise53SetSetting() {
        CountHall hall = new CountHall();
        check.due("setSetting", hall.setSetting(CountHall.TRIGGER, 50), 5);
        check.due("setSetting", hall.setSetting(CountHall.TRIGGER, 0), 50);
        check.due("setSetting", hall.setSetting(CountHall.TOLERANCE, 9), 0);
        check.due("setSetting", hall.setSetting(CountHall.TOLERANCE, 9), 9);
        unchanged(hall, 4);
        check.due("setSetting", hall.setSetting(CountHall.TRIGGER, 51), BAD_VALUE);
        check.due("setSetting", hall.setSetting(CountHall.TRIGGER, -1), BAD_VALUE);
        check.due("setSetting", hall.setSetting(CountHall.TOLERANCE, 10), BAD_VALUE);
        check.due("setSetting", hall.setSetting(CountHall.TOLERANCE, -1), BAD_VALUE);
        check.due("setSetting", hall.setSetting(2, 1), BAD_VALUE);
        check.due("setSetting", hall.setSetting(-1, 1), BAD_VALUE);
        unchanged(hall, 4);
        check.due("trigger", hall.getSetting(CountHall.TRIGGER), 0);
        check.due("tolerance", hall.getSetting(CountHall.TOLERANCE), 9);
    }

    private static void promise54Undo() {
        CountHall hall = new CountHall();
        check.due("undo", hall.undo(), NOT_FOUND);
        for (int change = 1; change <= 12; change++) {
            hall.setSetting(CountHall.TRIGGER, 10 + change);
        }
        for (int left = 9; left >= 0; left--) {
            check.due("undo", hall.undo(), left);
            check.due("trigger", hall.getSetting(CountHall.TRIGGER), 12 + left);
        }
        check.due("undo", hall.undo(), NOT_FOUND);
        hall.setSetting(CountHall.TRIGGER, 40);
        check.due("undo", hall.undo(), 0);
        check.due("trigger", hall.getSetting(CountHall.TRIGGER), 12);
    }

    /** Every change is undone, and what stood before it stands again; the buffers do not. */
    private static void promise54UndoesEach() {
        CountHall hall = Check.hall(WARD + "box k w 10 7 9 0 1;table 0;table 3;");
        hall.bring(0);
        hall.open(0, 1);
        hall.countBox(1);
        hall.seal(1);
        hall.tamper(0, 9);
        hall.accept(0);
        hall.setSetting(CountHall.TOLERANCE, 1);
        hall.declare();
        hall.work();
        hall.write(0);
        hall.feed(0, 0, 0, 0, 0);
        String written = Check.output(hall);
        hall.undo();
        check.due("declaredCount", hall.declaredCount(), 1);
        hall.undo();
        check.due("declaredCount", hall.declaredCount(), 0);
        hall.undo();
        check.due("tolerance", hall.getSetting(CountHall.TOLERANCE), 0);
        hall.undo();
        check.due("ledgerSize", hall.ledgerSize(0), 2);
        check.due("seal", hall.boxProperty(0, 2), 9);
        hall.undo();
        check.due("seal", hall.boxProperty(0, 2), 5000);
        hall.undo();
        check.due("placeOf", hall.placeOf(0), 1);
        check.due("seal", hall.boxProperty(0, 2), 0);
        check.due("ledgerSize", hall.ledgerSize(0), 1);
        hall.undo();
        check.due("counts", hall.boxProperty(0, 3), 0);
        check.due("result", hall.result(0, 0), NOT_FOUND);
        hall.undo();
        check.due("placeOf", hall.placeOf(0), CountHall.HALL);
        check.due("seal", hall.boxProperty(0, 2), 7);
        hall.undo();
        check.due("placeOf", hall.placeOf(0), CountHall.AWAY);
        check.holds("the output stays", written.equals(Check.output(hall)));
        check.due("the input stays", hall.feed(0, 0, 0, 0, 0), 40);
        hall.bring(0);
        hall.open(0, 0);
        hall.countBox(0);
        check.due("a count after undo", hall.counted(0, 0, 0), 9);
        check.due("a seal after undo", hall.seal(0), 5000);

        CountHall valid = Check.hall(WARD + "box k w 10 7 9 0 1;table 0;table 99;");
        valid.bring(0);
        Check.count(valid, 0, 0);
        Check.count(valid, 0, 1);
        check.holds("isConfirmed", valid.isConfirmed(0));
        valid.undo();
        valid.undo();
        check.fails("isConfirmed after undo", valid.isConfirmed(0));
        check.due("countedAt after undo", valid.countedAt(0, 1), NOT_FOUND);
    }

    /** Whatever the changes were, going back answers the same as going forth did. */
    private static void promise54UndoesAll() {
        CountHall hall = Check.hall(WARD + "ward x r;table 0;table 99;table 3;set tolerance 1;"
                + "box k w 10 7 5 5 0;box l w 10 8 6 3 1;box m x 9 9 8 1 0;");
        String[] before = new String[16];
        int[] calls = {0, 1, 2, 3, 4, 5, 3, 6, 7, 3, 8, 3, 9, 3, 8};
        for (int i = 0; i < calls.length; i++) {
            before[i] = Check.everything(hall);
            int size = hall.undoCount();
            check.holds("call " + i, change(hall, calls[i]) >= 0);
            check.due("undoCount", hall.undoCount(), Math.min(size + 1, 10));
        }
        for (int i = calls.length - 1; i >= calls.length - 10; i--) {
            hall.undo();
            check.holds("as before call " + i, before[i].equals(Check.everything(hall)));
        }
        check.due("undo", hall.undo(), NOT_FOUND);
        for (int i = calls.length - 10; i < calls.length; i++) {
            check.holds("forth again, call " + i, before[i].equals(Check.everything(hall)));
            change(hall, calls[i]);
        }
    }

    private static int change(CountHall hall, int which) {
        switch (which) {
            case 0:
            case 1:
            case 2:
                return hall.bring(which);
            case 4:
                return hall.tamper(0, 9);
            case 5:
                return hall.accept(0);
            case 6:
                return hall.open(0, 2);
            case 7:
                return hall.countBox(2);
            case 8:
                return hall.declare();
            case 9:
                return hall.setSetting(CountHall.TRIGGER, 30);
            default:
                return hall.work();
        }
    }

    private static void written(CountHall hall, int ward, String due) {
        check.due("write of " + due, hall.write(ward), due.length());
        check.holds("output of " + due, due.equals(Check.output(hall)));
        check.due("outputAt behind", hall.outputAt(due.length()), NOT_FOUND);
        check.due("outputAt(-1)", hall.outputAt(-1), NOT_FOUND);
        check.due("outputAt(largest)", hall.outputAt(Integer.MAX_VALUE), NOT_FOUND);
    }

    private static void promises55And56Output() {
        CountHall hall = Check.hall("party a;party zyxwvu;region r;ward mno r;ward p r;table 0;"
                + "box k mno 10 7 9 0 1;box l p 300 7 0 300 0;box m p 10 7 0 300 0;set tolerance 0;");
        written(hall, 0, "mno a=0 zyxwvu=0");
        for (int box = 0; box < 3; box++) {
            hall.bring(box);
            Check.count(hall, box, 0);
        }
        written(hall, 0, "mno a=9 zyxwvu=0");
        written(hall, 1, "p a=0 zyxwvu=600");
        hall.declare();
        written(hall, 1, "p a=0 zyxwvu=600");
        written(hall, 0, "mno a=9 zyxwvu=0 !");
        check.outside("write(2)", () -> hall.write(2));
        check.due("outputAt after a write that throws", hall.outputAt(0), 'm');
        written(Check.hall("region r;ward w r;"), 0, "w");
    }
}
