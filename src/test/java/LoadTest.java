/** Promises 1 to 8: the new object, the input buffer, the text format and what it declares. */
final class LoadTest {
    private static final Check check = new Check();
    private static final String FULL_HALL = "party a;party b;region r;region s in r;ward x r;ward y s;"
            + "box k x 10 7 6 3 1;box l y 8 8 4 4 0;table 0;table 3;set trigger 10;";

    public static void main(String[] args) {
        promise1NewObject();
        promise2Feed();
        promise3Statements();
        promise3Lengths();
        promise3Replaces();
        promise3ReplacesAll();
        promise3KeepsOnError();
        promise3Tokens();
        promise3Syntax();
        promise3Ranges();
        promise3Names();
        promise3Duplicates();
        promise3Counts();
        promise3OrderOfErrors();
        promise4ErrorPosition();
        promise5Count();
        promise6UndoCount();
        promise7Named();
        promise8GetSetting();
        check.end();
    }

    private static void error(String text, int code, int position) {
        CountHall hall = new CountHall();
        check.due("load of " + text, Check.load(hall, text), code);
        check.due("errorPosition of " + text, hall.errorPosition(), position);
        check.due("count(1) behind " + text, hall.count(1), 0);
    }

    private static void fine(String text, int statements) {
        CountHall hall = new CountHall();
        check.due("load of " + text, Check.load(hall, text), statements);
        check.due("errorPosition of " + text, hall.errorPosition(), CountHall.NOT_FOUND);
    }

    private static void promise1NewObject() {
        CountHall hall = new CountHall();
        for (int what = 0; what < 5; what++) {
            check.due("count", hall.count(what), 0);
        }
        check.due("trigger", hall.getSetting(CountHall.TRIGGER), 5);
        check.due("tolerance", hall.getSetting(CountHall.TOLERANCE), 0);
        check.due("outputAt", hall.outputAt(0), CountHall.NOT_FOUND);
        check.due("undoCount", hall.undoCount(), 0);
        check.due("undo", hall.undo(), CountHall.NOT_FOUND);
        check.due("errorPosition", hall.errorPosition(), CountHall.NOT_FOUND);
        check.due("load(1)", hall.load(1), CountHall.BAD_VALUE);
        check.due("declaredCount", hall.declaredCount(), 0);
    }

    private static void promise2Feed() {
        CountHall hall = new CountHall();
        for (int bytes = 20; bytes <= 900; bytes += 20) {
            check.due("feed", hall.feed(0x20202020, 0x20202020, 0x20202020, 0x20202020, 0x20202020), bytes);
        }
        check.due("feed above 900", hall.feed(0, 0, 0, 0, 0), CountHall.FULL);
        check.due("load(901)", hall.load(901), CountHall.BAD_VALUE);
        check.due("load(900)", hall.load(900), 0);
        check.due("feed into the empty buffer", hall.feed('t' << 24 | 'a' << 16 | 'b' << 8 | 'l',
                'e' << 24 | '1' << 16 | ';' << 8 | 't', 'a' << 24 | 'b' << 16 | 'l' << 8 | 'e',
                '9' << 24 | '9' << 16 | ';' << 8 | 't', 'a' << 24 | 'b' << 16 | 'l' << 8 | 'e'), 20);
        check.due("feed", hall.feed('4' << 24 | ';' << 16 | 0xff80, -1, -1, -1, -1), 40);
        check.due("load(22)", hall.load(22), 3);
        check.due("slipOf(0)", hall.slipOf(0), 1);
        check.due("slipOf(1)", hall.slipOf(1), 99);
        check.due("slipOf(2)", hall.slipOf(2), 4);
    }

    private static void promise3Statements() {
        fine("", 0);
        fine(" \n \n", 0);
        fine("party a;", 1);
        fine(FULL_HALL, 11);
        fine("set trigger 0;set tolerance 9;", 2);
        fine("set trigger 50;set tolerance 0;", 2);
        fine("party a;party b;party c;party d;party e;", 5);
        fine("region a;region b;region c in a;region d in c;region e in d;", 5);
        fine("region a;ward a a;ward b a;ward c a;ward d a;ward e a;ward f a;", 7);
        fine("table 0;table 99;table 1;table 2;", 4);
        StringBuilder boxes = new StringBuilder("region a;ward a a;");
        for (char name = 'a'; name < 'm'; name++) {
            boxes.append("box ").append(name).append(" a 0 1 0;");
        }
        fine(boxes.toString(), 14);
    }

    private static void promise3Lengths() {
        CountHall hall = new CountHall();
        Check.feed(hall, "table 7;table 8;");
        check.due("load(-1)", hall.load(-1), CountHall.BAD_VALUE);
        check.due("load(21)", hall.load(21), CountHall.BAD_VALUE);
        check.due("load(smallest)", hall.load(Integer.MIN_VALUE), CountHall.BAD_VALUE);
        check.due("load(largest)", hall.load(Integer.MAX_VALUE), CountHall.BAD_VALUE);
        check.due("load(8)", hall.load(8), 1);
        check.due("tables", hall.count(4), 1);
        check.due("load(1) of nothing", hall.load(1), CountHall.BAD_VALUE);
        check.due("load(0)", hall.load(0), 0);
        check.due("tables", hall.count(4), 0);
    }

    private static void promise3Replaces() {
        CountHall hall = Check.hall(FULL_HALL);
        hall.setSetting(CountHall.TOLERANCE, 4);
        hall.bring(0);
        hall.bring(1);
        Check.count(hall, 0, 0);
        Check.count(hall, 1, 0);
        hall.tamper(1, 77);
        hall.setSetting(CountHall.TRIGGER, 0);
        hall.declare();
        hall.write(0);
        String written = Check.output(hall);
        check.due("load again", Check.load(hall, "party c;region q;ward z q;box m z 5 44 2 3;box n z 1 45 1 0;table 0;"), 6);
        check.due("trigger", hall.getSetting(CountHall.TRIGGER), 5);
        check.due("tolerance", hall.getSetting(CountHall.TOLERANCE), 0);
        check.due("undoCount", hall.undoCount(), 0);
        check.due("undo", hall.undo(), CountHall.NOT_FOUND);
        check.due("parties", hall.count(0), 1);
        check.due("regions", hall.count(1), 1);
        check.due("declaredCount", hall.declaredCount(), 0);
        for (int box = 0; box < 2; box++) {
            check.due("placeOf", hall.placeOf(box), CountHall.AWAY);
            check.due("counts", hall.boxProperty(box, 3), 0);
            check.due("ledgerSize", hall.ledgerSize(box), 1);
            check.due("ledger", hall.ledger(box, 0), 44 + box);
            check.holds("isSealGood", hall.isSealGood(box));
            check.fails("isConfirmed", hall.isConfirmed(box));
        }
        check.due("old name", hall.named(0, Check.letters("a")), CountHall.NOT_FOUND);
        check.holds("the output stays", written.equals(Check.output(hall)) && !written.isEmpty());
        hall.bring(0);
        Check.count(hall, 0, 0);
        check.due("the first seal since the load", hall.ledger(0, 1), 5000);
    }

    /** Whatever an earlier hall held, a later one answers as if it were the first one. */
    private static void promise3ReplacesAll() {
        StringBuilder large = new StringBuilder("party a;party b;party c;party d;party e;region r;region s;region t;"
                + "ward u r;ward v s;ward w t;ward x r;table 0;table 2;table 0;table 0;set trigger 50;set tolerance 9;");
        for (char name = 'a'; name < 'm'; name++) {
            large.append("box ").append(name).append(' ').append("uvwx".charAt(name % 4)).append(" 66 9 11 11 11 11 11 11;");
        }
        CountHall later = Check.hall(large.toString());
        for (int box = 0; box < 12; box++) {
            later.bring(box);
            Check.count(later, box, 0);
            Check.count(later, box, 1);
        }
        later.declare();
        for (int table = 0; table < 4; table++) {
            for (int box = 0; box < 12; box++) {
                later.open(box, table);
            }
            later.countBox(table);
        }
        String small = "party a;party b;region r;ward w r;box k w 10 1 5 4 1;box l w 4 2 4 0 0;table 3;table 0;";
        check.due("load", Check.load(later, small), 8);
        CountHall first = Check.hall(small);
        check.holds("as a new hall", Check.everything(later).equals(Check.everything(first)));
        for (int step = 0; step < 12; step++) {
            check.due("step " + step, change(later, step), change(first, step));
            check.holds("as a new hall, step " + step, Check.everything(later).equals(Check.everything(first)));
        }
        Check.load(later, "party a;region r;ward w r;box k w 3 1 2 1;table 0;");
        later.bring(0);
        Check.count(later, 0, 0);
        check.due("countsLeft with one table after halls with more", later.countsLeft(0), CountHall.NOT_FOUND);
        check.due("set", Check.load(later, "set trigger 1;"), 1);
        check.due("set again in another text", Check.load(later, "set trigger 2;"), 1);
    }

    private static int change(CountHall hall, int step) {
        switch (step) {
            case 0:
            case 1:
                return hall.bring(step);
            case 2:
                return hall.open(0, 0);
            case 3:
                return hall.countBox(0);
            case 4:
                return hall.seal(0);
            case 5:
                return hall.declare();
            case 11:
                return hall.setSetting(CountHall.TRIGGER, 0);
            default:
                return hall.work();
        }
    }

    private static void promise3KeepsOnError() {
        CountHall hall = Check.hall(FULL_HALL);
        hall.bring(0);
        hall.open(0, 0);
        hall.setSetting(CountHall.TRIGGER, 33);
        check.due("load", Check.load(hall, "party z;region z;table 5;set trigger 1;set trigger 2;"), CountHall.DUPLICATE_ERROR);
        check.due("the buffer is empty", hall.load(1), CountHall.BAD_VALUE);
        check.due("the buffer is empty", hall.feed(0, 0, 0, 0, 0), 20);
        check.due("parties", hall.count(0), 2);
        check.due("tables", hall.count(4), 2);
        check.due("slip", hall.slipOf(0), 0);
        check.due("party", hall.named(0, Check.letters("a")), 0);
        check.due("trigger", hall.getSetting(CountHall.TRIGGER), 33);
        check.due("place", hall.placeOf(0), 0);
        check.due("undoCount", hall.undoCount(), 3);
        check.due("undo", hall.undo(), 2);
        check.due("trigger", hall.getSetting(CountHall.TRIGGER), 10);
        check.due("load", hall.load(20), CountHall.SYNTAX_ERROR);
        check.due("load", Check.load(hall, "table 5;"), 1);
        check.due("tables", hall.count(4), 1);
    }

    private static void promise3Tokens() {
        fine("table0;", 1);
        fine("\n table\n 0 ;\n", 1);
        fine("table 0000000000000000000000000000099;", 1);
        fine("region r;ward w r;box b w 1 2 3;", 3);
        fine("region r;ward w r;box b w1 2 3;", 3);
        error("table\t0;", CountHall.SYNTAX_ERROR, 5);
        error("table\r0;", CountHall.SYNTAX_ERROR, 5);
        error("Table 0;", CountHall.SYNTAX_ERROR, 0);
        error("table -1;", CountHall.SYNTAX_ERROR, 6);
        error("table 0;`", CountHall.SYNTAX_ERROR, 8);
        error("table 0;{", CountHall.SYNTAX_ERROR, 8);
        error("table 0:", CountHall.SYNTAX_ERROR, 7);
        error("table /;", CountHall.SYNTAX_ERROR, 6);
        error("party a\u0000;", CountHall.SYNTAX_ERROR, 7);
        error("party \u00e9;", CountHall.SYNTAX_ERROR, 6);
        error("party \u00ff;", CountHall.SYNTAX_ERROR, 6);
        error("party a1;", CountHall.SYNTAX_ERROR, 7);
        error("partya;", CountHall.SYNTAX_ERROR, 0);
        error("warty a;", CountHall.SYNTAX_ERROR, 0);
        error("partz a;", CountHall.SYNTAX_ERROR, 0);
        fine("party on;party fox;party get;party cable;party hard;", 5);
    }

    private static void promise3Syntax() {
        error("p", CountHall.SYNTAX_ERROR, 0);
        error(";", CountHall.SYNTAX_ERROR, 0);
        error("party a;;", CountHall.SYNTAX_ERROR, 8);
        error("7", CountHall.SYNTAX_ERROR, 0);
        error("in", CountHall.SYNTAX_ERROR, 0);
        error("trigger 5;", CountHall.SYNTAX_ERROR, 0);
        error("party", CountHall.SYNTAX_ERROR, 5);
        error("party  ", CountHall.SYNTAX_ERROR, 7);
        error("party a", CountHall.SYNTAX_ERROR, 7);
        error("party a b;", CountHall.SYNTAX_ERROR, 8);
        error("party abcdefg;", CountHall.SYNTAX_ERROR, 6);
        fine("party abcdef;party trigge;party parti;party inn;party regio;", 5);
        String[] reserved = {"party", "region", "in", "ward", "box", "table", "set"};
        for (String word : reserved) {
            error("party " + word + ";", CountHall.SYNTAX_ERROR, 6);
            error("region r;region s in " + word + ";", CountHall.SYNTAX_ERROR, 21);
        }
        error("region r s;", CountHall.SYNTAX_ERROR, 9);
        error("region r in;", CountHall.SYNTAX_ERROR, 11);
        error("region r;region s in r r;", CountHall.SYNTAX_ERROR, 23);
        error("region r;ward w;", CountHall.SYNTAX_ERROR, 15);
        error("region r;ward w in r;", CountHall.SYNTAX_ERROR, 16);
        error("region r;ward w r;box b w;", CountHall.SYNTAX_ERROR, 25);
        error("region r;ward w r;box b w 1;", CountHall.SYNTAX_ERROR, 27);
        error("region r;ward w r;box b w 1 2;", CountHall.SYNTAX_ERROR, 29);
        error("region r;ward w r;box b w 1 2 3 4;", CountHall.SYNTAX_ERROR, 32);
        error("party a;region r;ward w r;box b w 1 2 3;", CountHall.SYNTAX_ERROR, 39);
        error("party a;region r;ward w r;box b w 1 2 3 4 999;", CountHall.SYNTAX_ERROR, 42);
        error("party a;region r;ward w r;box b w 1 2 3 4;party b;", CountHall.SYNTAX_ERROR, 42);
        fine("party a;region r;ward w r;party b;box b w 1 2 3 4 5;region s;ward x s;table 1;set trigger 3;", 9);
        error("table;", CountHall.SYNTAX_ERROR, 5);
        error("table a;", CountHall.SYNTAX_ERROR, 6);
        error("table 1 2;", CountHall.SYNTAX_ERROR, 8);
        error("set;", CountHall.SYNTAX_ERROR, 3);
        error("set 5;", CountHall.SYNTAX_ERROR, 4);
        error("set a 5;", CountHall.SYNTAX_ERROR, 4);
        error("set triggers 5;", CountHall.SYNTAX_ERROR, 4);
        error("set toleranc 5;", CountHall.SYNTAX_ERROR, 4);
        error("set trigger;", CountHall.SYNTAX_ERROR, 11);
        error("set trigger a;", CountHall.SYNTAX_ERROR, 12);
        error("set trigger 5 5;", CountHall.SYNTAX_ERROR, 14);
    }

    private static void promise3Ranges() {
        String ward = "region r;ward w r;";
        fine(ward + "box b w 0 1 0;box c w 999 9999 300;", 4);
        error(ward + "box b w 1000 1 0;", CountHall.RANGE_ERROR, 26);
        error(ward + "box b w 0 0 0;", CountHall.RANGE_ERROR, 28);
        error(ward + "box b w 0 10000 0;", CountHall.RANGE_ERROR, 28);
        error(ward + "box b w 0 1 301;", CountHall.RANGE_ERROR, 30);
        error("table 100;", CountHall.RANGE_ERROR, 6);
        error("table 18446744073709551616;", CountHall.RANGE_ERROR, 6);
        error("table 4294967296;", CountHall.RANGE_ERROR, 6);
        error("set trigger 51;", CountHall.RANGE_ERROR, 12);
        error("set tolerance 10;", CountHall.RANGE_ERROR, 14);
    }

    private static void promise3Names() {
        error("region a in a;", CountHall.NAME_ERROR, 12);
        error("region a;region b in c;", CountHall.NAME_ERROR, 21);
        error("ward w r;", CountHall.NAME_ERROR, 7);
        error("party r;ward w r;", CountHall.NAME_ERROR, 15);
        error("region r;box b w 1 1 1;", CountHall.NAME_ERROR, 15);
        error("region r;ward w r;box b r 1 1 1;", CountHall.NAME_ERROR, 24);
        error("region r;ward w r;box b ww 1 1 1;", CountHall.NAME_ERROR, 24);
        fine("party n;region n;ward n n;box n n 1 1 1 1;", 4);
    }

    private static void promise3Duplicates() {
        error("party a;party b;party a;", CountHall.DUPLICATE_ERROR, 22);
        error("region a;region a;", CountHall.DUPLICATE_ERROR, 16);
        error("region r;ward a r;ward a r;", CountHall.DUPLICATE_ERROR, 23);
        error("region r;ward a r;box a a 1 1 1;box a a 1 1 1;", CountHall.DUPLICATE_ERROR, 36);
        error("set trigger 5;set tolerance 1;set trigger 5;", CountHall.DUPLICATE_ERROR, 34);
        error("set tolerance 0;set tolerance 99;", CountHall.DUPLICATE_ERROR, 20);
    }

    private static void promise3Counts() {
        String parties = "party a;party b;party c;party d;party e;";
        error(parties + "party f;", CountHall.COUNT_ERROR, 40);
        error(parties + "party a;", CountHall.COUNT_ERROR, 40);
        error(parties + "party;", CountHall.COUNT_ERROR, 40);
        error(parties + "region r;ward w r;box b w 1 1 1 2 3 4 5 6;party f;", CountHall.SYNTAX_ERROR, 82);
        error("region a;region b;region c;region d;region e; region f;", CountHall.COUNT_ERROR, 46);
        error("region r;ward a r;ward b r;ward c r;ward d r;ward e r;ward f r;ward g r;", CountHall.COUNT_ERROR, 63);
        error("table 0;table 0;table 0;table 0;table 0;", CountHall.COUNT_ERROR, 32);
        StringBuilder boxes = new StringBuilder("region a;ward a a;");
        for (char name = 'a'; name < 'm'; name++) {
            boxes.append("box ").append(name).append(" a 0 1 0;");
        }
        error(boxes + "box m a 0 1 0;", CountHall.COUNT_ERROR, boxes.length());
    }

    private static void promise3OrderOfErrors() {
        error("party a;region r in q;region r;x", CountHall.NAME_ERROR, 20);
        error("table 100;party 5", CountHall.RANGE_ERROR, 6);
        error("region r;region r in q;", CountHall.DUPLICATE_ERROR, 16);
        error("region r;ward w r;box b w 1000 0 301;", CountHall.RANGE_ERROR, 26);
    }

    private static void promise4ErrorPosition() {
        CountHall hall = new CountHall();
        Check.load(hall, "party a;x");
        check.due("errorPosition", hall.errorPosition(), 8);
        hall.load(5);
        check.due("errorPosition after BAD_VALUE", hall.errorPosition(), 8);
        hall.setSetting(0, 1);
        hall.undo();
        check.due("errorPosition after undo", hall.errorPosition(), 8);
        Check.load(hall, "party a");
        check.due("errorPosition at the end", hall.errorPosition(), 7);
        hall.load(0);
        check.due("errorPosition after a good load", hall.errorPosition(), CountHall.NOT_FOUND);
    }

    private static void promise5Count() {
        CountHall hall = Check.hall("party a;region b;region c;ward d b;ward e b;ward f c;"
                + "box g d 1 1 1 1;box h d 1 1 1 1;box i d 1 1 1 1;box j d 1 1 1 1;table 1;table 2;table 3;table 4;");
        check.due("count(0)", hall.count(0), 1);
        check.due("count(1)", hall.count(1), 2);
        check.due("count(2)", hall.count(2), 3);
        check.due("count(3)", hall.count(3), 4);
        check.due("count(4)", hall.count(4), 4);
        check.due("count(5)", hall.count(5), CountHall.BAD_VALUE);
        check.due("count(-1)", hall.count(-1), CountHall.BAD_VALUE);
        check.due("count(largest)", hall.count(Integer.MAX_VALUE), CountHall.BAD_VALUE);
    }

    private static void promise6UndoCount() {
        CountHall hall = new CountHall();
        for (int change = 1; change <= 13; change++) {
            hall.setSetting(CountHall.TRIGGER, change);
            check.due("undoCount", hall.undoCount(), Math.min(change, 10));
        }
        hall.setSetting(CountHall.TRIGGER, 51);
        check.due("undoCount after an error", hall.undoCount(), 10);
        hall.undo();
        check.due("undoCount", hall.undoCount(), 9);
    }

    private static void promise7Named() {
        CountHall hall = Check.hall("party a;party az;party zzzzzz;region a;region ab in a;ward abc ab;ward a a;"
                + "box b a 1 1 1 1 1 1;box abcdef a 1 1 1 1 1 1;");
        check.due("a party", hall.named(0, Check.letters("a")), 0);
        check.due("a party", hall.named(0, Check.letters("az")), 1);
        check.due("a party", hall.named(0, Check.letters("zzzzzz")), 2);
        check.due("a region", hall.named(1, Check.letters("ab")), 1);
        check.due("a ward", hall.named(2, Check.letters("a")), 1);
        check.due("a ward", hall.named(2, Check.letters("abc")), 0);
        check.due("a box", hall.named(3, Check.letters("abcdef")), 1);
        check.due("a box", hall.named(3, 1 << 25 | 2 << 20 | 3 << 15 | 4 << 10 | 5 << 5 | 6), 1);
        check.due("no box", hall.named(3, Check.letters("a")), CountHall.NOT_FOUND);
        check.due("no name", hall.named(0, 0), CountHall.NOT_FOUND);
        check.due("not at the left", hall.named(0, 1), CountHall.NOT_FOUND);
        check.due("more than 30 bits", hall.named(0, Check.letters("a") | 1 << 31), CountHall.NOT_FOUND);
        check.due("named(4)", hall.named(4, Check.letters("a")), CountHall.BAD_VALUE);
        check.due("named(-1)", hall.named(-1, 0), CountHall.BAD_VALUE);
    }

    private static void promise8GetSetting() {
        CountHall hall = Check.hall("set tolerance 7;set trigger 44;");
        check.due("trigger", hall.getSetting(CountHall.TRIGGER), 44);
        check.due("tolerance", hall.getSetting(CountHall.TOLERANCE), 7);
        check.due("getSetting(2)", hall.getSetting(2), CountHall.BAD_VALUE);
        check.due("getSetting(-1)", hall.getSetting(-1), CountHall.BAD_VALUE);
        check.due("getSetting(smallest)", hall.getSetting(Integer.MIN_VALUE), CountHall.BAD_VALUE);
    }
}
