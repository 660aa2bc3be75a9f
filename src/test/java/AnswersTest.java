/** Promises 9 to 44: what a hall answers about its things without changing any. */
final class AnswersTest {
    private static final Check check = new Check();
    private static final int NOT_FOUND = CountHall.NOT_FOUND;
    private static final int BAD_VALUE = CountHall.BAD_VALUE;
    private static final String TWO_PARTIES = "party a;party b;region r;ward w r;";
    private static final String BOX = TWO_PARTIES + "box k w 10 7 6 3 1;";

    public static void main(String[] args) {
        indexesOutside();
        promises9To12Regions();
        promise13BoxProperty();
        promise14PlaceOf();
        promise15Papers();
        promises16To18Seals();
        promises19And20Tables();
        promises21And22Counts();
        promise23WouldCount();
        promises24And25Valid();
        promises26And27Off();
        promise28WardVotes();
        promises29And30Leader();
        promise31IsClose();
        promise32WhyNot();
        promise33ToCount();
        promise34CountsLeft();
        promise35RightTable();
        promise36NextWard();
        promises37And38Declared();
        promises39To41Regions();
        promise42IsDecided();
        promise43Misplaced();
        promise44WorstTable();
        check.end();
    }

    private static int bit(boolean answer) {
        return answer ? 1 : 0;
    }

    private static void indexesOutside() {
        CountHall hall = Check.hall("party a;region r;region s;region t;ward w r;ward x r;"
                + "box k w 10 7 6 3;box l w 10 7 6 3;box m x 10 7 6 3;box n x 10 7 6 3;table 0;table 1;table 2;");
        check.outside("regionAround", 3, hall::regionAround);
        check.outside("regionOf", 2, hall::regionOf);
        check.outside("wardsIn", 3, hall::wardsIn);
        check.outside("depthOf", 3, hall::depthOf);
        check.outside("boxProperty", 4, box -> hall.boxProperty(box, 9));
        check.outside("placeOf", 4, hall::placeOf);
        check.outside("papers", 4, box -> hall.papers(box, 9));
        check.outside("isSealGood", 4, box -> bit(hall.isSealGood(box)));
        check.outside("ledgerSize", 4, hall::ledgerSize);
        check.outside("ledger", 4, box -> hall.ledger(box, 9));
        check.outside("boxAt", 3, hall::boxAt);
        check.outside("slipOf", 3, hall::slipOf);
        check.outside("counted", 4, box -> hall.counted(box, 9, 9));
        check.outside("countedAt", 4, box -> hall.countedAt(box, 9));
        check.outside("wouldCount table", 3, table -> hall.wouldCount(table, 0, 9));
        check.outside("wouldCount box", 4, box -> hall.wouldCount(0, box, 9));
        check.outside("isConfirmed", 4, box -> bit(hall.isConfirmed(box)));
        check.outside("result", 4, box -> hall.result(box, 9));
        check.outside("surplus", 4, hall::surplus);
        check.outside("isOff", 4, box -> bit(hall.isOff(box)));
        check.outside("wardVotes", 2, ward -> hall.wardVotes(ward, 9));
        check.outside("leader", 2, hall::leader);
        check.outside("margin", 2, hall::margin);
        check.outside("isClose", 2, ward -> bit(hall.isClose(ward)));
        check.outside("whyNot", 2, hall::whyNot);
        check.outside("countsLeft", 4, hall::countsLeft);
        check.outside("rightTable", 4, hall::rightTable);
        check.outside("isRegionDeclared", 3, region -> bit(hall.isRegionDeclared(region)));
        check.outside("regionVotes", 3, region -> hall.regionVotes(region, 9));
        check.outside("regionSeats", 3, region -> hall.regionSeats(region, 9));
        check.outside("isDecided", 3, region -> bit(hall.isDecided(region)));
        check.outside("write", 2, hall::write);
    }

    private static void promises9To12Regions() {
        CountHall hall = Check.hall("region a;region b in a;region c in b;region d;region e in a;"
                + "ward p a;ward q b;ward r c;ward s d;");
        int[] around = {NOT_FOUND, 0, 1, NOT_FOUND, 0};
        int[] wards = {7, 6, 4, 8, 0};
        int[] depth = {0, 1, 2, 0, 1};
        for (int region = 0; region < 5; region++) {
            check.due("regionAround " + region, hall.regionAround(region), around[region]);
            check.due("wardsIn " + region, hall.wardsIn(region), wards[region]);
            check.due("depthOf " + region, hall.depthOf(region), depth[region]);
        }
        int[] regions = {0, 1, 2, 3};
        for (int ward = 0; ward < 4; ward++) {
            check.due("regionOf " + ward, hall.regionOf(ward), regions[ward]);
        }
        CountHall chain = Check.hall("region a;region b in a;region c in b;region d in c;region e in d;ward w e;");
        for (int region = 0; region < 5; region++) {
            check.due("depthOf in a chain", chain.depthOf(region), region);
            check.due("wardsIn in a chain", chain.wardsIn(region), 1);
        }
    }

    private static void promise13BoxProperty() {
        CountHall hall = Check.hall("region r;ward w r;ward x r;box k x 12 77 4;box l w 0 9999 4;table 0;");
        check.due("ward", hall.boxProperty(0, 0), 1);
        check.due("ward", hall.boxProperty(1, 0), 0);
        check.due("issued", hall.boxProperty(0, 1), 12);
        check.due("issued", hall.boxProperty(1, 1), 0);
        check.due("seal", hall.boxProperty(0, 2), 77);
        check.due("counts", hall.boxProperty(0, 3), 0);
        check.due("property 4", hall.boxProperty(0, 4), BAD_VALUE);
        check.due("property -1", hall.boxProperty(0, -1), BAD_VALUE);
        hall.bring(0);
        hall.open(0, 0);
        hall.countBox(0);
        check.due("no seal", hall.boxProperty(0, 2), 0);
        check.due("counts", hall.boxProperty(0, 3), 1);
        hall.seal(0);
        check.due("seal", hall.boxProperty(0, 2), 5000);
        hall.tamper(0, 3);
        check.due("seal", hall.boxProperty(0, 2), 3);
    }

    private static void promise14PlaceOf() {
        CountHall hall = Check.hall(BOX + "table 0;table 0;");
        check.due("placeOf", hall.placeOf(0), CountHall.AWAY);
        hall.bring(0);
        check.due("placeOf", hall.placeOf(0), CountHall.HALL);
        hall.open(0, 1);
        check.due("placeOf", hall.placeOf(0), 1);
        hall.seal(1);
        check.due("placeOf", hall.placeOf(0), CountHall.HALL);
    }

    private static void promise15Papers() {
        CountHall hall = Check.hall(BOX + "table 1;");
        hall.bring(0);
        Check.count(hall, 0, 0);
        check.due("papers", hall.papers(0, 0), 6);
        check.due("papers", hall.papers(0, 1), 3);
        check.due("spoilt papers", hall.papers(0, 2), 1);
        check.due("papers of no pile", hall.papers(0, 3), BAD_VALUE);
        check.due("papers of no pile", hall.papers(0, -1), BAD_VALUE);
        CountHall spoilt = Check.hall("region r;ward w r;box k w 1 1 300;");
        check.due("spoilt papers alone", spoilt.papers(0, 0), 300);
        check.due("papers of no pile", spoilt.papers(0, 1), BAD_VALUE);
    }

    private static void promises16To18Seals() {
        CountHall hall = Check.hall(BOX + "table 0;");
        check.holds("isSealGood", hall.isSealGood(0));
        hall.bring(0);
        hall.open(0, 0);
        check.fails("isSealGood at a table", hall.isSealGood(0));
        check.due("ledgerSize", hall.ledgerSize(0), 1);
        hall.seal(0);
        check.holds("isSealGood", hall.isSealGood(0));
        check.due("ledgerSize", hall.ledgerSize(0), 2);
        hall.tamper(0, 7);
        check.fails("isSealGood of the first seal", hall.isSealGood(0));
        check.due("ledgerSize", hall.ledgerSize(0), 2);
        hall.accept(0);
        check.holds("isSealGood", hall.isSealGood(0));
        hall.tamper(0, 8);
        hall.tamper(0, 7);
        check.holds("isSealGood by luck", hall.isSealGood(0));
        check.due("ledgerSize", hall.ledgerSize(0), 3);
        check.due("ledger", hall.ledger(0, 0), 7);
        check.due("ledger", hall.ledger(0, 1), 5000);
        check.due("ledger", hall.ledger(0, 2), 7);
        check.due("ledger", hall.ledger(0, 3), NOT_FOUND);
        check.due("ledger", hall.ledger(0, -1), NOT_FOUND);
        check.due("ledger", hall.ledger(0, Integer.MAX_VALUE), NOT_FOUND);
    }

    private static void promises19And20Tables() {
        CountHall hall = Check.hall(BOX + "box l w 10 7 6 3 1;table 0;table 99;table 17;");
        check.due("boxAt", hall.boxAt(2), NOT_FOUND);
        hall.bring(1);
        hall.open(1, 2);
        check.due("boxAt", hall.boxAt(0), NOT_FOUND);
        check.due("boxAt", hall.boxAt(2), 1);
        hall.seal(2);
        check.due("boxAt", hall.boxAt(2), NOT_FOUND);
        check.due("slipOf", hall.slipOf(0), 0);
        check.due("slipOf", hall.slipOf(1), 99);
        check.due("slipOf", hall.slipOf(2), 17);
    }

    private static void promises21And22Counts() {
        CountHall hall = Check.hall(BOX + "table 0;table 3;");
        hall.bring(0);
        check.due("counted", hall.counted(0, 0, 0), NOT_FOUND);
        check.due("counted, no count and no pile", hall.counted(0, 0, 3), NOT_FOUND);
        check.due("countedAt", hall.countedAt(0, 0), NOT_FOUND);
        Check.count(hall, 0, 1);
        Check.count(hall, 0, 0);
        int[][] due = {{4, 4, 2}, {6, 3, 1}};
        for (int count = 0; count < 2; count++) {
            for (int pile = 0; pile < 3; pile++) {
                check.due("counted " + count + " " + pile, hall.counted(0, count, pile), due[count][pile]);
            }
            check.due("counted of no pile", hall.counted(0, count, 3), BAD_VALUE);
            check.due("counted of no pile", hall.counted(0, count, -1), BAD_VALUE);
        }
        check.due("countedAt", hall.countedAt(0, 0), 1);
        check.due("countedAt", hall.countedAt(0, 1), 0);
        check.due("countedAt", hall.countedAt(0, 2), NOT_FOUND);
        check.due("countedAt", hall.countedAt(0, -1), NOT_FOUND);
        check.due("counted", hall.counted(0, 2, 0), NOT_FOUND);
        check.due("counted", hall.counted(0, -1, 0), NOT_FOUND);
    }

    private static void promise23WouldCount() {
        int[] slips = {0, 1, 2, 3, 5, 10, 11, 99};
        int[][] due = {{6, 3, 1}, {1, 6, 3}, {4, 5, 1}, {4, 4, 2}, {6, 4, 0}, {7, 3, 0}, {6, 3, 1}, {6, 3, 1}};
        for (int i = 0; i < slips.length; i++) {
            CountHall hall = Check.hall(BOX + "table 50;table " + slips[i] + ";");
            for (int pile = 0; pile < 3; pile++) {
                check.due("wouldCount, slip " + slips[i], hall.wouldCount(1, 0, pile), due[i][pile]);
            }
            check.due("wouldCount of no pile", hall.wouldCount(1, 0, 3), BAD_VALUE);
            check.due("wouldCount of no pile", hall.wouldCount(1, 0, -1), BAD_VALUE);
            check.due("nothing is counted", hall.boxProperty(0, 3), 0);
        }
        CountHall spoilt = Check.hall("region r;ward w r;box k w 1 1 9;table 2;");
        check.due("wouldCount without parties", spoilt.wouldCount(0, 0, 0), 9);
        CountHall empty = Check.hall(TWO_PARTIES + "box k w 0 1 0 0 0;table 1;");
        check.due("wouldCount without papers", empty.wouldCount(0, 0, 1), 0);
    }

    private static void promises24And25Valid() {
        CountHall hall = Check.hall(BOX + "table 0;table 99;table 3;table 3;");
        hall.bring(0);
        check.fails("isConfirmed", hall.isConfirmed(0));
        check.due("result", hall.result(0, 0), NOT_FOUND);
        check.due("result, no count and no pile", hall.result(0, 3), NOT_FOUND);
        Check.count(hall, 0, 2);
        check.due("result", hall.result(0, 0), 4);
        check.due("result of no pile", hall.result(0, 3), BAD_VALUE);
        check.due("result of no pile", hall.result(0, -1), BAD_VALUE);
        Check.count(hall, 0, 0);
        check.fails("isConfirmed", hall.isConfirmed(0));
        check.due("the latest count", hall.result(0, 0), 6);
        Check.count(hall, 0, 1);
        check.holds("isConfirmed", hall.isConfirmed(0));
        check.due("result", hall.result(0, 0), 6);
        check.due("result", hall.result(0, 1), 3);
        check.due("result", hall.result(0, 2), 1);
        Check.count(hall, 0, 3);
        check.holds("isConfirmed", hall.isConfirmed(0));
        check.due("the first count that is confirmed", hall.result(0, 0), 4);

        CountHall same = Check.hall(BOX + "table 0;table 3;table 99;");
        same.bring(0);
        Check.count(same, 0, 0);
        Check.count(same, 0, 0);
        check.fails("isConfirmed by the same table", same.isConfirmed(0));
        Check.count(same, 0, 1);
        check.fails("isConfirmed", same.isConfirmed(0));
        check.due("the latest count", same.result(0, 0), 4);
        Check.count(same, 0, 2);
        check.holds("isConfirmed", same.isConfirmed(0));
        check.due("result", same.result(0, 0), 6);

        CountHall latest = Check.hall(BOX + "table 0;table 99;table 3;");
        latest.bring(0);
        Check.count(latest, 0, 0);
        Check.count(latest, 0, 1);
        Check.count(latest, 0, 2);
        check.due("not the latest count, which nothing confirms", latest.result(0, 0), 6);

        // The first pile alone is the same: slip 5 finds 6 4 0.
        CountHall partly = Check.hall(BOX + "table 0;table 5;");
        partly.bring(0);
        Check.count(partly, 0, 0);
        Check.count(partly, 0, 1);
        check.fails("isConfirmed by one pile", partly.isConfirmed(0));
    }

    private static void promises26And27Off() {
        int[] issued = {10, 8, 13};
        for (int number : issued) {
            CountHall hall = Check.hall(TWO_PARTIES + "box k w " + number + " 7 6 3 1;table 3;");
            hall.bring(0);
            hall.open(0, 0);
            check.due("surplus before a count", hall.surplus(0), 0);
            check.fails("isOff before a count", hall.isOff(0));
            hall.countBox(0);
            check.due("surplus", hall.surplus(0), 10 - number);
            for (int tolerance = 0; tolerance < 5; tolerance++) {
                hall.setSetting(CountHall.TOLERANCE, tolerance);
                check.due("isOff", bit(hall.isOff(0)), bit(Math.abs(10 - number) > tolerance));
            }
        }
    }

    private static void promise28WardVotes() {
        CountHall hall = Check.hall(TWO_PARTIES + "ward x r;box k w 10 7 6 3 1;box l w 5 7 100 200 300;box m x 1 1 50 0 0;"
                + "table 0;table 3;");
        for (int box = 0; box < 3; box++) {
            hall.bring(box);
        }
        check.due("wardVotes", hall.wardVotes(0, 0), 0);
        Check.count(hall, 0, 0);
        Check.count(hall, 2, 0);
        check.due("wardVotes", hall.wardVotes(0, 0), 6);
        Check.count(hall, 1, 0);
        check.due("wardVotes", hall.wardVotes(0, 0), 106);
        check.due("wardVotes", hall.wardVotes(0, 1), 203);
        check.due("wardVotes", hall.wardVotes(0, 2), 301);
        check.due("wardVotes", hall.wardVotes(1, 0), 50);
        check.due("wardVotes of no pile", hall.wardVotes(0, 3), BAD_VALUE);
        check.due("wardVotes of no pile", hall.wardVotes(0, -1), BAD_VALUE);
        Check.count(hall, 0, 1);
        check.due("wardVotes by the valid count", hall.wardVotes(0, 0), 104);
    }

    private static CountHall counted(String text) {
        CountHall hall = Check.hall(text + "table 0;");
        for (int box = 0; box < hall.count(3); box++) {
            hall.bring(box);
            Check.count(hall, box, 0);
        }
        return hall;
    }

    private static void promises29And30Leader() {
        String three = "party a;party b;party c;region r;ward w r;ward x r;";
        int[][] votes = {{5, 9, 7}, {9, 9, 1}, {1, 4, 4}, {0, 0, 3}, {0, 0, 0}, {7, 3, 6}, {3, 6, 8}, {0, 1, 0}};
        int[] leader = {1, 0, 1, 2, NOT_FOUND, 0, 2, 1};
        int[] margin = {2, 0, 0, 3, 0, 1, 2, 1};
        for (int i = 0; i < votes.length; i++) {
            CountHall hall = counted(three + "box k w 1 1 " + votes[i][0] + " " + votes[i][1] + " " + votes[i][2] + " 200;");
            check.due("leader", hall.leader(0), leader[i]);
            check.due("margin", hall.margin(0), margin[i]);
            check.due("leader of a ward without boxes", hall.leader(1), NOT_FOUND);
            check.due("margin of a ward without boxes", hall.margin(1), 0);
        }
        CountHall alone = counted("party a;region r;ward w r;box k w 1 1 8 3;");
        check.due("leader", alone.leader(0), 0);
        check.due("margin of one party alone", alone.margin(0), 8);
        CountHall none = counted("region r;ward w r;box k w 1 1 3;");
        check.due("leader without parties", none.leader(0), NOT_FOUND);
        check.due("margin without parties", none.margin(0), 0);
    }

    private static void promise31IsClose() {
        CountHall hall = counted(TWO_PARTIES + "box k w 400 1 60 40 300;");
        hall.setSetting(CountHall.TRIGGER, 20);
        check.holds("isClose at the edge", hall.isClose(0));
        hall.setSetting(CountHall.TRIGGER, 19);
        check.fails("isClose", hall.isClose(0));
        CountHall tie = counted(TWO_PARTIES + "set trigger 0;box k w 10 1 5 5 0;");
        check.holds("isClose of a tie", tie.isClose(0));
        CountHall spoilt = counted(TWO_PARTIES + "set trigger 50;box k w 10 1 0 0 9;");
        check.fails("isClose without votes", spoilt.isClose(0));
        CountHall alone = counted("party a;set trigger 50;region r;ward w r;box k w 10 1 9 0;");
        check.fails("isClose of one party alone", alone.isClose(0));
        CountHall uncounted = Check.hall(BOX);
        check.fails("isClose without counts", uncounted.isClose(0));
    }

    private static void promise32WhyNot() {
        CountHall hall = Check.hall(TWO_PARTIES + "ward x r;ward y r;box k w 13 1 10 0 0;box l w 2 2 1 1 0;box m y 9 1 0 0 9;"
                + "table 0;table 99;");
        check.due("whyNot, no box", hall.whyNot(1), 2);
        check.due("whyNot, not counted", hall.whyNot(0), 2);
        hall.bring(0);
        hall.open(0, 0);
        hall.countBox(0);
        check.due("whyNot, one not counted", hall.whyNot(0), 2);
        hall.bring(1);
        hall.open(1, 1);
        hall.countBox(1);
        check.due("whyNot, at tables", hall.whyNot(0), 3);
        hall.seal(0);
        check.due("whyNot, one at a table", hall.whyNot(0), 3);
        hall.seal(1);
        check.due("whyNot, one off", hall.whyNot(0), 4);
        hall.setSetting(CountHall.TOLERANCE, 3);
        check.due("whyNot, none off", hall.whyNot(0), 0);
        hall.setSetting(CountHall.TOLERANCE, 2);
        check.due("whyNot, one off", hall.whyNot(0), 4);
        Check.count(hall, 0, 1);
        check.due("whyNot, off and confirmed", hall.whyNot(0), 0);
        check.due("declare", hall.declare(), 0);
        check.due("whyNot, declared", hall.whyNot(0), 1);
        hall.setSetting(CountHall.TOLERANCE, 0);
        hall.setSetting(CountHall.TRIGGER, 50);
        check.due("whyNot, declared", hall.whyNot(0), 1);
        hall.bring(2);
        Check.count(hall, 2, 0);
        check.due("whyNot without votes", hall.whyNot(2), 0);

        CountHall close = Check.hall(TWO_PARTIES + "box k w 10 1 5 5 0;box l w 2 2 1 1 0;table 0;table 99;");
        for (int box = 0; box < 2; box++) {
            close.bring(box);
            Check.count(close, box, 0);
        }
        check.due("whyNot, close", close.whyNot(0), 5);
        Check.count(close, 0, 1);
        check.due("whyNot, close and one not confirmed", close.whyNot(0), 5);
        Check.count(close, 1, 1);
        check.due("whyNot, close and confirmed", close.whyNot(0), 0);
    }

    private static void promise33ToCount() {
        CountHall hall = Check.hall(TWO_PARTIES + "ward x r;ward y r;box k w 13 1 10 0 0;box l w 2 2 1 1 0;box m x 9 1 9 0 0;"
                + "box n y 4 4 2 2 0;table 0;table 99;set trigger 0;");
        check.due("toCount", hall.toCount(), 15);
        for (int box = 0; box < 4; box++) {
            hall.bring(box);
        }
        Check.count(hall, 2, 0);
        check.due("toCount", hall.toCount(), 11);
        hall.open(1, 0);
        hall.countBox(0);
        check.due("toCount, close while the other box is not counted", hall.toCount(), 11);
        hall.seal(0);
        Check.count(hall, 0, 0);
        check.due("toCount, off", hall.toCount(), 9);
        Check.count(hall, 3, 0);
        check.due("toCount, off and close", hall.toCount(), 9);
        Check.count(hall, 3, 1);
        check.due("toCount, confirmed", hall.toCount(), 1);
        Check.count(hall, 0, 1);
        check.due("toCount, confirmed", hall.toCount(), 0);
        hall.setSetting(CountHall.TRIGGER, 50);
        check.due("toCount, not close", hall.toCount(), 0);
        check.due("toCount of an empty hall", new CountHall().toCount(), 0);

        CountHall declared = counted(TWO_PARTIES + "set trigger 1;box k w 100 1 60 40 0;");
        check.due("declare", declared.declare(), 0);
        declared.setSetting(CountHall.TRIGGER, 50);
        check.due("toCount of a declared ward", declared.toCount(), 0);
        declared.undo();
        declared.undo();
        declared.setSetting(CountHall.TRIGGER, 50);
        check.due("toCount of the same ward, not declared", declared.toCount(), 1);
    }

    private static void promise34CountsLeft() {
        check.due("countsLeft without tables", Check.hall(BOX).countsLeft(0), NOT_FOUND);
        check.due("countsLeft with one table", Check.hall(BOX + "table 0;").countsLeft(0), NOT_FOUND);
        check.due("countsLeft with tables that differ", Check.hall(BOX + "table 0;table 3;table 1;table 5;").countsLeft(0), NOT_FOUND);
        check.due("countsLeft with wrong tables that agree", Check.hall(BOX + "table 1;table 3;table 0;table 3;").countsLeft(0), 2);

        CountHall hall = Check.hall(BOX + "table 0;table 99;table 3;");
        check.due("countsLeft", hall.countsLeft(0), 2);
        hall.bring(0);
        hall.open(0, 0);
        check.due("countsLeft at a table", hall.countsLeft(0), 2);
        hall.countBox(0);
        check.due("countsLeft after a count", hall.countsLeft(0), 1);
        hall.countBox(0);
        hall.countBox(0);
        check.due("countsLeft after three counts", hall.countsLeft(0), 1);
        hall.countBox(0);
        check.due("countsLeft after four counts", hall.countsLeft(0), NOT_FOUND);
        hall.undo();
        hall.seal(0);
        Check.count(hall, 0, 1);
        check.due("countsLeft when confirmed", hall.countsLeft(0), 0);

        CountHall back = Check.hall(BOX + "table 0;table 99;table 3;");
        back.bring(0);
        Check.count(back, 0, 1);
        check.due("countsLeft by the first table", back.countsLeft(0), 1);

        CountHall wrong = Check.hall(BOX + "table 0;table 99;table 3;");
        wrong.bring(0);
        wrong.open(0, 2);
        wrong.countBox(2);
        check.due("countsLeft after a wrong count", wrong.countsLeft(0), 2);
        wrong.countBox(2);
        check.due("countsLeft after two wrong counts", wrong.countsLeft(0), 2);
        wrong.countBox(2);
        check.due("countsLeft after three wrong counts", wrong.countsLeft(0), NOT_FOUND);
    }

    private static void promise35RightTable() {
        check.due("rightTable without tables", Check.hall(BOX).rightTable(0), NOT_FOUND);
        check.due("rightTable", Check.hall(BOX + "table 3;table 11;table 0;").rightTable(0), 1);
        check.due("rightTable, none", Check.hall(BOX + "table 3;table 5;table 10;").rightTable(0), NOT_FOUND);
        check.due("rightTable by luck", Check.hall(TWO_PARTIES + "box k w 1 1 5 5 5;table 2;table 1;").rightTable(0), 1);
        check.due("rightTable without papers", Check.hall(TWO_PARTIES + "box k w 1 1 0 0 0;table 2;table 0;").rightTable(0), 0);
        check.due("rightTable without parties", Check.hall("region r;ward w r;box k w 1 1 9;table 2;table 0;").rightTable(0), 0);
    }

    private static void promise36NextWard() {
        check.due("nextWard of an empty hall", new CountHall().nextWard(), NOT_FOUND);
        CountHall hall = counted("party a;region r;ward v r;ward w r;ward x r;ward y r;ward z r;"
                + "box k w 10 1 9 1;box l x 8 1 4 0;box m x 8 1 0 4;box n y 7 1 7 0;box o z 7 1 0 7;");
        hall.setSetting(CountHall.TOLERANCE, 4);
        check.due("nextWard, the first of two with 7 papers", hall.nextWard(), 3);
        hall.declare();
        check.due("nextWard, with spoilt papers alone", hall.nextWard(), 4);
        hall.declare();
        check.due("nextWard, of two boxes", hall.nextWard(), 2);
        hall.declare();
        hall.open(0, 0);
        check.due("nextWard, none is ready", hall.nextWard(), NOT_FOUND);
        hall.seal(0);
        check.due("nextWard", hall.nextWard(), 1);
        hall.declare();
        check.due("nextWard, a ward without boxes is left", hall.nextWard(), NOT_FOUND);
    }

    private static void promises37And38Declared() {
        CountHall hall = counted("party a;region r;ward w r;ward x r;box k w 10 1 10 0;box l x 8 1 8 0;");
        check.due("declaredCount", hall.declaredCount(), 0);
        check.due("declared", hall.declared(0), NOT_FOUND);
        hall.declare();
        check.due("declaredCount", hall.declaredCount(), 1);
        check.due("declared", hall.declared(0), 1);
        check.due("declared", hall.declared(1), NOT_FOUND);
        hall.declare();
        check.due("declaredCount", hall.declaredCount(), 2);
        check.due("declared", hall.declared(0), 1);
        check.due("declared", hall.declared(1), 0);
        check.due("declared", hall.declared(2), NOT_FOUND);
        check.due("declared", hall.declared(-1), NOT_FOUND);
        check.due("declared", hall.declared(Integer.MAX_VALUE), NOT_FOUND);
    }

    private static void promises39To41Regions() {
        CountHall hall = counted("party a;party b;region p;region q in p;region r;region s in q;ward w q;ward x p;ward y s;"
                + "box k w 10 1 8 1 1;box l x 20 1 5 15 0;box m y 30 1 0 0 30;");
        check.fails("isRegionDeclared", hall.isRegionDeclared(1));
        check.due("regionVotes before", hall.regionVotes(0, 0), 0);
        check.due("regionSeats before", hall.regionSeats(0, 0), 0);
        hall.declare();
        check.fails("isRegionDeclared", hall.isRegionDeclared(1));
        check.due("regionVotes", hall.regionVotes(0, 0), 8);
        check.due("regionVotes", hall.regionVotes(0, 1), 1);
        check.due("regionVotes", hall.regionVotes(1, 0), 8);
        check.due("regionVotes", hall.regionVotes(3, 0), 0);
        hall.declare();
        check.due("regionVotes", hall.regionVotes(0, 0), 13);
        check.due("regionVotes", hall.regionVotes(0, 1), 16);
        check.due("regionVotes", hall.regionVotes(1, 1), 1);
        check.due("regionSeats", hall.regionSeats(0, 0), 1);
        check.due("regionSeats", hall.regionSeats(0, 1), 1);
        check.due("regionSeats", hall.regionSeats(1, 1), 0);
        check.due("regionSeats", hall.regionSeats(2, 0), 0);
        check.fails("isRegionDeclared", hall.isRegionDeclared(0));
        check.fails("isRegionDeclared", hall.isRegionDeclared(3));
        hall.declare();
        check.holds("isRegionDeclared", hall.isRegionDeclared(0));
        check.holds("isRegionDeclared", hall.isRegionDeclared(1));
        check.holds("isRegionDeclared", hall.isRegionDeclared(3));
        check.fails("isRegionDeclared without wards", hall.isRegionDeclared(2));
        check.due("regionVotes of no party", hall.regionVotes(0, 2), BAD_VALUE);
        check.due("regionVotes of no party", hall.regionVotes(0, -1), BAD_VALUE);
        check.due("regionSeats of no party", hall.regionSeats(0, 2), BAD_VALUE);
        check.due("regionSeats of no party", hall.regionSeats(0, -1), BAD_VALUE);
        check.due("regionSeats of a ward without votes", hall.regionSeats(3, 0), 0);

        CountHall first = counted("party a;party b;region p;ward w p;ward x p;box k w 9 1 9 0 0;box l x 8 1 8 0 0;");
        first.declare();
        check.fails("isRegionDeclared without its first ward", first.isRegionDeclared(0));
        check.fails("isDecided without its first ward", first.isDecided(0));
    }

    private static void promise42IsDecided() {
        CountHall hall = counted("party a;party b;party c;region p;region q in p;region r;ward v p;ward w q;ward x q;ward y p;"
                + "box k v 4 1 4 0 0 0;box l w 5 1 5 0 0 0;box m x 6 1 0 6 0 0;box n y 7 1 7 0 0 0;");
        check.fails("isDecided 0 of 4", hall.isDecided(0));
        check.fails("isDecided without wards", hall.isDecided(2));
        hall.declare();
        check.fails("isDecided 1 and 3 open", hall.isDecided(0));
        check.fails("isDecided 0 and 2 open", hall.isDecided(1));
        hall.declare();
        check.fails("isDecided 2 and 2 open", hall.isDecided(0));
        check.fails("isDecided 1 and 1 open", hall.isDecided(1));
        hall.declare();
        check.fails("isDecided 2 to 1 and 1 open", hall.isDecided(0));
        check.fails("isDecided 1 to 1", hall.isDecided(1));
        hall.declare();
        check.holds("isDecided 3 to 1", hall.isDecided(0));
        CountHall early = counted("party a;party b;region p;ward v p;ward w p;ward x p;"
                + "box k v 4 1 0 4 0;box l w 5 1 0 5 0;box m x 6 1 6 0 0;");
        early.declare();
        check.fails("isDecided 1 and 2 open", early.isDecided(0));
        early.declare();
        check.holds("isDecided 2 and 1 open", early.isDecided(0));
        check.holds("isDecided of one party alone", Check.hall("party a;region r;").isDecided(0));
        check.fails("isDecided without parties", Check.hall("region r;").isDecided(0));
    }

    private static void promise43Misplaced() {
        CountHall hall = Check.hall(TWO_PARTIES + "box k w 10 7 6 3 1;box l w 10 7 6 3 1;table 0;table 3;table 1;");
        check.due("misplaced", hall.misplaced(), 0);
        hall.bring(0);
        hall.bring(1);
        check.due("misplaced", hall.misplaced(), 0);
        Check.count(hall, 0, 1);
        check.due("misplaced: 4 4 2", hall.misplaced(), 2);
        Check.count(hall, 1, 2);
        check.due("misplaced: 1 6 3, too", hall.misplaced(), 7);
        Check.count(hall, 0, 0);
        check.due("misplaced by the valid count", hall.misplaced(), 5);
    }

    private static void promise44WorstTable() {
        CountHall hall = Check.hall(TWO_PARTIES + "box k w 10 7 6 3 1;box l w 10 7 6 3 1;box m w 1 1 1 0 0;table 0;table 3;table 1;");
        check.due("worstTable", hall.worstTable(), NOT_FOUND);
        for (int box = 0; box < 3; box++) {
            hall.bring(box);
        }
        Check.count(hall, 0, 0);
        Check.count(hall, 0, 0);
        check.due("worstTable, all are right", hall.worstTable(), NOT_FOUND);
        Check.count(hall, 2, 1);
        check.due("worstTable, right by a small box", hall.worstTable(), NOT_FOUND);
        Check.count(hall, 0, 2);
        check.due("worstTable", hall.worstTable(), 2);
        Check.count(hall, 1, 1);
        check.due("worstTable of a tie", hall.worstTable(), 1);
        Check.count(hall, 1, 2);
        check.due("worstTable", hall.worstTable(), 2);
        CountHall first = Check.hall(BOX + "table 3;table 0;");
        first.bring(0);
        Check.count(first, 0, 0);
        check.due("worstTable, the first one", first.worstTable(), 0);
    }
}
