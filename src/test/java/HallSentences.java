/** Tests of the sentences of "What it is" and "Description" that name a boundary case, but for those of the text format. */
final class HallSentences {
    private static final int NOT_FOUND = CountHall.NOT_FOUND;
    private static final int NOT_ALLOWED = CountHall.NOT_ALLOWED;
    private static final int AWAY = CountHall.AWAY;
    private static final int HALL = CountHall.HALL;
    private static final int TRIGGER = CountHall.TRIGGER;
    private static final int TOLERANCE = CountHall.TOLERANCE;
    private static final String WARD = "party a;party b;region r;ward w r;";
    private static final String BOX = WARD + "box k w 10 7 9 0 1;table 0;table 3;";
    /** As many things of each sort as there can be. */
    static final String LARGEST = "party a;party b;party c;party d;party e;"
            + "region a;region b in a;region c in b;region d in c;region e in d;"
            + "ward a e;ward b a;ward c a;ward d a;ward e a;ward f a;table 1;table 2;table 3;table 99;";

    static String largest() {
        StringBuilder text = new StringBuilder(LARGEST);
        for (char name = 'a'; name < 'm'; name++) {
            text.append("box ").append(name).append(" f 15 ").append(name - 'a' + 1).append(" 0 1 2 3 4 5;");
        }
        return text.toString();
    }

    /** Each box is brought, counted once at the table that is told, and sealed. */
    static CountHall countedAt(int table, String text) {
        CountHall hall = Check.hall(text);
        for (int box = 0; box < hall.count(3); box++) {
            hall.bring(box);
            Check.count(hall, box, table);
        }
        return hall;
    }

    @Sentence(promise = 0, says = "An object is used for at most 512 calls after it has been made")
    static void the512thCallAnswers(Check check) {
        CountHall hall = new CountHall();
        for (int call = 1; call <= 509; call++) {
            hall.setSetting(TRIGGER, call % 50);
        }
        check.due("the 510th call", hall.setSetting(TRIGGER, 50), 509 % 50);
        check.due("the 511th call", hall.undo(), 9);
        check.due("the 512th call", hall.getSetting(TRIGGER), 509 % 50);
    }

    @Sentence(promise = 0, says = "There are at most 5 parties, 5 regions, 6 wards, 12 boxes and 4 tables,"
            + " each sort indexed from 0 in the order in which they are declared.")
    static void asManyThingsAsThereCanBe(Check check) {
        CountHall hall = Check.hall(largest());
        int[] most = {5, 5, 6, 12, 4};
        for (int what = 0; what < 5; what++) {
            check.due("count(" + what + ")", hall.count(what), most[what]);
        }
        for (int what = 0; what < 4; what++) {
            for (int index = 0; index < most[what]; index++) {
                String name = String.valueOf((char) ('a' + index));
                check.due("named(" + what + ", " + name + ")", hall.named(what, Check.letters(name)), index);
            }
        }
        check.due("the last table", hall.slipOf(3), 99);
        check.due("the last box", hall.boxProperty(11, 2), 12);
        check.due("the last pile of the last box", hall.papers(11, 5), 5);
    }

    @Sentence(promise = 0, says = "There are at most 5 parties, 5 regions, 6 wards, 12 boxes and 4 tables")
    static void theLargestHallIsCounted(Check check) {
        CountHall hall = countedAt(0, largest());
        check.due("misplaced", hall.misplaced(), 60);
        Check.count(hall, 11, 3);
        check.due("misplaced by the others", hall.misplaced(), 55);
        check.due("worstTable", hall.worstTable(), 0);
        check.due("rightTable", hall.rightTable(11), 3);
        check.due("countsLeft", hall.countsLeft(11), NOT_FOUND);
        check.due("surplus", hall.surplus(11), 0);
        check.due("declare", hall.declare(), 5);
        check.due("nextWard", hall.nextWard(), NOT_FOUND);
        check.due("regionVotes", hall.regionVotes(0, 4), 37);
        check.due("write", hall.write(5), "f a=55 b=1 c=13 d=25 e=37 !".length());
        check.holds("output", Check.output(hall).equals("f a=55 b=1 c=13 d=25 e=37 !"));
    }

    @Sentence(promise = 0, says = "A region may lie in another region.")
    static void regionsWithinRegions(Check check) {
        CountHall hall = Check.hall("region a;region b in a;region c in b;region d in c;region e in d;");
        check.due("around the first one", hall.regionAround(0), NOT_FOUND);
        for (int region = 1; region < 5; region++) {
            check.due("around region " + region, hall.regionAround(region), region - 1);
        }
        check.due("a region in none", Check.hall("region a;region b;").regionAround(1), NOT_FOUND);
    }

    @Sentence(promise = 0, says = "for each party those that are votes for it, and spoilt ones, which are a pile,"
            + " too, the last one.")
    static void spoiltPapersAreTheLastPile(Check check) {
        CountHall none = Check.hall("region r;ward w r;box k w 1 1 7;");
        check.due("spoilt ones without parties", none.papers(0, 0), 7);
        CountHall two = Check.hall(WARD + "box k w 1 1 3 4 5;");
        check.due("votes", two.papers(0, 1), 4);
        check.due("spoilt ones behind two parties", two.papers(0, 2), 5);
        CountHall five = Check.hall(largest());
        check.due("spoilt ones behind five parties", five.papers(0, 5), 5);
    }

    @Sentence(promise = 0, says = "Ballots were issued for a box (0 to 999).")
    static void issuedBallots(Check check) {
        check.due("the fewest", Check.hall(WARD + "box k w 0 1 1 1 1;").boxProperty(0, 1), 0);
        check.due("the most", Check.hall(WARD + "box k w 999 1 1 1 1;").boxProperty(0, 1), 999);
        check.due("too many", Check.load(new CountHall(), WARD + "box k w 1000 1 1 1 1;"), CountHall.RANGE_ERROR);
    }

    @Sentence(promise = 0, says = "A box is AWAY, in the HALL, or at a table; there is at most one box at a table.")
    static void oneBoxAtATable(Check check) {
        CountHall hall = Check.hall(WARD + "box k w 1 1 1 1 1;box l w 1 2 1 1 1;table 0;");
        check.due("at first", hall.placeOf(0), AWAY);
        hall.bring(0);
        check.due("brought", hall.placeOf(0), HALL);
        hall.open(0, 0);
        check.due("opened", hall.placeOf(0), 0);
        hall.bring(1);
        check.due("open at the same table", hall.open(1, 0), NOT_ALLOWED);
        check.due("the other box", hall.placeOf(1), HALL);
        check.due("the table", hall.boxAt(0), 0);
    }

    @Sentence(promise = 0, says = "The settings, with their ranges and initial values,"
            + " are TRIGGER (0 to 50, initially 5) and TOLERANCE (0 to 9, initially 0).")
    static void rangesOfSettings(Check check) {
        CountHall hall = new CountHall();
        check.due("TRIGGER at first", hall.getSetting(TRIGGER), 5);
        check.due("TOLERANCE at first", hall.getSetting(TOLERANCE), 0);
        check.due("the least TRIGGER", hall.setSetting(TRIGGER, 0), 5);
        check.due("the largest TRIGGER", hall.setSetting(TRIGGER, 50), 0);
        check.due("the largest TOLERANCE", hall.setSetting(TOLERANCE, 9), 0);
        check.due("the least TOLERANCE", hall.setSetting(TOLERANCE, 0), 9);
        check.due("a larger TRIGGER", hall.setSetting(TRIGGER, 51), CountHall.BAD_VALUE);
        check.due("a larger TOLERANCE", hall.setSetting(TOLERANCE, 10), CountHall.BAD_VALUE);
        check.due("TRIGGER", hall.getSetting(TRIGGER), 50);
    }

    @Sentence(promise = 0, says = "A box has a seal (1 to 9999) unless it is at a table.")
    static void sealUnlessAtATable(Check check) {
        CountHall hall = Check.hall(WARD + "box k w 1 1 1 1 1;box l w 1 9999 1 1 1;table 0;");
        check.due("the least seal", hall.boxProperty(0, 2), 1);
        check.due("the largest seal", hall.boxProperty(1, 2), 9999);
        hall.bring(1);
        check.due("in the hall", hall.boxProperty(1, 2), 9999);
        hall.open(1, 0);
        check.due("at a table", hall.boxProperty(1, 2), 0);
        hall.seal(0);
        check.due("sealed", hall.boxProperty(1, 2), 5000);
        check.due("seal 0", Check.load(new CountHall(), WARD + "box k w 1 0 1 1 1;"), CountHall.RANGE_ERROR);
        check.due("seal 10000", Check.load(new CountHall(), WARD + "box k w 1 10000 1 1 1;"), CountHall.RANGE_ERROR);
    }

    @Sentence(promise = 0, says = "Its ledger has the seals that it was told to have, the latest one last.")
    static void ledgerHasTheLatestSealLast(Check check) {
        CountHall hall = Check.hall(BOX);
        hall.tamper(0, 3);
        hall.accept(0);
        hall.bring(0);
        hall.open(0, 0);
        hall.seal(0);
        int[] due = {7, 3, 5000};
        for (int entry = 0; entry < 3; entry++) {
            check.due("entry " + entry, hall.ledger(0, entry), due[entry]);
        }
        check.due("entries", hall.ledgerSize(0), 3);
    }

    @Sentence(promise = 0, says = "Its seal is good if it is the latest one of its ledger.")
    static void anEarlierSealIsNotGood(Check check) {
        CountHall hall = Check.hall(BOX);
        check.holds("the only entry", hall.isSealGood(0));
        hall.tamper(0, 8);
        check.fails("a seal that is no entry", hall.isSealGood(0));
        hall.accept(0);
        check.holds("the latest entry", hall.isSealGood(0));
        hall.tamper(0, 7);
        check.fails("the entry before it", hall.isSealGood(0));
        hall.tamper(0, 8);
        check.holds("the latest entry again", hall.isSealGood(0));
    }

    @Sentence(promise = 0, says = "The next seal, which a box gets at a table, is 5000 for the first one since the load,"
            + " then 5001, and so on.")
    static void nextSeal(Check check) {
        CountHall hall = Check.hall(WARD + "box k w 1 5000 1 1 1;box l w 1 5001 1 1 1;table 0;table 0;");
        hall.bring(0);
        hall.bring(1);
        hall.open(1, 1);
        check.due("the first one, which another box has already", hall.seal(1), 5000);
        hall.open(0, 0);
        check.due("the seal of another box", hall.seal(0), 5001);
        hall.undo();
        check.due("after undo", hall.seal(0), 5001);
        check.due("a seal that is refused", hall.seal(0), NOT_ALLOWED);
        check.due("a load that fails", Check.load(hall, "x"), CountHall.SYNTAX_ERROR);
        hall.open(0, 0);
        check.due("since the same load", hall.seal(0), 5002);
        Check.load(hall, BOX);
        hall.bring(0);
        hall.open(0, 0);
        check.due("the first one since another load", hall.seal(0), 5000);
    }

    private static void finds(Check check, String text, int... due) {
        CountHall hall = countedAt(0, text);
        for (int pile = 0; pile < due.length; pile++) {
            check.due("pile " + pile + " of " + text, hall.counted(0, 0, pile), due[pile]);
            check.due("would, pile " + pile + " of " + text, hall.wouldCount(0, 0, pile), due[pile]);
        }
    }

    @Sentence(promise = 0, says = "If the slip of the table is 0, it finds the truth.")
    static void slip0(Check check) {
        finds(check, WARD + "box k w 10 7 6 3 1;table 0;", 6, 3, 1);
        finds(check, WARD + "box k w 10 7 0 0 0;table 0;", 0, 0, 0);
        finds(check, WARD + "box k w 10 7 300 300 300;table 0;", 300, 300, 300);
    }

    @Sentence(promise = 0, says = "Otherwise the papers are gone through, pile by pile as they are in truth"
            + " (parties in their order, then the spoilt ones), and numbered from 1 on;")
    static void papersAreNumberedThroughAllPiles(Check check) {
        // Paper 4 is the first one of the second pile, paper 8 the last one of the third.
        finds(check, WARD + "box k w 10 7 3 3 2;table 4;", 4, 2, 2);
        finds(check, WARD + "box k w 10 7 3 3 2;table 3;", 2, 3, 3);
        finds(check, WARD + "box k w 10 7 3 3 2;table 8;", 4, 3, 1);
        finds(check, WARD + "box k w 10 7 3 3 2;table 9;", 3, 3, 2);
        finds(check, WARD + "box k w 10 7 0 0 2;table 2;", 1, 0, 1);
        finds(check, WARD + "box k w 10 7 300 300 300;table 99;", 300, 300, 300);
        finds(check, WARD + "box k w 10 7 300 298 300;table 99;", 300, 298, 300);
        finds(check, WARD + "box k w 10 7 296 300 300;table 99;", 297, 298, 301);
    }

    @Sentence(promise = 0, says = "each paper whose number is a multiple of the slip is put onto the next pile"
            + " (a spoilt one onto the pile of party 0, or, without parties, onto its own), all others onto their own piles.")
    static void theLastPileSlipsOntoTheFirst(Check check) {
        finds(check, WARD + "box k w 10 7 6 3 1;table 1;", 1, 6, 3);
        finds(check, WARD + "box k w 10 7 0 0 9;table 1;", 9, 0, 0);
        finds(check, WARD + "box k w 10 7 9 0 0;table 1;", 0, 9, 0);
        finds(check, WARD + "box k w 10 7 0 9 0;table 3;", 0, 6, 3);
        finds(check, WARD + "box k w 10 7 1 1 4;table 3;", 3, 1, 2);
        finds(check, "party a;region r;ward w r;box k w 10 7 4 6;table 1;", 6, 4);
        finds(check, "region r;ward w r;box k w 10 7 9;table 1;", 9);
        finds(check, "region r;ward w r;box k w 10 7 9;table 2;", 9);
        finds(check, "region r;ward w r;box k w 10 7 0;table 1;", 0);
    }

    @Sentence(promise = 0, says = "A box has at most 4 counts.")
    static void fourCounts(Check check) {
        CountHall hall = Check.hall(BOX);
        hall.bring(0);
        hall.open(0, 0);
        for (int counts = 1; counts <= 4; counts++) {
            check.due("count " + counts, hall.countBox(0), counts);
        }
        check.due("a fifth one", hall.countBox(0), CountHall.FULL);
        check.due("work", hall.work(), 0);
        check.due("counts", hall.boxProperty(0, 3), 4);
    }

    private static CountHall countedAtEach(String text, int... tables) {
        CountHall hall = Check.hall(text);
        hall.bring(0);
        for (int table : tables) {
            Check.count(hall, 0, table);
        }
        return hall;
    }

    @Sentence(promise = 0, says = "Two counts of a box agree if they were made at different tables and found the same"
            + " for all piles.")
    static void countsThatAgree(Check check) {
        String text = WARD + "box k w 10 7 6 3 1;table 0;table 99;table 5;table 10;";
        check.holds("different tables, the same piles", countedAtEach(text, 0, 1).isConfirmed(0));
        check.fails("the same table", countedAtEach(text, 0, 0, 0, 0).isConfirmed(0));
        check.fails("the first pile alone is the same", countedAtEach(text, 0, 2).isConfirmed(0));
        check.fails("a pile between is the same", countedAtEach(text, 0, 3).isConfirmed(0));
        String last = WARD + "box k w 10 7 6 3 4;table 0;table 3;table 2;table 2;";
        check.fails("the last pile alone is the same", countedAtEach(last, 0, 1).isConfirmed(0));
        check.holds("wrong counts that are the same", countedAtEach(last, 2, 3).isConfirmed(0));
        String five = "party a;party b;party c;party d;party e;region r;ward w r;box k w 21 7 1 2 3 4 5 6;"
                + "table 0;table 99;table 3;";
        check.holds("six piles", countedAtEach(five, 2, 0, 1).isConfirmed(0));
        check.fails("six piles, not the same", countedAtEach(five, 2, 0).isConfirmed(0));
        String none = "region r;ward w r;box k w 10 7 9;table 1;table 2;";
        check.holds("without parties", countedAtEach(none, 0, 1).isConfirmed(0));
    }

    @Sentence(promise = 0, says = "A box is confirmed if two of its counts agree.")
    static void anyTwoCounts(Check check) {
        String text = WARD + "box k w 10 7 6 3 1;table 0;table 99;table 3;table 1;";
        check.fails("no count", countedAtEach(text).isConfirmed(0));
        check.fails("one count", countedAtEach(text, 0).isConfirmed(0));
        check.holds("counts 0 and 3", countedAtEach(text, 0, 2, 3, 1).isConfirmed(0));
        check.holds("counts 1 and 3", countedAtEach(text, 2, 1, 3, 0).isConfirmed(0));
        check.holds("counts 2 and 3", countedAtEach(text, 2, 3, 1, 0).isConfirmed(0));
        check.holds("counts 0 and 2", countedAtEach(text, 1, 2, 0, 3).isConfirmed(0));
        check.holds("counts 0 and 2 and 3", countedAtEach(text, 0, 0, 1, 1).isConfirmed(0));
        check.fails("four counts that do not agree", countedAtEach(text, 0, 2, 3, 0).isConfirmed(0));
    }

    @Sentence(promise = 0, says = "Its valid count is the first one with which another one agrees, or, if it is not"
            + " confirmed, its latest count.")
    static void validCount(Check check) {
        // Tables 0 and 1 find 6 for party 0, tables 2 and 3 find 4.
        String text = WARD + "box k w 10 7 6 3 1;table 0;table 99;table 3;table 3;";
        check.due("the only count", countedAtEach(text, 2).result(0, 0), 4);
        check.due("the latest one", countedAtEach(text, 2, 0).result(0, 0), 6);
        check.due("the latest one", countedAtEach(text, 0, 2).result(0, 0), 4);
        check.due("the latest one of four", countedAtEach(text, 2, 2, 2, 0).result(0, 0), 6);
        check.due("not the latest one if it is confirmed", countedAtEach(text, 0, 1, 2).result(0, 0), 6);
        check.due("not the first count", countedAtEach(text, 2, 0, 1).result(0, 0), 6);
        check.due("the first pair found", countedAtEach(text, 0, 1, 2, 3).result(0, 0), 6);
        check.due("the first one, though its pair is the later one", countedAtEach(text, 0, 2, 3, 1).result(0, 0), 6);
        check.due("the first one of the second pair", countedAtEach(text, 0, 2, 3).result(0, 0), 4);
    }

    @Sentence(promise = 0, says = "The votes of a party in a ward are those of the valid counts of its boxes, together;"
            + " a box that was not counted has none.")
    static void votesOfCountedBoxesAlone(Check check) {
        CountHall hall = Check.hall(WARD + "ward x r;box k w 9 1 9 0 0;box l w 8 2 8 0 0;box m x 7 3 7 0 0;table 0;");
        check.due("no box is counted", hall.wardVotes(0, 0), 0);
        for (int box = 0; box < 3; box++) {
            hall.bring(box);
        }
        Check.count(hall, 1, 0);
        check.due("one of two boxes is counted", hall.wardVotes(0, 0), 8);
        Check.count(hall, 0, 0);
        check.due("both", hall.wardVotes(0, 0), 17);
        check.due("the other ward", hall.wardVotes(1, 0), 0);
    }

    @Sentence(promise = 0, says = "A box is off if it was counted and the papers that its valid count found"
            + " are more or fewer than the ballots that were issued for it, by more than TOLERANCE.")
    static void offByMoreThanTolerance(Check check) {
        int[] tolerances = {0, 1, 9};
        for (int tolerance : tolerances) {
            for (int difference = -11; difference <= 11; difference++) {
                String text = WARD + "box k w " + (20 - difference) + " 1 9 9 2;table 0;set tolerance " + tolerance + ";";
                CountHall hall = countedAt(0, text);
                boolean due = difference < -tolerance || difference > tolerance;
                check.due("off by " + difference + ", tolerance " + tolerance, Check.bit(hall.isOff(0)), Check.bit(due));
            }
        }
        check.fails("not counted", Check.hall(WARD + "box k w 999 1 9 9 2;table 0;").isOff(0));
        check.holds("counted", countedAt(0, WARD + "box k w 999 1 9 9 2;table 0;").isOff(0));
        check.fails("papers and ballots 0", countedAt(0, WARD + "box k w 0 1 0 0 0;table 0;").isOff(0));
    }

    private static boolean close(int trigger, int first, int second, int spoilt) {
        String box = "box k w 1 1 " + first + " " + second + " " + spoilt + ";";
        return countedAt(0, WARD + box + "table 0;set trigger " + trigger + ";").isClose(0);
    }

    @Sentence(promise = 0, says = "A ward is close if it has votes, and its margin times 100 is at most TRIGGER times"
            + " all votes of its parties.")
    static void closeUpToTheTrigger(Check check) {
        check.holds("2000 is 20 times 100", close(20, 60, 40, 0));
        check.fails("2000 is not 19 times 100", close(19, 60, 40, 0));
        check.fails("2100 is not 20 times 101", close(20, 61, 40, 0));
        check.holds("spoilt ones are no votes", close(20, 60, 40, 300));
        check.fails("spoilt ones are no votes", close(20, 61, 40, 300));
        check.holds("a tie, trigger 0", close(0, 1, 1, 0));
        check.fails("no tie, trigger 0", close(0, 150, 149, 0));
        check.fails("no votes", close(50, 0, 0, 9));
        check.fails("no votes, trigger 0", close(0, 0, 0, 0));
        check.holds("5000 is 50 times 100", close(50, 75, 25, 0));
        check.fails("5100 is not 50 times 101", close(50, 76, 25, 0));
        check.fails("no party", countedAt(0, "region r;ward w r;box k w 1 1 9;table 0;set trigger 50;").isClose(0));
        check.fails("not counted", Check.hall(WARD + "box k w 2 1 1 1 0;").isClose(0));
    }

    @Sentence(promise = 0, says = "A ward is ready if nothing stands against declaring it (see whyNot).")
    static void readyWard(Check check) {
        CountHall ready = countedAt(0, BOX);
        check.due("whyNot", ready.whyNot(0), 0);
        check.due("the next ward", ready.nextWard(), 0);
        ready.open(0, 0);
        check.due("whyNot", ready.whyNot(0), 3);
        check.due("no ward is next", ready.nextWard(), NOT_FOUND);
    }

    @Sentence(promise = 0, says = "Of all wards that are ready, the one is declared next that has the fewest papers"
            + " (votes and spoilt ones, by valid counts); ties are broken by lower index.")
    static void fewestPapersNext(Check check) {
        CountHall hall = countedAt(0, "party a;region r;ward u r;ward v r;ward w r;ward x r;ward y r;ward z r;"
                + "box k u 5 1 5 0;box l v 4 1 4 0;box m w 4 1 1 3;box n x 0 1 0 0;box o y 3 1 1 1;table 0;");
        check.due("ward y has fewer, but is off", hall.whyNot(4), 4);
        check.due("ward z has none, but no box either", hall.whyNot(5), 2);
        int[] due = {3, 1, 2, 0};
        for (int ward : due) {
            check.due("nextWard", hall.nextWard(), ward);
            check.due("declare", hall.declare(), ward);
        }
        check.due("declare, none is left", hall.declare(), NOT_FOUND);
        CountHall two = countedAt(0, "party a;region r;ward u r;ward v r;table 0;"
                + "box k u 3 1 3 0;box l u 3 1 3 0;box m v 5 1 5 0;");
        check.due("the papers of all boxes together", two.nextWard(), 1);
        CountHall five = countedAt(0, "party a;party b;party c;party d;party e;region r;ward u r;ward v r;"
                + "box k u 10 1 10 0 0 0 0 0;box l v 9 1 9 0 0 0 0 0;table 0;table 99;");
        Check.count(five, 1, 1);
        check.due("six piles, counted twice", five.nextWard(), 1);
        check.due("surplus, counted twice", five.surplus(1), 0);
    }

    @Sentence(promise = 0, says = "Once a ward is declared, its boxes stay where they are: they cannot be opened any more.")
    static void boxesOfADeclaredWardStay(Check check) {
        CountHall hall = countedAt(0, WARD + "ward x r;box k w 10 7 9 0 1;box l x 11 8 11 0 0;table 0;table 3;");
        check.due("declare", hall.declare(), 0);
        check.due("open", hall.open(0, 0), NOT_ALLOWED);
        check.due("open elsewhere", hall.open(0, 1), NOT_ALLOWED);
        hall.work();
        check.due("placeOf", hall.placeOf(0), HALL);
        check.due("a box of another ward", hall.open(1, 0), 5001);
        hall.seal(0);
        hall.undo();
        hall.undo();
        hall.undo();
        hall.undo();
        check.due("open when it is declared no more", hall.open(0, 0), 5000);
    }

    @Sentence(promise = 0, says = "(Settings that are changed later do not matter for it.)")
    static void laterSettingsDoNotMatter(Check check) {
        CountHall hall = countedAt(0, WARD + "box k w 19 7 6 4 0;table 0;set trigger 19;set tolerance 9;");
        check.due("declare", hall.declare(), 0);
        hall.setSetting(TRIGGER, 50);
        hall.setSetting(TOLERANCE, 0);
        check.due("whyNot", hall.whyNot(0), 1);
        check.due("toCount", hall.toCount(), 0);
        check.due("declared", hall.declared(0), 0);
        check.holds("isRegionDeclared", hall.isRegionDeclared(0));
        check.due("regionVotes", hall.regionVotes(0, 0), 6);
        check.due("regionSeats", hall.regionSeats(0, 0), 1);
    }

    private static final int CHANGES = 9;

    /** Each of the nine methods that make changes, in an order in which none of them is refused. */
    private static int change(CountHall hall, int which) {
        switch (which) {
            case 0:
                return hall.bring(0);
            case 1:
                return hall.open(0, 0);
            case 2:
                return hall.countBox(0);
            case 3:
                return hall.seal(0);
            case 4:
                return hall.tamper(0, 9);
            case 5:
                return hall.accept(0);
            case 6:
                return hall.work();
            case 7:
                return hall.declare();
            default:
                return hall.setSetting(TOLERANCE, 7);
        }
    }

    private static CountHall changed(int changes) {
        CountHall hall = Check.hall(WARD + "box k w 10 7 9 0 1;box l w 5 8 5 0 0;table 0;table 3;");
        hall.bring(1);
        Check.count(hall, 1, 0);
        for (int which = 0; which < changes; which++) {
            change(hall, which);
        }
        return hall;
    }

    @Sentence(promise = 0, says = "The methods bring, open, countBox, seal, tamper, accept, declare, work and"
            + " setSetting make changes;"
            + " each call is one change.")
    static void eachCallIsOneChange(Check check) {
        CountHall hall = Check.hall(BOX);
        for (int which = 0; which < CHANGES; which++) {
            check.holds("call " + which, change(hall, which) >= 0);
            check.due("undoCount after call " + which, hall.undoCount(), which + 1);
        }
        CountHall busy = Check.hall(WARD + "box k w 1 1 1 0 0;box l w 1 2 1 0 0;table 0;table 0;");
        busy.bring(0);
        busy.bring(1);
        check.due("work", busy.work(), 2);
        check.due("undoCount", busy.undoCount(), 3);
        busy.undo();
        check.due("counts of box 0 after one undo", busy.boxProperty(0, 3), 0);
        check.due("counts of box 1 after one undo", busy.boxProperty(1, 3), 0);
        busy.write(0);
        busy.feed(0, 0, 0, 0, 0);
        busy.load(1);
        Check.everything(busy);
        check.due("undoCount after calls that make no change", busy.undoCount(), 2);
    }

    @Sentence(promise = 0, says = "everything but the buffers and the error position (which stays that of the latest"
            + " load) is then as before it.")
    static void undoneAsBefore(Check check) {
        for (int changes = 1; changes <= CHANGES; changes++) {
            CountHall hall = changed(changes);
            check.due("undoCount", hall.undoCount(), Math.min(10, 4 + changes));
            int left = hall.undoCount() - 1;
            check.due("undo", hall.undo(), left);
            String now = Check.everything(hall);
            check.holds("as before change " + (changes - 1), now.equals(Check.everything(changed(changes - 1))));
        }
        CountHall hall = Check.hall(BOX);
        hall.setSetting(TRIGGER, 7);
        Check.load(hall, "party a;x");
        hall.write(0);
        hall.feed(0, 0, 0, 0, 0);
        hall.undo();
        check.due("errorPosition", hall.errorPosition(), 8);
        check.holds("output", Check.output(hall).equals("w a=0 b=0"));
        check.due("input", hall.feed(0, 0, 0, 0, 0), 40);
        check.due("trigger", hall.getSetting(TRIGGER), 5);
    }

    @Sentence(promise = 0, says = "A change can be undone;")
    static void countsAreUndone(Check check) {
        // Tables 0 and 1 find 6 for party 0, tables 2 and 3 find 4.
        CountHall hall = countedAtEach(WARD + "box k w 10 7 6 3 1;table 0;table 99;table 3;table 3;", 0, 2);
        hall.open(0, 1);
        hall.countBox(1);
        check.holds("confirmed", hall.isConfirmed(0));
        check.due("the valid count", hall.result(0, 0), 6);
        hall.undo();
        check.fails("confirmed, undone", hall.isConfirmed(0));
        check.due("the latest count is valid again", hall.result(0, 0), 4);
        check.due("countsLeft", hall.countsLeft(0), 1);
        for (int change = 1; change <= 4; change++) {
            hall.undo();
        }
        check.due("the first count is valid again", hall.result(0, 0), 6);
        hall.open(0, 3);
        hall.countBox(3);
        hall.seal(3);
        hall.open(0, 2);
        check.due("another second and third count", hall.countBox(2), 3);
        check.due("the new valid count", hall.result(0, 1), 4);
        check.due("the first one that is confirmed", hall.countedAt(0, 1), 3);
        hall.undo();
        check.due("countedAt", hall.countedAt(0, 2), NOT_FOUND);
        check.fails("confirmed, undone", hall.isConfirmed(0));
    }

    @Sentence(promise = 0, says = "At most the 10 latest changes are kept.")
    static void tenChangesAreKept(Check check) {
        CountHall hall = new CountHall();
        for (int change = 1; change <= 10; change++) {
            hall.setSetting(TRIGGER, 10 + change);
        }
        check.due("undoCount of 10", hall.undoCount(), 10);
        hall.setSetting(TRIGGER, 21);
        check.due("undoCount of 11", hall.undoCount(), 10);
        for (int left = 9; left >= 0; left--) {
            check.due("undo", hall.undo(), left);
            check.due("trigger", hall.getSetting(TRIGGER), 11 + left);
        }
        check.due("undo of the first one", hall.undo(), NOT_FOUND);
        check.due("trigger", hall.getSetting(TRIGGER), 11);
    }

    @Sentence(promise = 0, says = "A call that returns an error code or throws an exception changes nothing, except"
            + " where its description says otherwise.")
    static void refusedCallsChangeNothing(Check check) {
        check.refused("bring", () -> changed(2), hall -> hall.bring(0), NOT_ALLOWED);
        check.refused("open", () -> changed(2), hall -> hall.open(1, 0), NOT_ALLOWED);
        check.refused("open with a bad seal", () -> changed(5), hall -> hall.open(0, 0), CountHall.BAD_SEAL);
        check.refused("countBox", () -> changed(4), hall -> hall.countBox(0), NOT_ALLOWED);
        check.refused("seal", () -> changed(4), hall -> hall.seal(0), NOT_ALLOWED);
        check.refused("tamper", () -> changed(2), hall -> hall.tamper(0, 5), NOT_ALLOWED);
        check.refused("accept", () -> changed(4), hall -> hall.accept(0), NOT_ALLOWED);
        check.refused("declare", () -> changed(2), hall -> hall.declare(), NOT_FOUND);
        check.refused("setSetting", () -> changed(4), hall -> hall.setSetting(TRIGGER, 51), CountHall.BAD_VALUE);
        check.refused("undo", CountHall::new, hall -> hall.undo(), NOT_FOUND);
        check.refused("load", () -> changed(4), hall -> hall.load(1), CountHall.BAD_VALUE);
        CountHall hall = changed(4);
        hall.write(0);
        check.outside("write", 1, hall::write);
        check.due("undoCount after exceptions", hall.undoCount(), 8);
        check.due("the output after exceptions", hall.outputAt(0), 'w');
    }

    @Sentence(promise = 0, says = "If a change makes nothing different, it is a change all the same.")
    static void aChangeThatMakesNothingDifferent(Check check) {
        CountHall hall = Check.hall(BOX);
        check.due("tamper with the same seal", hall.tamper(0, 7), 7);
        check.due("undoCount", hall.undoCount(), 1);
        check.due("the same setting", hall.setSetting(TRIGGER, 5), 5);
        check.due("undoCount", hall.undoCount(), 2);
        check.due("work with nothing in the hall", hall.work(), 0);
        check.due("undoCount", hall.undoCount(), 3);
        check.due("undo", hall.undo(), 2);
        CountHall empty = new CountHall();
        check.due("work in an empty hall", empty.work(), 0);
        check.due("undoCount", empty.undoCount(), 1);
    }
}
