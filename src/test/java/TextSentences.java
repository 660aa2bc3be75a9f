import java.util.function.IntFunction;

/** Tests of the sentences of the text format and of promises 1 to 8 that name a boundary case. */
final class TextSentences {
    private static final int NOT_FOUND = CountHall.NOT_FOUND;
    private static final int BAD_VALUE = CountHall.BAD_VALUE;
    private static final int SYNTAX = CountHall.SYNTAX_ERROR;
    private static final int RANGE = CountHall.RANGE_ERROR;
    private static final int NAME = CountHall.NAME_ERROR;
    private static final int DUPLICATE = CountHall.DUPLICATE_ERROR;
    private static final int COUNT = CountHall.COUNT_ERROR;
    private static final String WARD = "region r;ward w r;";
    private static final String BOX = "party a;" + WARD + "box k w 9 1 8 1;table 0;set trigger 3;";
    private static final String[] RESERVED = {"party", "region", "in", "ward", "box", "table", "set"};

    /** A text whose first error stands where its part behind the mark begins. */
    private static void error(Check check, String marked, int code) {
        int position = marked.indexOf('#');
        String text = marked.substring(0, position) + marked.substring(position + 1);
        CountHall hall = new CountHall();
        check.due("load of " + text, Check.load(hall, text), code);
        check.due("errorPosition of " + text, hall.errorPosition(), position);
    }

    private static CountHall fine(Check check, String text, int statements) {
        CountHall hall = new CountHall();
        check.due("load of " + text, Check.load(hall, text), statements);
        check.due("errorPosition of " + text, hall.errorPosition(), NOT_FOUND);
        return hall;
    }

    // The text format.

    @Sentence(promise = 0, says = "Tokens are words (maximal runs of the letters a to z), integers (maximal runs of"
            + " decimal digits,"
            + " read as unsigned numbers of any length), and the character ';'.")
    static void tokensAreMaximalRuns(Check check) {
        fine(check, "table0;table1;set trigger2;", 3);
        fine(check, "party a;" + WARD + "box k w1 2 3 4;", 4);
        error(check, "#partya;", SYNTAX);
        error(check, "party a#9;", SYNTAX);
        error(check, "party #9a;", SYNTAX);
        error(check, "table 1 #1;", SYNTAX);
        error(check, "party z#_;", SYNTAX);
        error(check, "#warty a;", SYNTAX);
        error(check, "#partz a;", SYNTAX);
        check.due("a and z are letters", fine(check, "party za;", 1).named(0, 26 << 25 | 1 << 20), 0);
        check.due("0 and 9 are digits", fine(check, "table 09;", 1).slipOf(0), 9);
    }

    @Sentence(promise = 0, says = "read as unsigned numbers of any length")
    static void integersOfAnyLength(Check check) {
        String zeros = "0".repeat(300);
        check.due("leading zeros", fine(check, "table " + zeros + "99;", 1).slipOf(0), 99);
        check.due("zeros alone", fine(check, "table " + zeros + ";", 1).slipOf(0), 0);
        error(check, "table #" + zeros + "100;", RANGE);
        error(check, "table #2147483648;", RANGE);
        error(check, "table #4294967296;", RANGE);
        error(check, "table #4294967297;", RANGE);
        error(check, "table #18446744073709551616;", RANGE);
        error(check, "table #18446744073709551625;", RANGE);
        error(check, "table #1" + zeros + ";", RANGE);
        error(check, "table #" + "9".repeat(800) + ";", RANGE);
        error(check, WARD + "box k w 1 #4294967301 1;", RANGE);
    }

    @Sentence(promise = 0, says = "Spaces (32) and newlines (10) may stand between tokens, ahead of the first one and"
            + " behind the last one.")
    static void spacesAndNewlines(Check check) {
        fine(check, " \n table \n\n 1 \n ; \n ", 1);
        fine(check, "\ntable\n1\n;\n", 1);
        fine(check, " ", 0);
        fine(check, "\n", 0);
        fine(check, " ".repeat(900), 0);
        error(check, "\n  table \n #100;", RANGE);
        error(check, "party a;party\n#a;", DUPLICATE);
        check.due("a name behind a newline", fine(check, "party\na;", 1).named(0, 1 << 25), 0);
    }

    @Sentence(promise = 0, says = "Any other character is a token that is never allowed.")
    static void otherCharacters(Check check) {
        for (char sign = 0; sign < 256; sign++) {
            boolean allowed = sign == ' ' || sign == '\n';
            CountHall hall = new CountHall();
            check.due("load with sign " + (int) sign, Check.load(hall, "table 1;" + sign), allowed ? 1 : SYNTAX);
            check.due("errorPosition with sign " + (int) sign, hall.errorPosition(), allowed ? NOT_FOUND : 8);
        }
        char[] others = {0, 9, 11, 13, 31, 33, '/', ':', '<', 'A', 'Z', '`', '{', 127, 128, 160, 255};
        for (char other : others) {
            error(check, "#" + other + "table 1;", SYNTAX);
            error(check, "table#" + other + " 1;", SYNTAX);
            error(check, "table 1#" + other + ";", SYNTAX);
            error(check, "party a#" + other + ";", SYNTAX);
            error(check, "party #" + other + ";", SYNTAX);
        }
    }

    @Sentence(promise = 0, says = "text = { statement \";\" }")
    static void statementsWithSemicolons(Check check) {
        fine(check, "", 0);
        fine(check, "table 1;", 1);
        fine(check, "table 1;table 2;", 2);
        error(check, "#;", SYNTAX);
        error(check, "table 1;#;", SYNTAX);
        error(check, "table 1#", SYNTAX);
        error(check, "table 1 #table 2;", SYNTAX);
    }

    @Sentence(promise = 0, says = "statement = \"party\" name | \"region\" name [ \"in\" name ] | \"ward\" name name"
            + " | \"box\" name name issued seal papers { papers } | \"table\" slip | \"set\" setting integer")
    static void statementsOfSixSorts(Check check) {
        error(check, "#in;", SYNTAX);
        error(check, "#trigger 1;", SYNTAX);
        error(check, "#a b;", SYNTAX);
        error(check, "#parties a;", SYNTAX);
        error(check, "#part a;", SYNTAX);
        error(check, "#1;", SYNTAX);
        error(check, "party a #b;", SYNTAX);
        error(check, "region r;region s #r;", SYNTAX);
        error(check, "region r;region s in r #in r;", SYNTAX);
        error(check, "region r;region s #inn r;", SYNTAX);
        error(check, "region r;ward w #in r;", SYNTAX);
        error(check, "region r;ward w r #r;", SYNTAX);
        error(check, "table #t 1;", SYNTAX);
        error(check, "set trigger 1 #1;", SYNTAX);
        error(check, WARD + "box k #1 1 1;", SYNTAX);
    }

    @Sentence(promise = 0, says = "setting = \"trigger\" | \"tolerance\"")
    static void twoSettings(Check check) {
        fine(check, "set trigger 1;set tolerance 1;", 2);
        error(check, "set #triggers 1;", SYNTAX);
        error(check, "set #trigge 1;", SYNTAX);
        error(check, "set #toleranc 1;", SYNTAX);
        error(check, "set #tolerances 1;", SYNTAX);
        error(check, "set #party 1;", SYNTAX);
        error(check, "set #0 1;", SYNTAX);
        error(check, "set#;", SYNTAX);
    }

    @Sentence(promise = 0, says = "The second name of a region or ward is that of a region declared before,"
            + " the second name of a box that of a ward declared before.")
    static void secondNamesWereDeclaredBefore(Check check) {
        error(check, "region r in #r;", NAME);
        error(check, "region r in #s;region s;", NAME);
        error(check, "ward w #r;region r;", NAME);
        error(check, "region r;ward r r;ward w #w;", NAME);
        error(check, WARD + "box k #r 1 1 1;", NAME);
        error(check, WARD + "box w #k 1 1 1;", NAME);
        error(check, WARD + "box k #v 1 1 1;ward v r;", NAME);
        check.due("the first of two regions", fine(check, "region r;region s;region t in r;", 3).regionAround(2), 0);
        check.due("the second of two wards", fine(check, "region r;ward v r;ward w r;box k w 1 1 1;", 4).boxProperty(0, 0), 1);
    }

    @Sentence(promise = 0, says = "The papers of a box (0 to 300 each) are those of all parties declared before, in their order,"
            + " and then the spoilt ones; so there is one more of them than there are parties.")
    static void onePileMoreThanParties(Check check) {
        CountHall hall = fine(check, "party a;party b;" + WARD + "box k w 1 1 0 300 7;", 5);
        int[] due = {0, 300, 7};
        for (int pile = 0; pile < 3; pile++) {
            check.due("pile " + pile, hall.papers(0, pile), due[pile]);
        }
        error(check, "party a;party b;" + WARD + "box k w 1 1 #301 0 0;", RANGE);
        error(check, "party a;party b;" + WARD + "box k w 1 1 0 #301 0;", RANGE);
        error(check, "party a;party b;" + WARD + "box k w 1 1 0 0 #301;", RANGE);
        error(check, "party a;party b;" + WARD + "box k w 1 1 0 0#;", SYNTAX);
        error(check, "party a;party b;" + WARD + "box k w 1 1 0 0 0 #0;", SYNTAX);
        error(check, WARD + "box k w 1 1#;", SYNTAX);
        error(check, WARD + "box k w 1 1 300 #0;", SYNTAX);
        String five = "party a;party b;party c;party d;party e;" + WARD;
        fine(check, five + "box k w 1 1 0 1 2 3 4 5;", 8);
        error(check, five + "box k w 1 1 0 1 2 3 4#;", SYNTAX);
        error(check, five + "box k w 1 1 0 1 2 3 4 5 #6;", SYNTAX);
    }

    @Sentence(promise = 0, says = "Once a box is declared, no party can be declared any more.")
    static void noPartyBehindABox(Check check) {
        error(check, WARD + "box k w 1 1 1;#party a;", SYNTAX);
        error(check, "party a;" + WARD + "box k w 1 1 1 1;table 1;#party b;", SYNTAX);
        fine(check, WARD + "party a;table 1;party b;box k w 1 1 1 1 1;", 6);
        fine(check, WARD + "box k w 1 1 1;region s in r;ward x s;table 1;set trigger 1;box l x 1 1 1;", 8);
    }

    @Sentence(promise = 0, says = "A slip is 0 to 99.")
    static void rangeOfSlips(Check check) {
        check.due("the least", fine(check, "table 0;", 1).slipOf(0), 0);
        check.due("the largest", fine(check, "table 99;", 1).slipOf(0), 99);
        error(check, "table #100;", RANGE);
    }

    @Sentence(promise = 0, says = "A name is a word of 1 to 6 letters other than party, region, in, ward, box, table and set.")
    static void namesOf1To6Letters(Check check) {
        fine(check, "party a;party bbbbbb;", 2);
        error(check, "party #bbbbbbb;", SYNTAX);
        error(check, "party #" + "b".repeat(300) + ";", SYNTAX);
        error(check, "party #;", SYNTAX);
        String[] before = {"party ", "region ", "region r;region s in ", "ward ", "region r;ward w ", WARD + "box ", WARD + "box k "};
        for (String start : before) {
            for (String word : RESERVED) {
                error(check, start + "#" + word + ";", SYNTAX);
            }
            error(check, start + "#abcdefg;", SYNTAX);
            error(check, start + "#5;", SYNTAX);
        }
        fine(check, "region partys;region regio;region i;region inn;region war;", 5);
        fine(check, "party boxes;party bo;party tables;party tabl;party sets;", 5);
        fine(check, "party text;party issued;party seal;party papers;party slip;", 5);
    }

    @Sentence(promise = 0, says = "Names of different sorts may be the same.")
    static void theSameNameForDifferentSorts(Check check) {
        CountHall hall = fine(check, "party n;region n;ward n n;box n n 1 1 1 1;", 4);
        for (int what = 0; what < 4; what++) {
            check.due("named(" + what + ", n)", hall.named(what, Check.letters("n")), 0);
        }
    }

    @Sentence(promise = 0, says = "The first error in the order of the text is reported, at the position of the first"
            + " character of its token.")
    static void theFirstErrorOfTheText(Check check) {
        error(check, "table #100;party party;?", RANGE);
        error(check, "region r;region #r in q;", DUPLICATE);
        error(check, WARD + "box k #q 1000 0 301;", NAME);
        error(check, WARD + "box k w #1000 0 301;", RANGE);
        error(check, WARD + "box k w 1 #0 301;", RANGE);
        error(check, WARD + "box k w 1 1 #301 301;", RANGE);
        error(check, "table 1;table 2;table 3;table 4;#table 100", COUNT);
        error(check, "set trigger 1;set #trigger 51;", DUPLICATE);
        error(check, "party   #abcdefg;", SYNTAX);
        error(check, "#?table 100;", SYNTAX);
    }

    @Sentence(promise = 0, says = "If several errors apply to one token, the one listed first is reported.")
    static void theErrorListedFirst(Check check) {
        String five = "party a;party b;party c;party d;party e;" + WARD + "box k w 1 1 1 1 1 1 1 1;";
        error(check, five + "#party f;", SYNTAX);
        error(check, "region r in #region;", SYNTAX);
        error(check, WARD + "box k w 1 1 1 #301;", SYNTAX);
        error(check, "table 1 #100;", SYNTAX);
    }

    @Sentence(promise = 0, says = "SYNTAX_ERROR: the token is not allowed here, such as the word party behind a box,"
            + " or a semicolon behind too few papers;")
    static void tokensThatAreNotAllowed(Check check) {
        error(check, WARD + "box k w 1 1 1;#party a;", SYNTAX);
        error(check, "party a;" + WARD + "box k w 1 1 1#;", SYNTAX);
        error(check, WARD + "box k w 1#;", SYNTAX);
        error(check, WARD + "box k w#;", SYNTAX);
        error(check, WARD + "box k#;", SYNTAX);
        error(check, WARD + "box#;", SYNTAX);
        error(check, "region#;", SYNTAX);
        error(check, "region r;region s in#;", SYNTAX);
        error(check, "region r;ward#;", SYNTAX);
        error(check, "region r;ward w#;", SYNTAX);
        error(check, "table#;", SYNTAX);
        error(check, "set#;", SYNTAX);
        error(check, "set trigger#;", SYNTAX);
        error(check, "table #a;", SYNTAX);
        error(check, "set trigger #a;", SYNTAX);
        error(check, WARD + "box k w #a 1 1;", SYNTAX);
        error(check, WARD + "box k w 1 #a 1;", SYNTAX);
        error(check, WARD + "box k w 1 1 #a;", SYNTAX);
    }

    @Sentence(promise = 0, says = "if the text ends too early, the position is its length.")
    static void theTextEndsTooEarly(Check check) {
        String[] tokens = {"party", "a", ";", "region", "r", ";", "region", "s", "in", "r", ";", "ward", "w", "r", ";",
            "box", "k", "w", "1", "1", "1", "1", ";", "table", "1", ";", "set", "trigger", "1", ";"};
        StringBuilder text = new StringBuilder();
        for (String token : tokens) {
            text.append(token);
            if (!token.equals(";")) {
                error(check, text + "#", SYNTAX);
                error(check, text + " \n #", SYNTAX);
            }
            text.append(' ');
        }
        fine(check, text.toString(), 7);
        CountHall hall = new CountHall();
        Check.feed(hall, "table 1;");
        check.due("a length within the text", hall.load(7), SYNTAX);
        check.due("errorPosition", hall.errorPosition(), 7);
        Check.feed(hall, "table 12;");
        check.due("a length within an integer", hall.load(7), SYNTAX);
        check.due("errorPosition", hall.errorPosition(), 7);
        Check.feed(hall, "party ab;");
        check.due("a length within a name", hall.load(7), SYNTAX);
        check.due("errorPosition", hall.errorPosition(), 7);
        Check.feed(hall, " ".repeat(891) + "table 123");
        check.due("a full buffer", hall.load(900), RANGE);
        check.due("errorPosition", hall.errorPosition(), 897);
        Check.feed(hall, " ".repeat(893) + "table 1");
        check.due("a full buffer", hall.load(900), SYNTAX);
        check.due("errorPosition", hall.errorPosition(), 900);
    }

    @Sentence(promise = 0, says = "RANGE_ERROR: an integer is outside its range.")
    static void integersOutsideTheirRanges(Check check) {
        fine(check, WARD + "box k w 0 1 0;box l w 999 9999 300;", 4);
        error(check, WARD + "box k w #1000 1 0;", RANGE);
        error(check, WARD + "box k w 0 #0 0;", RANGE);
        error(check, WARD + "box k w 0 #10000 0;", RANGE);
        error(check, WARD + "box k w 0 1 #301;", RANGE);
        error(check, "table #100;", RANGE);
        fine(check, "set trigger 0;set tolerance 0;", 2);
        fine(check, "set trigger 50;set tolerance 9;", 2);
        error(check, "set trigger #51;", RANGE);
        error(check, "set tolerance #10;", RANGE);
    }

    @Sentence(promise = 0, says = "NAME_ERROR: a second name that is not that of a region or ward, respectively.")
    static void secondNamesThatAreNone(Check check) {
        error(check, "party q;region r in #q;", NAME);
        error(check, "party q;region r;ward w #q;", NAME);
        error(check, "party q;region r;ward w r;box k #q 1 1 1 1;", NAME);
        error(check, WARD + "box k #r 1 1 1;", NAME);
        error(check, WARD + "ward v #w;", NAME);
        error(check, "region rr;ward w #r;", NAME);
        error(check, "region r;ward w #rr;", NAME);
        error(check, "region abcdef;ward w #abcdee;", NAME);
    }

    @Sentence(promise = 0, says = "DUPLICATE_ERROR: the name of a party, region, ward or box that one of the same"
            + " sort has already;"
            + " the name of a setting that was already given.")
    static void namesThatAreTaken(Check check) {
        error(check, "party a;party b;party #a;", DUPLICATE);
        error(check, "party a;party b;party #b;", DUPLICATE);
        error(check, "region r;region s;region #r;", DUPLICATE);
        error(check, WARD + "ward #w r;", DUPLICATE);
        error(check, WARD + "box k w 1 1 1;box #k w 1 1 1;", DUPLICATE);
        error(check, "set trigger 5;set #trigger 5;", DUPLICATE);
        error(check, "set tolerance 0;set trigger 1;set #tolerance 0;", DUPLICATE);
        fine(check, "party a;party aa;party b;party ab;party ba;", 5);
    }

    @Sentence(promise = 0, says = "COUNT_ERROR: the first word of a statement that declares a sixth party, a sixth region,"
            + " a seventh ward, a 13th box or a fifth table.")
    static void oneThingTooMany(Check check) {
        String largest = HallSentences.largest();
        fine(check, largest, 32);
        error(check, largest + "#region f;", COUNT);
        error(check, largest + "#ward g a;", COUNT);
        error(check, largest + "#box m a 1 1 1 1 1 1 1 1;", COUNT);
        error(check, largest + "#table 1;", COUNT);
        error(check, HallSentences.LARGEST + "#party f;", COUNT);
        error(check, HallSentences.LARGEST + "#party a;", COUNT);
        error(check, HallSentences.LARGEST + "#region a;", COUNT);
        error(check, HallSentences.LARGEST + "#ward;", COUNT);
        error(check, HallSentences.LARGEST + "#table", COUNT);
    }

    // Promises 1 to 8.

    @Sentence(promise = 1, says = "Creates an empty hall with initial settings, empty buffers and no changes to undo.")
    static void aNewObjectIsEmpty(Check check) {
        CountHall hall = new CountHall();
        for (int what = 0; what < 5; what++) {
            check.due("count(" + what + ")", hall.count(what), 0);
        }
        check.due("trigger", hall.getSetting(CountHall.TRIGGER), 5);
        check.due("tolerance", hall.getSetting(CountHall.TOLERANCE), 0);
        check.due("output", hall.outputAt(0), NOT_FOUND);
        check.due("undoCount", hall.undoCount(), 0);
        check.due("undo", hall.undo(), NOT_FOUND);
        check.due("input", hall.load(1), BAD_VALUE);
        check.due("input", hall.feed(0, 0, 0, 0, 0), 20);
        check.due("toCount", hall.toCount(), 0);
        check.due("nextWard", hall.nextWard(), NOT_FOUND);
        check.due("declaredCount", hall.declaredCount(), 0);
        check.due("misplaced", hall.misplaced(), 0);
        check.due("worstTable", hall.worstTable(), NOT_FOUND);
    }

    @Sentence(promise = 2, says = "the four bytes of each parameter, most significant byte first.")
    static void theOrderOfTheBytes(Check check) {
        for (int at = 0; at < 20; at++) {
            for (int sign : new int[] {';', 0, 0x80, 0xff}) {
                int[] words = {0x20202020, 0x20202020, 0x20202020, 0x20202020, 0x20202020};
                int shift = 24 - at % 4 * 8;
                words[at / 4] = words[at / 4] & ~(255 << shift) | sign << shift;
                CountHall hall = new CountHall();
                hall.feed(words[0], words[1], words[2], words[3], words[4]);
                check.due("load with " + sign + " at " + at, hall.load(20), SYNTAX);
                check.due("its position", hall.errorPosition(), at);
            }
        }
    }

    @Sentence(promise = 2, says = "Returns the new number of bytes in the buffer;")
    static void bytesInTheBuffer(Check check) {
        CountHall hall = new CountHall();
        for (int bytes = 20; bytes <= 900; bytes += 20) {
            check.due("feed", hall.feed(0, 0, 0, 0, 0), bytes);
        }
    }

    @Sentence(promise = 2, says = "FULL if the buffer would hold more than 900 bytes (nothing is appended then).")
    static void theBufferIsFull(Check check) {
        CountHall hall = new CountHall();
        String text = " ".repeat(890) + "table 77; ";
        Check.feed(hall, text);
        check.due("feed", hall.feed(-1, -1, -1, -1, -1), CountHall.FULL);
        check.due("feed", hall.feed(-1, -1, -1, -1, -1), CountHall.FULL);
        check.due("load(901)", hall.load(901), BAD_VALUE);
        check.due("load(900)", hall.load(900), 1);
        check.due("slipOf", hall.slipOf(0), 77);
        check.due("feed", hall.feed(0, 0, 0, 0, 0), 20);
    }

    @Sentence(promise = 3, says = "Replaces the hall by the one described by the first length bytes of the input"
            + " buffer (see TEXT FORMAT)"
            + " and empties the buffer (what was written to the output buffer stays).")
    static void theFirstBytesReplaceTheHall(Check check) {
        CountHall hall = Check.hall(BOX);
        hall.write(0);
        Check.feed(hall, "table 1;table 2;");
        check.due("load", hall.load(8), 1);
        int[] due = {0, 0, 0, 0, 1};
        for (int what = 0; what < 5; what++) {
            check.due("count(" + what + ")", hall.count(what), due[what]);
        }
        check.due("the bytes behind are gone", hall.load(1), BAD_VALUE);
        check.due("feed", hall.feed(0, 0, 0, 0, 0), 20);
        check.holds("the output stays", Check.output(hall).equals("w a=0"));
        check.due("load(0)", hall.load(0), 0);
        check.due("load(0) empties the hall", hall.count(4), 0);
        check.due("load(0) empties the buffer", hall.feed(0, 0, 0, 0, 0), 20);
    }

    @Sentence(promise = 3, says = "Settings that the text does not give have their initial values;")
    static void settingsThatAreNotGiven(Check check) {
        CountHall hall = new CountHall();
        hall.setSetting(CountHall.TRIGGER, 9);
        Check.load(hall, "set tolerance 4;");
        check.due("trigger", hall.getSetting(CountHall.TRIGGER), 5);
        check.due("tolerance", hall.getSetting(CountHall.TOLERANCE), 4);
        Check.load(hall, "set trigger 7;");
        check.due("trigger", hall.getSetting(CountHall.TRIGGER), 7);
        check.due("tolerance", hall.getSetting(CountHall.TOLERANCE), 0);
        Check.load(hall, "");
        check.due("trigger of an empty text", hall.getSetting(CountHall.TRIGGER), 5);
        check.due("tolerance of an empty text", hall.getSetting(CountHall.TOLERANCE), 0);
        Check.load(hall, "set trigger 8;set tolerance 8;?");
        Check.load(hall, "");
        check.due("trigger behind an error", hall.getSetting(CountHall.TRIGGER), 5);
        check.due("tolerance behind an error", hall.getSetting(CountHall.TOLERANCE), 0);
    }

    @Sentence(promise = 3, says = "all boxes are AWAY, each ledger has the seal of its box, nothing is counted or declared.")
    static void aLoadedHallIsUntouched(Check check) {
        CountHall hall = HallSentences.countedAt(0, BOX);
        hall.declare();
        check.due("load", Check.load(hall, BOX), 6);
        check.same("loaded again", hall, Check.hall(BOX));
        check.due("placeOf", hall.placeOf(0), CountHall.AWAY);
        check.due("ledgerSize", hall.ledgerSize(0), 1);
        check.due("ledger", hall.ledger(0, 0), 1);
        check.due("counts", hall.boxProperty(0, 3), 0);
        check.due("declaredCount", hall.declaredCount(), 0);

        CountHall busy = HallSentences.countedAt(0, HallSentences.largest());
        busy.declare();
        Check.load(busy, BOX + "table 0;");
        busy.bring(0);
        Check.count(busy, 0, 0);
        Check.count(busy, 0, 1);
        check.holds("confirmed", busy.isConfirmed(0));
        check.due("misplaced", busy.misplaced(), 0);
        check.due("worstTable", busy.worstTable(), NOT_FOUND);
        Check.load(busy, BOX);
        check.fails("confirmed no more", busy.isConfirmed(0));
        check.due("toCount", busy.toCount(), 1);
    }

    @Sentence(promise = 3, says = "After a successful load nothing can be undone.")
    static void nothingIsUndoneBehindALoad(Check check) {
        CountHall hall = HallSentences.countedAt(0, BOX);
        check.due("load", Check.load(hall, "table 1;"), 1);
        check.due("undoCount", hall.undoCount(), 0);
        check.due("undo", hall.undo(), NOT_FOUND);
        hall.work();
        hall.load(0);
        check.due("undoCount behind an empty text", hall.undoCount(), 0);
    }

    @Sentence(promise = 3, says = "If the text has an error, nothing but the buffer changes: it is emptied all the same.")
    static void aLoadThatFails(Check check) {
        String[] texts = {"x", "party b;region r;ward v r;box q v 1 1 1 1;table 7;set trigger 9;set tolerance 8;table 100;",
            "party a;party a;", "region r in q;", HallSentences.LARGEST + "table 1;", "table 1"};
        int[] codes = {SYNTAX, RANGE, DUPLICATE, NAME, COUNT, SYNTAX};
        for (int i = 0; i < texts.length; i++) {
            CountHall hall = HallSentences.countedAt(0, BOX);
            hall.write(0);
            check.due("load of " + texts[i], Check.load(hall, texts[i]), codes[i]);
            check.due("the buffer is empty", hall.feed(0, 0, 0, 0, 0), 20);
            check.due("undoCount", hall.undoCount(), 4);
            check.holds("the output", Check.output(hall).equals("w a=8"));
            check.holds("the hall", Check.everything(hall).equals(Check.everything(HallSentences.countedAt(0, BOX))));
            check.due("undo", hall.undo(), 3);
            check.due("the box is at its table again", hall.boxAt(0), 0);
            CountHall next = new CountHall();
            Check.load(next, texts[i]);
            check.due("a good load behind it", Check.load(next, BOX), 6);
            check.same("loaded behind an error", next, Check.hall(BOX));
        }
    }

    @Sentence(promise = 3, says = "number of bytes to read, from 0 to the number of bytes in the buffer")
    static void lengthsThatAreInRange(Check check) {
        CountHall hall = new CountHall();
        check.due("load(0) of an empty buffer", hall.load(0), 0);
        Check.feed(hall, "table 12345678901;  ");
        check.due("load(20) of 20 bytes", hall.load(20), RANGE);
        Check.feed(hall, "table 1;table 2; ?? ");
        check.due("load(17) of 20 bytes", hall.load(17), 2);
        Check.feed(hall, "table 1;");
        check.due("load(0) of 20 bytes", hall.load(0), 0);
    }

    @Sentence(promise = 3, says = "Returns the number of statements;")
    static void theNumberOfStatements(Check check) {
        fine(check, "", 0);
        fine(check, "set trigger 1;", 1);
        fine(check, BOX, 6);
        fine(check, HallSentences.largest() + "set trigger 1;set tolerance 1;", 34);
    }

    @Sentence(promise = 3, says = "BAD_VALUE if length is out of range (the buffer is unchanged then);")
    static void lengthsOutOfRange(Check check) {
        CountHall hall = Check.hall(BOX);
        Check.feed(hall, "table 1;table 2;");
        for (int length : new int[] {-1, 21, Integer.MIN_VALUE, Integer.MAX_VALUE}) {
            check.due("load(" + length + ")", hall.load(length), BAD_VALUE);
        }
        check.same("BAD_VALUE", hall, Check.hall(BOX));
        check.due("feed", hall.feed(0x20202020, 0x20202020, 0x20202020, 0x20202020, 0x20202020), 40);
        check.due("load", hall.load(40), 2);
        check.due("load(1) of an empty buffer", new CountHall().load(1), BAD_VALUE);
    }

    @Sentence(promise = 3, says = "SYNTAX_ERROR, RANGE_ERROR, NAME_ERROR, DUPLICATE_ERROR or COUNT_ERROR.")
    static void theFiveErrors(Check check) {
        check.due("SYNTAX_ERROR", Check.load(new CountHall(), "?"), -11);
        check.due("RANGE_ERROR", Check.load(new CountHall(), "table 100;"), -12);
        check.due("NAME_ERROR", Check.load(new CountHall(), "ward w r;"), -13);
        check.due("DUPLICATE_ERROR", Check.load(new CountHall(), "party a;party a;"), -14);
        check.due("COUNT_ERROR", Check.load(new CountHall(), "table 1;table 1;table 1;table 1;table 1;"), -15);
    }

    @Sentence(promise = 4, says = "Returns the position of the error of the latest load that did not return BAD_VALUE.")
    static void thePositionStaysAfterBadValue(Check check) {
        CountHall hall = new CountHall();
        Check.load(hall, "party a;?");
        check.due("load(1)", hall.load(1), BAD_VALUE);
        check.due("load(-1)", hall.load(-1), BAD_VALUE);
        check.due("errorPosition", hall.errorPosition(), 8);
        Check.load(hall, "??");
        check.due("errorPosition of a later one", hall.errorPosition(), 0);
        hall.feed(0, 0, 0, 0, 0);
        hall.work();
        hall.undo();
        check.due("errorPosition after other calls", hall.errorPosition(), 0);
    }

    @Sentence(promise = 4, says = "Returns the position in bytes from the start of the text;")
    static void thePositionInBytes(Check check) {
        error(check, "#?", SYNTAX);
        error(check, "\n\n #?", SYNTAX);
        error(check, " ".repeat(899) + "#?", SYNTAX);
        error(check, "table 1;\nset trigger\n\n#51;", RANGE);
        error(check, "region r;\nregion \n #r;", DUPLICATE);
        error(check, "party #\u00ff\u00ff;", SYNTAX);
    }

    @Sentence(promise = 4, says = "NOT_FOUND if that load had no error or there was none.")
    static void noErrorPosition(Check check) {
        CountHall hall = new CountHall();
        check.due("no load", hall.errorPosition(), NOT_FOUND);
        check.due("BAD_VALUE", hall.load(1), BAD_VALUE);
        check.due("no load but one of BAD_VALUE", hall.errorPosition(), NOT_FOUND);
        Check.load(hall, "?");
        check.due("an error", hall.errorPosition(), 0);
        Check.load(hall, "table 1;");
        check.due("a load without error", hall.errorPosition(), NOT_FOUND);
        hall.load(-1);
        check.due("BAD_VALUE behind it", hall.errorPosition(), NOT_FOUND);
    }

    private static void badValues(Check check, String call, IntFunction<Integer> asked, int number) {
        for (int what : new int[] {-1, number, Integer.MIN_VALUE, Integer.MAX_VALUE}) {
            check.due(call + " of " + what, asked.apply(what), BAD_VALUE);
        }
    }

    @Sentence(promise = 5, says = "BAD_VALUE for any other what.")
    static void countsOfNothing(Check check) {
        CountHall hall = Check.hall(BOX);
        badValues(check, "count", hall::count, 5);
        badValues(check, "count of an empty hall", new CountHall()::count, 5);
        for (int what = 0; what < 5; what++) {
            check.due("count(" + what + ")", hall.count(what), 1);
        }
    }

    @Sentence(promise = 6, says = "Returns 0 to 10.")
    static void undoCounts(Check check) {
        CountHall hall = new CountHall();
        check.due("undoCount", hall.undoCount(), 0);
        hall.undo();
        check.due("undoCount after undo", hall.undoCount(), 0);
        for (int change = 1; change <= 25; change++) {
            hall.work();
            check.due("undoCount", hall.undoCount(), Math.min(change, 10));
        }
    }

    private static final String NAMES = "party a;party z;party zzzzzz;party az;party aaaaaa;";

    @Sentence(promise = 7, says = "the name as six groups of 5 bits, the first letter in the highest group; a is 1, z is 26;"
            + " unused groups at the end are 0")
    static void packedNames(Check check) {
        CountHall hall = Check.hall(NAMES);
        check.due("a", hall.named(0, 1 << 25), 0);
        check.due("z", hall.named(0, 26 << 25), 1);
        check.due("zzzzzz", hall.named(0, 26 << 25 | 26 << 20 | 26 << 15 | 26 << 10 | 26 << 5 | 26), 2);
        check.due("az", hall.named(0, 1 << 25 | 26 << 20), 3);
        check.due("aaaaaa", hall.named(0, 1 << 25 | 1 << 20 | 1 << 15 | 1 << 10 | 1 << 5 | 1), 4);
    }

    @Sentence(promise = 7, says = "NOT_FOUND if there is none with that name;")
    static void noSuchName(Check check) {
        CountHall hall = Check.hall(NAMES + "region r;ward w r;box k w 1 1 1 1 1 1 1 1;");
        int[] none = {0, 1, 26, 1 << 20, 2 << 25, 27 << 25, 1 << 30 | 1 << 25, 1 << 31 | 1 << 25, -1, Integer.MIN_VALUE,
            Integer.MAX_VALUE, 1 << 25 | 26 << 15, 1 << 25 | 26 << 20 | 1};
        for (int letters : none) {
            for (int what = 0; what < 4; what++) {
                check.due("named(" + what + ", " + letters + ")", hall.named(what, letters), NOT_FOUND);
                check.due("named(" + what + ", " + letters + ") of an empty hall", new CountHall().named(what, letters), NOT_FOUND);
            }
        }
        check.due("a party's name as a region's", hall.named(1, 1 << 25), NOT_FOUND);
        check.due("a region's name as a ward's", hall.named(2, Check.letters("r")), NOT_FOUND);
        check.due("a ward's name as a box's", hall.named(3, Check.letters("w")), NOT_FOUND);
        check.due("a box's name as a party's", hall.named(0, Check.letters("k")), NOT_FOUND);
    }

    @Sentence(promise = 7, says = "BAD_VALUE for any other what.")
    static void namesOfNoSort(Check check) {
        CountHall hall = Check.hall(BOX);
        badValues(check, "named a", what -> hall.named(what, Check.letters("a")), 4);
        badValues(check, "named 0", what -> hall.named(what, 0), 4);
    }

    @Sentence(promise = 8, says = "BAD_VALUE if setting is neither.")
    static void settingsThatAreNone(Check check) {
        CountHall hall = Check.hall("set trigger 50;set tolerance 9;");
        badValues(check, "getSetting", hall::getSetting, 2);
        check.due("TRIGGER", hall.getSetting(0), 50);
        check.due("TOLERANCE", hall.getSetting(1), 9);
    }
}
