/** Boundaries that the document names, sentence by sentence: the tape, TOKENS, a PROVINCE, EXPRS, FAULTS (promises 1 to 4). */
public final class EdgeTextTest {
    private static final Due DUE = new Due();
    private static final String TWO = "person 0;person 0;";
    private static final String THREE = "person 0;person 0;person 0;";
    private static final String EIGHT = "person 0;".repeat(8);

    public static void main(String[] args) {
        nobody();
        fullTape();
        firstBytes();
        notSoManyBytes();
        allAnew();
        anewAgainAndAgain();
        allElseStays();
        placeOfTheFault();
        everyByteAheadOfALine();
        everyByteAsAPart();
        words();
        numbers();
        blanks();
        textsOfAllLengths();
        peopleAndBold();
        thingsAndWorths();
        unknownPeople();
        outOfRow();
        secondRules();
        endsTooSoon();
        theFirstFault();
        theLeastFault();
        nestedExprs();
        nots();
        partsAndTests();
        arithmetic();
        wrapping();
        truth();
        valuesOfEachRule();
        DUE.end();
    }

    // ---- promises 1 to 4 ----

    private static void nobody() {
        DUE.sentence("NONE = -1: There is none; nobody.");
        DUE.is("NONE", HedgeWants.NONE, -1);
        DUE.sentence("Nobody, no THINGS.");
        HedgeWants x = new HedgeWants();
        DUE.is("count(0)", x.count(0), 0);
        DUE.is("count(1)", x.count(1), 0);
        DUE.is("count(13)", x.count(13), 0);
        DUE.lacks("person(0, 0)", () -> x.person(0, 0));
        DUE.lacks("thing(0, 0)", () -> x.thing(0, 0));
        DUE.is("days(1)", x.days(1), 1);
        DUE.is("province(0)", x.province(0), 0);
        DUE.is("the DAY", x.count(2), 0);
    }

    private static void fullTape() {
        DUE.sentence("how many it has; NONE, and none come, if it would have more than 700.");
        HedgeWants x = new HedgeWants();
        for (int bytes = 20; bytes <= 680; bytes += 20) {
            DUE.is("feed", x.feed(0x20202020, 0x20202020, 0x20202020, 0x20202020, 0x20202020), bytes);
        }
        DUE.is("the last twenty bytes", x.feed(0x70657273, 0x6f6e2037, 0x3b202020, 0x20202020, 0x20202020), 700);
        DUE.is("twenty more", x.feed(0x3b3b3b3b, 0x3b3b3b3b, 0x3b3b3b3b, 0x3b3b3b3b, 0x3b3b3b3b), -1);
        DUE.is("count(13)", x.count(13), 700);
        DUE.is("no STATUS", x.count(14) + x.count(15) + x.count(16), 0);
        DUE.is("province(700)", x.province(700), 0);
        DUE.is("BOLD", x.person(0, 0), 7);
        DUE.is("feed behind it", x.feed(0, 0, 0, 0, 0), 20);

        DUE.sentence("of each number the highest first");
        HedgeWants high = new HedgeWants();
        high.feed(0x80ff7f41, 0, 0, 0, 0);
        DUE.is("a byte above 127 is no token", high.province(20), 1);
        high.feed(0x2020202d, -1, 0x7fffffff, 0x80000000, 0x80ffff3b);
        DUE.is("the lowest byte is the fourth one", high.province(4), 1);
        DUE.is("its place", high.fault(), 3);
    }

    private static void firstBytes() {
        DUE.sentence("The tape's first n bytes (it is empty then) are a PROVINCE");
        HedgeWants x = new HedgeWants();
        Due.tape(x, "person 3;person 4;xx");
        DUE.is("province(9) of 20", x.province(9), 0);
        DUE.is("PEOPLE", x.count(0), 1);
        DUE.is("the tape", x.count(13), 0);
        DUE.bars("the bytes behind are gone", () -> x.province(1));
        Due.tape(x, "person 3;person 4;  ");
        DUE.is("province(20) of 20", x.province(20), 0);
        DUE.is("PEOPLE", x.count(0), 2);
        Due.tape(x, "person 3;person 4;xx");
        DUE.is("province(0) of 20", x.province(0), 0);
        DUE.is("PEOPLE", x.count(0), 0);
        DUE.is("the tape", x.count(13), 0);
        Due.tape(x, "person 3;person 4;xx");
        DUE.is("province(19) with a FAULT", x.province(19), 1);
        DUE.is("the tape", x.count(13), 0);
        DUE.is("province(0) of an empty one", x.province(0), 0);

        // A TOKEN that is cut ends there, whatever stands behind it, now or of an earlier text.
        firstBytesOf(x, "runs 12345;", 6, 1, 6);
        firstBytesOf(x, "runs day;", 6, 3, 5);
        firstBytesOf(x, "runs days;", 8, 1, 8);
        firstBytesOf(x, "persons", 6, 1, 6);
        firstBytesOf(x, "person 3;      person 4;", 12, 0, -1);
        firstBytesOf(x, "person 3;", 1, 1, 0);
    }

    private static void firstBytesOf(HedgeWants x, String text, int bytes, int code, int place) {
        Due.tape(x, text);
        DUE.is("province(" + bytes + ") of " + text, x.province(bytes), code);
        DUE.is("fault() of it", x.fault(), place);
    }

    private static void notSoManyBytes() {
        DUE.sentence("the tape has not so many, n below 0 (nothing changes).");
        HedgeWants x = Due.of(TWO + "thing 0 1 9;");
        x.spoil(0);
        x.see(0, 1, 1);
        x.image();
        Due.read(x, "person 0;x");
        Due.tape(x, "person 1;");
        int[] sizes = {-1, Integer.MIN_VALUE, 21, 701, Integer.MAX_VALUE};
        for (int n : sizes) {
            DUE.bars("province(" + n + ")", () -> x.province(n));
        }
        DUE.is("the tape", x.count(13), 20);
        DUE.is("fault()", x.fault(), 9);
        DUE.is("STATUS", x.count(14), 1);
        DUE.is("PEOPLE", x.count(0), 2);
        DUE.is("ACTS", x.count(11), 1);
        DUE.is("SEEN", x.count(12), 1);
        DUE.is("the image", x.restore(), true);
        DUE.is("province(20)", x.province(20), 0);
        DUE.bars("province(1) of an empty tape", () -> x.province(1));
    }

    private static void allAnew() {
        DUE.sentence("all anew: 0 (STATUS stays)");
        HedgeWants x = Due.of(TWO + "firm 0 1 9;hedge 0 1;runs 3;wants 0;");
        x.days(3);
        x.days(0);
        x.see(0, -1, 0);
        Due.read(x, "?");
        DUE.is("province", Due.read(x, "person 0;" + TWO + "thing 0 0 5 0;"), 0);
        DUE.is("the DAY", x.count(2), 0);
        DUE.is("RUN", x.count(10), 0);
        DUE.is("FIRM", x.thing(0, 4), 0);
        DUE.is("HEDGES", x.count(9), 3);
        DUE.is("WANTED without a rule", x.thing(0, 2), 2);
        DUE.is("RUNS without a rule", x.then(0, 1, 1), 0);
        for (int status = 14; status <= 16; status++) {
            DUE.is("count(" + status + ")", x.count(status), 1);
        }

        DUE.sentence("ACTS, what is SEEN, the image are gone.");
        x.spoil(0);
        x.see(0, 0, 1);
        x.image();
        DUE.is("province(0)", x.province(0), 0);
        DUE.is("ACTS", x.count(11), 0);
        DUE.is("undo()", x.undo(), -1);
        DUE.is("SEEN", x.count(12), 0);
        DUE.is("restore()", x.restore(), false);
    }

    /** Nothing of an earlier text is in a later one, how many there may have been. */
    private static void anewAgainAndAgain() {
        DUE.sentence("are a PROVINCE, all anew");
        HedgeWants x = new HedgeWants();
        for (int i = 0; i < 4; i++) {
            DUE.is("province", Due.read(x, THREE + "firm 2 9 9 0;firm 2 9 9 0;hedge 2 1;wants 0 - 1;runs 2;"), 0);
            DUE.is("whom 2 sees", x.person(2, 3), 2);
            DUE.is("both are FIRM", x.thing(0, 4) + x.thing(1, 4), 2);
            DUE.is("SAFE", x.count(3), 3);
            DUE.is("RUN", x.then(1, 1, 1), 1);
            x.days(2);
            DUE.is("province", Due.read(x, TWO + "thing 1 6 0;"), 0);
            DUE.is("PEOPLE", x.count(0), 2);
            DUE.is("THINGS", x.count(1), 1);
            DUE.is("not FIRM", x.thing(0, 4), 0);
            DUE.is("without a HEDGE told", x.person(0, 3), 2);
            DUE.is("without WANTS", x.thing(0, 2), 1);
            DUE.is("RUN at first", x.thing(0, 1), 0);
            x.days(3);
            DUE.is("TAKEN", x.thing(0, 0), 0);
            DUE.is("all rests without RUNS", x.thing(0, 1), 0);
            DUE.is("province", Due.read(x, "person 1;person 2;thing 0 0 6;hedge 0 1;"), 0);
            DUE.is("BOLD", x.person(1, 0), 2);
            DUE.is("TAKEN behind rest", x.then(0, 1, 0), 1);
            DUE.is("a FAULT", Due.read(x, EIGHT + "firm 7 1 1 1 1 1 1 1 1;hedge 0 1;hedge 0 2;wants 1;runs 1;?"), 1);
        }
        for (int i = 0; i < 100; i++) {
            DUE.is("province", Due.read(x, TWO + "thing 0 0 0;wants 1 - 0 * 5 * 5 * 5;runs 2 + " + i % 2 + ";"), 0);
            DUE.is("WANTED", x.thing(0, 2), 2);
            DUE.is("RUN", x.then(0, 1, 1), 2 + i % 2);
        }
    }

    private static void allElseStays() {
        DUE.sentence("or the FAULT (all else stays, but STATUS).");
        HedgeWants x = Due.of(TWO + "thing 0 9 9;hedge 0 1;wants look;runs 2;");
        x.days(2);
        x.see(0, 3, 1);
        x.image();
        DUE.is("a FAULT", Due.read(x, EIGHT + "firm 3 0 0 0 0 0 0 0 0;hedge 2 3;runs 0;wants 0;x"), 1);
        DUE.is("STATUS", x.count(14), 1);
        DUE.is("PEOPLE", x.count(0), 2);
        DUE.is("THINGS", x.count(1), 1);
        DUE.is("the DAY", x.count(2), 2);
        DUE.is("HEDGES", x.count(9), 1);
        DUE.is("ACTS", x.count(11), 1);
        DUE.is("SEEN", x.count(12), 1);
        DUE.is("not FIRM", x.thing(0, 4), 0);
        DUE.is("the OWNER", x.thing(0, 0), 0);
        DUE.is("RUN", x.thing(0, 1), 2);
        DUE.is("WANTS", x.thing(0, 2), 2);
        DUE.is("RUNS", x.then(0, 1, 1), 2);
        DUE.is("the image", x.restore(), true);
    }

    private static void placeOfTheFault() {
        DUE.sentence("The place of the latest province()'s FAULT; NONE without.");
        HedgeWants x = new HedgeWants();
        DUE.is("of a new object", x.fault(), -1);
        Due.read(x, "   x");
        DUE.is("behind a FAULT", x.fault(), 3);
        DUE.bars("province(1)", () -> x.province(1));
        DUE.is("behind an exception", x.fault(), 3);
        Due.read(x, "person 0 ");
        DUE.is("behind another one", x.fault(), 9);
        x.province(0);
        DUE.is("behind none", x.fault(), -1);
        Due.read(x, ";");
        DUE.is("at the first byte", x.fault(), 0);
    }

    // ---- TOKENS ----

    private static void everyByteAheadOfALine() {
        DUE.sentence("1 a TOKEN that can't stand there, or is none");
        for (int b = 0; b < 256; b++) {
            boolean blank = b == 32 || b == 10;
            DUE.fault((char) b + "person 1;", blank ? 0 : 1, blank ? -1 : 0);
            DUE.fault("person 1;" + (char) b, blank ? 0 : 1, blank ? -1 : 9);
        }
    }

    private static void everyByteAsAPart() {
        DUE.sentence("TOKENS: words (a .. z, the longest row), NUMBERS (1 to 4 digits), signs ; ( ) + - * / < =");
        for (int b = 0; b < 256; b++) {
            boolean letter = b >= 'a' && b <= 'z';
            boolean digit = b >= '0' && b <= '9';
            boolean behind = b == 32 || b == 10 || b == '(';
            DUE.fault("runs " + (char) b + ";", letter ? 3 : digit ? 0 : 1, digit ? -1 : behind ? 6 : 5);
        }
        // Behind a PART: what joins is read on, ';' ends, ')' and all others can't stand.
        for (int b = 0; b < 256; b++) {
            boolean joins = "+-*/<=".indexOf(b) >= 0;
            boolean passes = b == 32 || b == 10;
            DUE.fault("runs 1 " + (char) b + ";", passes ? 0 : 1, passes ? -1 : joins || b == ';' ? 8 : 7);
        }
    }

    private static void words() {
        DUE.sentence("words (a .. z, the longest row)");
        DUE.fault("persona 1;", 1, 0);
        DUE.fault("perso n 1;", 1, 0);
        DUE.fault("aperson 1;", 1, 0);
        DUE.fault("Person 1;", 1, 0);
        DUE.fault("runs az;", 3, 5);
        DUE.fault("runs za;", 3, 5);
        DUE.fault("runs `;", 1, 5);
        DUE.fault("runs {;", 1, 5);
        DUE.fault("runs dayday;", 3, 5);
        DUE.fault("runs da y;", 3, 5);
        DUE.fault("runs notday;", 3, 5);
        DUE.fault("runs not(day)or(run);", 0, -1);
        DUE.fault("runs 1or 1and 1;", 0, -1);
        DUE.fault("runs 1orday;", 1, 6);
        DUE.fault("x".repeat(700), 1, 0);
    }

    private static void numbers() {
        DUE.sentence("NUMBERS (1 to 4 digits)");
        DUE.fault("runs 0;", 0, -1);
        DUE.fault("runs 99;", 0, -1);
        DUE.fault("runs 999;", 0, -1);
        DUE.fault("runs 9999;", 0, -1);
        DUE.fault("person 0000;thing 0000 0009;", 0, -1);
        DUE.fault("runs 99 99;", 1, 8);

        DUE.sentence("a NUMBER of 5 digits or more");
        DUE.fault("runs 10000;", 2, 5);
        DUE.fault("runs 00000;", 2, 5);
        DUE.fault("runs 1 + 12345;", 2, 9);
        DUE.fault("runs (12345);", 2, 6);
        DUE.fault("person 00000;", 2, 7);
        DUE.fault("person 1;thing 00000 1;", 2, 15);
        DUE.fault("person 1;thing 0 00001;", 2, 17);
        DUE.fault(TWO + "hedge 00000 1;", 2, 24);
        DUE.fault(TWO + "hedge 0 00001;", 2, 26);
        DUE.fault("runs " + "0".repeat(695), 2, 5);
        DUE.fault("runs " + "9".repeat(695), 2, 5);
        DUE.fault("person 4294967296;", 2, 7);
        DUE.fault("12345;", 1, 0);
        DUE.fault("runs 1 00001;", 1, 7);
        DUE.fault("person 1;thing 0 1 00001;", 1, 19);
    }

    private static void blanks() {
        DUE.sentence("blanks (32, 10) between them count for nothing.");
        DUE.fault("\n\n  person\n\n1\n; \nwants(1)<look;\n", 0, -1);
        DUE.fault("person1;person2;thing1 1 2;", 0, -1);
        DUE.fault("person\t1;", 1, 6);
        DUE.fault("person\r1;", 1, 6);
        DUE.fault("person\u000b1;", 1, 6);
        DUE.fault("person\u00a01;", 1, 6);
        DUE.fault("person\u00001;", 1, 6);
        DUE.fault(" ".repeat(700), 0, -1);
        DUE.fault("\n".repeat(700), 0, -1);
    }

    private static void textsOfAllLengths() {
        DUE.sentence("A TEXT of at most 700 bytes tells it.");
        DUE.fault("", 0, -1);
        DUE.fault(" ".repeat(691) + "person 9;", 0, -1);
        DUE.fault(" ".repeat(692) + "person 9", 1, 700);
        DUE.fault("runs " + "1+".repeat(347) + ";", 1, 699);
        DUE.fault("runs 1" + "+1".repeat(346) + "; ", 0, -1);
        DUE.fault("runs 1" + "+1".repeat(347), 1, 700);
        HedgeWants sum = Due.of("person 0;thing 0 0;runs 0" + "-1".repeat(300) + "+302;");
        DUE.is("RUN by a long EXPR", sum.then(0, 1, 1), 2);
    }

    // ---- LINES and their FAULTS ----

    private static void peopleAndBold() {
        DUE.sentence("PEOPLE 0, 1 .. (at most 8): BOLD (0 to 9).");
        DUE.is("eight", Due.of(EIGHT).count(0), 8);
        for (int bold = 0; bold <= 9; bold++) {
            DUE.is("BOLD", Due.of("person " + bold + ";").person(0, 0), bold);
        }
        DUE.fault("person 10;", 2, 7);
        DUE.fault("person 0010;", 2, 7);
        DUE.fault("person 9999;", 2, 7);
        DUE.fault("person -1;", 1, 7);

        DUE.sentence("or (not in an EXPR) not as told");
        DUE.fault("person 9;thing 0 9;wants 10;runs 9999;", 0, -1);
        DUE.fault("person 9;thing 0 9;wants 10000;", 2, 25);
        DUE.fault("person 9;thing 0 10;wants 10;", 2, 17);
        DUE.fault("person 99;", 2, 7);

        DUE.sentence("the first TOKEN of the 9th PERSON");
        DUE.fault(EIGHT, 0, -1);
        DUE.fault(EIGHT + "person 0;", 2, 72);
        DUE.fault(EIGHT + "person", 2, 72);
        DUE.fault(EIGHT + "person;", 2, 72);
        DUE.fault(EIGHT + "persons 0;", 1, 72);
    }

    private static void thingsAndWorths() {
        DUE.sentence("THINGS 0, 1 .. (at most 12): an OWNER, a WORTH to each of PEOPLE (0 to 9)");
        String twelve = "person 0;" + "thing 0 1;firm 0 1;".repeat(6);
        DUE.is("twelve", Due.of(twelve).count(1), 12);
        HedgeWants all = Due.of(twelve);
        for (int thing = 0; thing < 12; thing++) {
            DUE.is("FIRM", all.thing(thing, 4), thing % 2);
        }
        for (int worth = 0; worth <= 9; worth++) {
            DUE.is("WORTH", Due.of("person 0;thing 0 " + worth + ";").look(0, 0, 0), worth);
        }
        DUE.fault("person 0;thing 0 10;", 2, 17);
        DUE.fault("person 0;firm 0 9999;", 2, 16);
        DUE.fault(TWO + "thing 0 9 10;", 2, 28);

        DUE.sentence("the 13th THING");
        DUE.fault(twelve, 0, -1);
        int length = twelve.length();
        DUE.fault(twelve + "thing 0 1;", 2, length);
        DUE.fault(twelve + "firm 0 1;", 2, length);
        DUE.fault(twelve + "firm", 2, length);
        DUE.fault(twelve + "things", 1, length);

        DUE.sentence("just as many WORTHS as PEOPLE are told ahead.");
        HedgeWants many = Due.of(EIGHT + "thing 7 1 2 3 4 5 6 7 8;");
        for (int person = 0; person < 8; person++) {
            DUE.is("WORTH to " + person, many.look(person, 0, 0), person + 1);
        }

        DUE.sentence("a WORTH too many, or ';' too soon");
        DUE.fault("person 0;thing 0 1 2;", 1, 19);
        DUE.fault("person 0;thing 0;", 1, 16);
        DUE.fault(TWO + "firm 0 1;", 1, 26);
        DUE.fault(EIGHT + "thing 7 1 2 3 4 5 6 7;", 1, 93);
        DUE.fault(EIGHT + "thing 7 1 2 3 4 5 6 7 8 9;", 1, 96);
        DUE.fault(EIGHT + "thing 7 1 2 3 4 5 6 7 8 10;", 1, 96);
        DUE.fault("person 0;thing;", 1, 14);
    }

    private static void unknownPeople() {
        DUE.sentence("a PERSON that isn't told ahead");
        DUE.fault("thing 0;", 3, 6);
        DUE.fault("hedge 0 0;", 3, 6);
        DUE.fault("person 0;thing 0 1;", 0, -1);
        DUE.fault("person 0;thing 1 1;", 3, 15);
        DUE.fault("person 0;firm 1 1;", 3, 14);
        DUE.fault(EIGHT + "firm 7 1 1 1 1 1 1 1 1;", 0, -1);
        DUE.fault(EIGHT + "firm 8 1 1 1 1 1 1 1 1;", 3, 77);
        DUE.fault("person 0;hedge 0 1;person 0;", 3, 17);
        DUE.fault("person 0;hedge 1 0;person 0;", 3, 15);
        DUE.fault(TWO + "hedge 1 0;person 0;", 0, -1);
        DUE.fault(EIGHT + "hedge 7 6;", 0, -1);
        DUE.fault(EIGHT + "hedge 8 6;", 3, 78);
        DUE.fault(EIGHT + "hedge 6 8;", 3, 80);
        DUE.fault("person 0;thing 9999 1;", 3, 15);
    }

    private static void outOfRow() {
        DUE.sentence("4 'person' behind any THING");
        DUE.fault("person 0;thing 0 1;person 0;", 4, 19);
        DUE.fault("person 0;firm 0 1;person 0;", 4, 18);
        DUE.fault("person 0;firm 0 1;person", 4, 18);
        DUE.fault("person 0;wants 1;runs 1;person 0;hedge 0 1;person 0;", 0, -1);

        DUE.sentence("the second PERSON of a 'hedge', if both are one, or it is told ahead, either way");
        DUE.fault(TWO + "hedge 1 1;", 4, 26);
        DUE.fault(TWO + "hedge 0 0", 4, 26);
        DUE.fault(TWO + "hedge 0 1;hedge 0 1;", 4, 36);
        DUE.fault(TWO + "hedge 0 1;hedge 1 0;", 4, 36);
        DUE.fault(TWO + "hedge 1 0;hedge 0 1", 4, 36);
        StringBuilder all = new StringBuilder(EIGHT);
        for (int person = 0; person < 8; person++) {
            for (int other = 0; other < person; other++) {
                all.append("hedge ").append(person).append(other > 0 ? " " : "\n").append(other).append(';');
            }
        }
        DUE.is("all 28 HEDGES", Due.of(all.toString()).count(9), 28);
    }

    private static void secondRules() {
        DUE.sentence("5 a second 'wants', 'runs'.");
        DUE.fault("wants 1;runs 1;", 0, -1);
        DUE.fault("wants 1;wants 1;", 5, 8);
        DUE.fault("runs 1;runs", 5, 7);
        DUE.fault("runs 1;wants 1;runs 12345;", 5, 15);
        HedgeWants x = Due.of("person 0;thing 0 0;runs 1;");
        Due.read(x, "person 0;thing 0 0;runs 2;");
        DUE.is("a second text is another one", x.then(0, 1, 1), 2);
    }

    private static void endsTooSoon() {
        DUE.sentence("the text's length where it ends too soon");
        String[] tokens = {"person", "0", ";", "thing", "0", "1", ";", "wants", "not", "(", "1", "<", "look", ")", "+", "2", ";"};
        StringBuilder text = new StringBuilder();
        for (String token : tokens) {
            text.append(token);
            DUE.fault(text.toString(), token.equals(";") ? 0 : 1, token.equals(";") ? -1 : text.length());
            text.append(' ');
            DUE.fault(text.toString(), token.equals(";") ? 0 : 1, token.equals(";") ? -1 : text.length());
        }
        DUE.fault("person", 1, 6);
        DUE.fault("person   \n", 1, 10);
        DUE.fault("person 0", 1, 8);
        DUE.fault("person 0;thing 0 1  ", 1, 20);
        DUE.fault("person 0;hedge 0", 1, 16);
        DUE.fault("wants", 1, 5);
        DUE.fault("wants ((((((", 1, 12);
        DUE.fault("wants (1", 1, 8);
        DUE.fault("wants not", 1, 9);
        DUE.fault("wants 1 <", 1, 9);
    }

    private static void theFirstFault() {
        DUE.sentence("FAULTS, the first along the text, at a TOKEN's first byte");
        DUE.fault("person 10;person x;?", 2, 7);
        DUE.fault("  thing   12345  ", 2, 10);
        DUE.fault("runs  foo;runs 1;", 3, 6);
        DUE.fault("runs 1;runs foo;", 5, 7);
        DUE.fault("person 0;thing 0 1;person 99;", 4, 19);
    }

    private static void theLeastFault() {
        DUE.sentence("of one TOKEN the least");
        // The 9th PERSON behind a THING: 2, not 4.
        DUE.fault(EIGHT + "thing 0 1 1 1 1 1 1 1 1;person 0;", 2, 96);
        // A PERSON of 5 digits that isn't told ahead: 2, not 3.
        DUE.fault("thing 00000;", 2, 6);
        // The second PERSON of a HEDGE of 5 digits, and told ahead: 2, not 4.
        DUE.fault(TWO + "hedge 1 00001;", 2, 26);
        // A word that is no VALUE within six EXPRS: 2, not 3.
        DUE.fault("runs ((((((look", 2, 11);
        // A PERSON that isn't told ahead stands where a WORTH too many would: 1.
        DUE.fault("person 0;thing 0 1 12345;", 1, 19);
        // Both are one, which isn't told ahead: the first one is the FAULT.
        DUE.fault(TWO + "hedge 2 2;", 3, 24);
    }

    // ---- EXPRS ----

    private static void nestedExprs() {
        DUE.sentence("of an EXPR within 6 others (a NUMBER, any word, a parenthesis)");
        DUE.fault("runs (((((1)))));", 0, -1);
        DUE.fault("runs ((((((1))))));", 2, 11);
        DUE.fault("runs (((((( 12345", 2, 12);
        DUE.fault("runs ((((((run))))));", 2, 11);
        DUE.fault("runs ((((((foo))))));", 2, 11);
        DUE.fault("runs ((((((not 1))))));", 2, 11);
        DUE.fault("runs ((((((person", 2, 11);
        DUE.fault("runs (((((((", 2, 11);
        DUE.fault("runs (((((()", 1, 11);
        DUE.fault("runs ((((((;", 1, 11);
        DUE.fault("runs ((((((+", 1, 11);
        DUE.fault("runs ((((((?", 1, 11);
        DUE.fault("runs (((((1))))) + (((((1)))));", 0, -1);
        DUE.fault("runs (((((1) + (1)))) + ((1)));", 0, -1);
        String open = "0 or 1 and 0 < 0 + 1 * (";
        gives(open.repeat(5) + "0 or 1 and 0 < 0 + 1 * 3" + ")".repeat(5), 1);
        gives(open.repeat(5) + "0 or 1 and 0 < 0 + 1 * 0" + ")".repeat(5), 0);
        gives("3 - (3 - (3 - (3 - (3 - (3 - 1)))))", 1);
        DUE.fault("runs not (not (not (not (not (not 1)))));", 0, -1);
        DUE.fault("runs not (not (not (not (not (not (1))))));", 2, 35);
    }

    private static void nots() {
        DUE.sentence("the seventh 'not' side by side");
        String six = "not not not not not not ";
        DUE.fault("runs " + six + "1;", 0, -1);
        DUE.fault("runs " + six + "not 1;", 2, 29);
        DUE.fault("runs " + six + "not", 2, 29);
        DUE.fault("runs 1 and " + six + "1 or " + six + "1;", 0, -1);
        DUE.fault("runs " + six + "(" + six + "1);", 0, -1);
        DUE.fault("runs " + six + "(" + six + "not 1);", 2, 30 + 24);
        DUE.fault("runs 1 or " + six + "not not;", 2, 34);
        gives(six + "3", 1);
        gives("not not not not not 3", 0);
    }

    private static void partsAndTests() {
        DUE.sentence("3 any word where a PART must stand that is no VALUE of this EXPR");
        String[] others = {"look", "bold", "own", "theirs", "and", "or", "person", "thing", "firm", "hedge", "wants", "runs", "a", "wan", "wante", "wanteds"};
        for (String word : others) {
            DUE.fault("runs " + word + ";", 3, 5);
            DUE.fault("runs 1 + " + word + ";", 3, 9);
        }
        DUE.fault("wants worth;", 3, 6);
        DUE.fault("wants wanted;", 3, 6);
        DUE.fault("runs 1 + not 1;", 3, 9);
        DUE.fault("runs 1 = not 1;", 3, 9);
        DUE.fault("runs not and;", 3, 9);
        DUE.fault("runs 1 and or 1;", 3, 11);
        DUE.fault("runs 1 day;", 1, 7);
        DUE.fault("runs 1 not 1;", 1, 7);

        DUE.sentence("NOT: 'not' NOT | SUM [('<' | '=') SUM].");
        DUE.fault("runs 1 < 2 < 3;", 1, 11);
        DUE.fault("runs 1 = 2 = 3;", 1, 11);
        DUE.fault("runs 1 < 2 = 3;", 1, 11);
        DUE.fault("runs (1 < 2) = (2 < 3);", 0, -1);
        DUE.fault("runs 1 < 2 and 1 = 2;", 0, -1);
        DUE.fault("runs 1 < = 2;", 1, 9);
        gives("not 1 = 2", 1);
        gives("not 0 + 1", 0);

        DUE.sentence("PART: NUMBER | VALUE | '(' EXPR ')'.");
        DUE.fault("runs ();", 1, 6);
        DUE.fault("runs (1;", 1, 7);
        DUE.fault("runs 1);", 1, 6);
        DUE.fault("runs -1;", 1, 5);
        DUE.fault("runs 1 - -1;", 1, 9);
        DUE.fault("runs 1 * ;", 1, 9);
        DUE.fault("runs;", 1, 4);
        DUE.fault("runs (1 or 1) 1;", 1, 14);
    }

    /** What an EXPR gives, seen by how much a THING is RUN down in a DAY (0 to 3). */
    private static void gives(String expr, int value) {
        DUE.is("runs " + expr, Due.of(TWO + "thing 0 4 0;runs " + expr + ";").then(0, 1, 1), value);
    }

    private static void arithmetic() {
        DUE.sentence("From the left; ints that wrap, / cut down to 0, by 0 gives 0");
        gives("9 - 4 - 3", 2);
        gives("9 - 4 + 3 - 6", 2);
        gives("9 / 2 * 2 - 6", 2);
        gives("2 * 9 / 8", 2);
        gives("8 / 2 / 2", 2);
        gives("7 / 4", 1);
        gives("8 / 4", 2);
        gives("3 / 4", 0);
        gives("(0 - 7) / 4 + 2", 1);
        gives("7 / (0 - 4) + 2", 1);
        gives("(0 - 7) / (0 - 4)", 1);
        gives("(0 - 1) / 2 + 1", 1);
        gives("5 / 0 + 1", 1);
        gives("0 / 0 + 1", 1);
        gives("(0 - 5) / 0 + 1", 1);
        gives("5 / (1 - 1) * 9 + 2", 2);
        gives("1 + 2 * 3 - 6", 1);
        gives("(1 + 2) * 3 - 6", 3);
    }

    private static void wrapping() {
        DUE.sentence("ints that wrap");
        gives("9999 * 9999 * 21 < 0", 0);
        gives("9999 * 9999 * 22 < 0", 1);
        gives("8192 * 8192 * 32 < 0", 1);
        gives("8192 * 8192 * 64 = 0", 1);
        gives("0 < 8192 * 8192 * 32 - 1", 1);
        gives("8192 * 8192 * 32 - 1 + 1 < 0", 1);
        gives("8192 * 8192 * 32 - 1 - 9999 * 9999 * 21 = 4790 * 9999 + 8416", 1);
        gives("8192 * 8192 * 32 + 8192 * 8192 * 32 = 0", 1);
        gives("0 - 8192 * 8192 * 32 = 8192 * 8192 * 32", 1);
        gives("8192 * 8192 * 32 / (0 - 1) = 8192 * 8192 * 32", 1);
        gives("8192 * 8192 * 32 * (0 - 1) = 8192 * 8192 * 32", 1);
        // What wraps to 1 above a multiple of 2 to the power of 32 gives 1.
        gives("8192 * 8192 * 64 + 1", 1);
        gives("8192 * 8192 * 32 * 3", 0);
    }

    private static void truth() {
        DUE.sentence("tests, not, and, or are 1 or 0 (what isn't 0 holds).");
        gives("1 < 2", 1);
        gives("2 < 2", 0);
        gives("3 < 2", 0);
        gives("2 = 2", 1);
        gives("2 = 3", 0);
        gives("0 - 1 < 0", 1);
        gives("not 0", 1);
        gives("not 3", 0);
        gives("not (0 - 3)", 0);
        gives("3 and 2", 1);
        gives("0 and 2", 0);
        gives("3 and 0", 0);
        gives("0 and 0", 0);
        gives("(0 - 1) and (0 - 2)", 1);
        gives("3 or 2", 1);
        gives("0 or 2", 1);
        gives("3 or 0", 1);
        gives("0 or 0", 0);
        gives("0 or (0 - 9)", 1);
        gives("(2 < 3) + (3 = 3) + (1 or 0)", 3);
        gives("1 or 1 and 0", 1);
        gives("0 and 0 or 1", 1);
        gives("1 and 2 = 1", 0);
    }

    private static void valuesOfEachRule() {
        DUE.sentence("VALUES of both: 'run' (of the THING), 'day'");
        DUE.fault("runs run + day;wants run + day;", 0, -1);
        HedgeWants x = Due.of(TWO + "thing 0 9 9;runs 1;wants run = 2 or day = 7;");
        DUE.is("RUN 0", x.thing(0, 2), 0);
        DUE.is("RUN 2", x.then(0, 2, 2), 1);
        DUE.is("RUN 3", x.kept(0), 3);

        DUE.sentence("'look', 'bold', 'own' (how many THINGS one has), 'theirs' (how many its OWNER has)");
        String all = "person 9;person 0;" + "thing 0 0 9;".repeat(12) + "wants ";
        DUE.is("look", Due.of(all + "look = 9;").thing(11, 2), 2);
        DUE.is("bold", Due.of(all + "bold = 0;").thing(0, 2), 2);
        DUE.is("own none", Due.of(all + "own = 0;").thing(0, 2), 2);
        DUE.is("theirs all", Due.of(all + "theirs = 12;").thing(0, 2), 2);
        DUE.is("not one's own of the OWNER", Due.of(all + "own = 12;").thing(0, 2), 0);

        DUE.sentence("of RUNS, for a THING: 'worth' (to its OWNER), 'wanted' (how many WANT it).");
        String shared = EIGHT + "thing 7 1 1 1 1 1 1 1 3;";
        DUE.is("worth", Due.of(shared + "wants 0;runs worth;").then(0, 1, 1), 3);
        DUE.is("wanted by none", Due.of(shared + "wants 0;runs wanted + 1;").then(0, 1, 1), 1);
        DUE.is("wanted by seven", Due.of(shared + "wants 1;runs wanted = 7;").then(0, 1, 1), 1);
        DUE.is("whose it is then", Due.of(shared + "wants 1;runs worth;").then(0, 1, 1), 1);
    }
}
