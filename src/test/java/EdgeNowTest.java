/** Boundaries that the document names, sentence by sentence: what is so now, sharing, HEDGES (promises 5 to 8 and 24 to 27). */
public final class EdgeNowTest {
    private static final Due DUE = new Due();
    private static final String TWO = "person 0;person 0;";
    private static final String THREE = "person 0;person 0;person 0;";
    private static final String FIVE = "person 0;".repeat(5);
    private static final String EIGHT = "person 0;".repeat(8);

    public static void main(String[] args) {
        anotherWhat();
        noSuchPerson();
        noSuchThing();
        countsOfNobody();
        countsOfAll();
        safeThings();
        ofAPerson();
        whoWouldTake();
        looksToTheOwner();
        envy();
        swaps();
        firstSwaps();
        toSpoil();
        asManyAsCanBe();
        firstRow();
        noneBehindAll();
        noSwap();
        howFar();
        parts();
        lookAway();
        noWayAnyway();
        DUE.end();
    }

    // ---- promises 5 to 8 ----

    private static void anotherWhat() {
        HedgeWants x = Due.of(TWO + "thing 0 1 1;");
        int[] others = {-1, Integer.MIN_VALUE, Integer.MAX_VALUE, 17, 18};
        DUE.sentence("14 to 16 STATUS 0 to 2. NoSuchElementException: another what.");
        DUE.is("count(0)", x.count(0), 2);
        DUE.is("count(16)", x.count(16), 0);
        for (int what : others) {
            DUE.lacks("count(" + what + ")", () -> x.count(what));
        }
        DUE.sentence("4 what one WANTS (bits). NoSuchElementException: no such PERSON (as everywhere), what.");
        DUE.is("person(0, 0)", x.person(0, 0), 0);
        DUE.is("person(0, 4)", x.person(0, 4), 0);
        DUE.lacks("person(0, 5)", () -> x.person(0, 5));
        DUE.sentence("5 TO SPOIL (NONE). NoSuchElementException: no such THING (as everywhere), what.");
        DUE.is("thing(0, 0)", x.thing(0, 0), 0);
        DUE.is("thing(0, 5)", x.thing(0, 5), 0);
        DUE.lacks("thing(0, 6)", () -> x.thing(0, 6));
        DUE.sentence("LOOK (1; to its OWNER: WORTH). NoSuchElementException: also another what.");
        DUE.is("look(0, 0, 0)", x.look(0, 0, 0), 1);
        DUE.is("look(0, 0, 1)", x.look(0, 0, 1), 1);
        DUE.lacks("look(0, 0, 2)", () -> x.look(0, 0, 2));
        for (int what : others) {
            DUE.lacks("person(0, " + what + ")", () -> x.person(0, what));
            DUE.lacks("thing(0, " + what + ")", () -> x.thing(0, what));
            DUE.lacks("look(0, 0, " + what + ")", () -> x.look(0, 0, what));
        }
    }

    private static void noSuchPerson() {
        DUE.sentence("no such PERSON (as everywhere)");
        HedgeWants x = Due.of(TWO + "thing 0 1 1;");
        int[] strangers = {-1, 2, 8, Integer.MIN_VALUE, Integer.MAX_VALUE};
        for (int p : strangers) {
            DUE.lacks("person(" + p + ", 0)", () -> x.person(p, 0));
            DUE.lacks("look(" + p + ", 0, 0)", () -> x.look(p, 0, 0));
            DUE.lacks("envies(" + p + ", 0)", () -> x.envies(p, 0));
            DUE.lacks("envies(0, " + p + ")", () -> x.envies(0, p));
            DUE.lacks("far(" + p + ", 0)", () -> x.far(p, 0));
            DUE.lacks("far(0, " + p + ")", () -> x.far(0, p));
            DUE.lacks("away(" + p + ", 0)", () -> x.away(p, 0));
            DUE.lacks("away(0, " + p + ")", () -> x.away(0, p));
            DUE.lacks("far(" + p + ", " + p + ")", () -> x.far(p, p));
            DUE.lacks("away(" + p + ", " + p + ")", () -> x.away(p, p));
        }
        DUE.sentence("which THING (NONE: none). NoSuchElementException: no such PERSON.");
        DUE.is("each(-1)", x.each(-1), 1);
        DUE.lacks("each(-2)", () -> x.each(-2));
        DUE.lacks("each(2)", () -> x.each(2));
        DUE.lacks("each(most)", () -> x.each(Integer.MAX_VALUE));
        DUE.lacks("each(0) of nobody", () -> new HedgeWants().each(0));
    }

    private static void noSuchThing() {
        DUE.sentence("no such THING (as everywhere)");
        HedgeWants x = Due.of(TWO + "thing 0 1 1;");
        int[] others = {-1, 1, 12, Integer.MIN_VALUE, Integer.MAX_VALUE};
        for (int t : others) {
            DUE.lacks("thing(" + t + ", 0)", () -> x.thing(t, 0));
            DUE.lacks("look(0, " + t + ", 0)", () -> x.look(0, t, 0));
        }
    }

    private static void countsOfNobody() {
        DUE.sentence("0 PEOPLE, 1 THINGS, 2 the DAY, 3 SAFE THINGS (bits), 4 couples of ENVY, 5 SWAPS, 6 the first of them (NONE), 7 NO SWAP (1), 8 PARTS, 9 HEDGES");
        HedgeWants x = new HedgeWants();
        for (int what = 0; what <= 16; what++) {
            DUE.is("count(" + what + ") of nobody", x.count(what), what == 6 ? -1 : what == 7 ? 1 : 0);
        }
        HedgeWants one = Due.of("person 0;");
        for (int what = 0; what <= 16; what++) {
            DUE.is("count(" + what + ") of one", one.count(what), what == 6 ? -1 : what == 0 || what == 7 || what == 8 ? 1 : 0);
        }
    }

    private static void countsOfAll() {
        DUE.sentence("10 how RUN down all are, together, 11 ACTS that are kept, 12 SEEN, 13 bytes of the tape");
        HedgeWants x = Due.of("person 0;" + "thing 0 0;".repeat(12) + "runs 3;");
        x.days(20);
        DUE.is("all RUN 9", x.count(10), 108);
        DUE.is("all SAFE", x.count(3), 4095);
        for (int i = 0; i < 8; i++) {
            x.see(0, 0, 0);
        }
        DUE.is("SEEN", x.count(12), 8);
        for (int i = 0; i < 35; i++) {
            x.feed(0, 0, 0, 0, 0);
        }
        DUE.is("the tape", x.count(13), 700);
        HedgeWants envy = Due.of(EIGHT + "thing 0 0 1 1 1 1 1 1 1;thing 1 1 0 1 1 1 1 1 1;");
        DUE.is("couples of ENVY", envy.count(4), 14);
    }

    private static void safeThings() {
        DUE.sentence("SAFE THINGS: those that nobody WANTS (bits).");
        HedgeWants x = Due.of(TWO + "thing 0 9 4;thing 0 9 5;thing 1 5 9;thing 1 4 9;" + "thing 0 0 0;".repeat(8));
        DUE.is("SAFE", x.count(3), 4095 - 6);
        DUE.is("none SAFE", Due.of(TWO + "thing 0 9 5;").count(3), 0);
        DUE.is("SAFE of one", Due.of("person 0;thing 0 9;").count(3), 1);

        DUE.sentence("WANTED: who WANTS a THING (bits)");
        DUE.is("seven", Due.of(EIGHT + "thing 3 9 9 9 9 9 9 9 9;").thing(0, 2), 255 - 8);
        DUE.is("nobody", x.thing(0, 2), 0);
        DUE.is("all twelve", Due.of(TWO + "thing 0 9 9;".repeat(12)).person(1, 4), 4095);
    }

    private static void ofAPerson() {
        DUE.sentence("Of a PERSON: 0 BOLD, 1 THINGS that one has (bits), 2 their WORTH to one, 3 whom one sees (bits)");
        HedgeWants x = Due.of("person 0;person 9;" + "thing 1 1 9;".repeat(12));
        DUE.is("BOLD 0", x.person(0, 0), 0);
        DUE.is("BOLD 9", x.person(1, 0), 9);
        DUE.is("no THINGS", x.person(0, 1), 0);
        DUE.is("all THINGS", x.person(1, 1), 4095);
        DUE.is("no WORTH", x.person(0, 2), 0);
        DUE.is("most WORTH", x.person(1, 2), 108);
        DUE.is("the last THING alone", Due.of(TWO + "thing 0 0 0;".repeat(11) + "thing 1 0 4;").person(1, 1), 2048);
        for (int i = 0; i < 9; i++) {
            x.spoil(0);
        }
        DUE.is("their WORTH, RUN or not", x.person(1, 2), 108);
        DUE.is("whom one sees", x.person(0, 3), 2);
        DUE.is("who sees nobody", Due.of("person 0;").person(0, 3), 0);
        DUE.is("who sees all others", Due.of(EIGHT).person(7, 3), 127);
    }

    private static void whoWouldTake() {
        DUE.sentence("who would TAKE it (none).");
        DUE.is("nobody", Due.of(TWO + "thing 0 9 4;").thing(0, 3), -1);
        DUE.is("the last one", Due.of(EIGHT + "thing 0 9 5 5 5 5 5 5 6;").thing(0, 3), 7);
        DUE.is("of like ones the least", Due.of(EIGHT + "thing 1 9 9 9 9 9 9 9 9;").thing(0, 3), 0);
        DUE.is("with LOOK 0", Due.of(TWO + "thing 0 0 0;wants 1;").thing(0, 3), 1);
    }

    private static void looksToTheOwner() {
        DUE.sentence("to its OWNER: WORTH");
        HedgeWants x = Due.of(TWO + "thing 0 7 7;");
        x.spoil(0);
        x.spoil(0);
        DUE.is("to the OWNER", x.look(0, 0, 1), 7);
        DUE.is("to another one", x.look(1, 0, 1), 5);
        DUE.is("WORTH", x.look(1, 0, 0), 7);
    }

    // ---- ENVY and SWAPS ----

    private static void envy() {
        DUE.sentence("ENVY: PEOPLE to whom THINGS of a told other one, as they LOOK, are worth more, all together, than their own, by WORTH");
        HedgeWants x = Due.of(TWO + "thing 0 5 3;thing 1 3 3;thing 1 2 1;");
        DUE.is("5 over 5", x.envies(0, 1), false);
        x.taste(0, 2, 3);
        DUE.is("6 over 5", x.envies(0, 1), true);
        DUE.is("3 over 4", x.envies(1, 0), false);
        x.spoil(1);
        DUE.is("5 over 5, RUN 1", x.envies(0, 1), false);
        x.spoil(0);
        DUE.is("one's own, RUN 1, by WORTH", x.envies(0, 1), false);
        x.taste(0, 0, 4);
        DUE.is("5 over 4", x.envies(0, 1), true);
        HedgeWants bare = Due.of(THREE + "thing 0 9 0 1;");
        DUE.is("0 over nothing", bare.envies(1, 0), false);
        DUE.is("1 over nothing", bare.envies(2, 0), true);
        DUE.is("nothing over nothing", bare.envies(1, 2), false);
        DUE.is("nothing over 9", bare.envies(0, 1), false);
        DUE.is("not oneself", bare.envies(0, 0), false);
        DUE.is("not oneself who has nothing", bare.envies(2, 2), false);

        DUE.sentence("be there a HEDGE or not (one of PEOPLE to another one: whether; how many couples of one and another one there are).");
        HedgeWants far = Due.of(THREE + "hedge 0 1;thing 0 0 0 1;thing 2 1 0 0;");
        DUE.is("without a HEDGE", far.envies(2, 0), true);
        DUE.is("without a HEDGE, back", far.envies(0, 2), true);
        DUE.is("each couple either way", far.count(4), 2);
        DUE.is("who sees none", Due.of("person 0;").envies(0, 0), false);
    }

    private static void swaps() {
        DUE.sentence("(to each the LOOK of the other's THING is more than WORTH of one's own)");
        HedgeWants x = Due.of(TWO + "thing 0 5 6;thing 1 6 5;");
        DUE.is("both gain", x.count(5), 1);
        x.taste(0, 1, 5);
        DUE.is("the first one doesn't", x.count(5), 0);
        x.taste(0, 1, 6);
        x.taste(1, 0, 5);
        DUE.is("the other one doesn't", x.count(5), 0);
        x.taste(1, 0, 7);
        x.spoil(0);
        DUE.is("7 less 1", x.count(5), 1);
        x.spoil(0);
        DUE.is("7 less 2", x.count(5), 0);
        x.mend(0);
        x.spoil(1);
        DUE.is("6 less 1", x.count(5), 0);

        DUE.sentence("SWAPS: how many couples of THINGS of two OWNERS, be there a HEDGE or not, there are by whose swap both gain");
        DUE.is("all", Due.of(TWO + "thing 0 0 9;".repeat(6) + "thing 1 9 0;".repeat(6)).count(5), 36);
        DUE.is("of one OWNER", Due.of(TWO + "thing 0 0 9;thing 0 9 0;").count(5), 0);
        DUE.is("without a HEDGE", Due.of(THREE + "hedge 0 1;thing 0 0 0 9;thing 2 9 0 0;").count(5), 1);
    }

    private static void firstSwaps() {
        DUE.sentence("the first (100 by the lesser and the other THING; none).");
        DUE.is("none", Due.of(TWO + "thing 0 9 0;thing 1 0 9;").count(6), -1);
        DUE.is("0 and 1", Due.of(TWO + "thing 0 0 9;thing 1 9 0;").count(6), 1);
        DUE.is("10 and 11", Due.of(TWO + "thing 0 9 0;".repeat(10) + "thing 1 9 0;thing 0 0 9;").count(6), 1011);
        DUE.is("0 and 11", Due.of(TWO + "thing 0 0 9;".repeat(11) + "thing 1 9 0;").count(6), 11);
        DUE.is("1 and 2 behind 0 and 3", Due.of(TWO + "thing 0 1 9;thing 0 0 9;thing 1 1 0;thing 1 9 0;").count(6), 3);
    }

    private static void toSpoil() {
        DUE.sentence("(9 in all at most) so that nobody WANTS it: the least by which nobody does; none.");
        DUE.is("nobody does", Due.of(TWO + "thing 0 0 4;").thing(0, 5), 0);
        DUE.is("one more", Due.of(TWO + "thing 0 0 5;").thing(0, 5), 1);
        DUE.is("by two who WANT it", Due.of(THREE + "thing 0 0 6 9;").thing(0, 5), 5);
        DUE.is("just 9", Due.of(TWO + "thing 0 0 9;wants run < 9;").thing(0, 5), 9);
        DUE.is("none", Due.of(TWO + "thing 0 0 9;wants run < 10;").thing(0, 5), -1);
        DUE.is("the least, not the first where few do", Due.of(TWO + "thing 0 0 9;wants run < 2 or run = 3;").thing(0, 5), 2);
        HedgeWants x = Due.of(TWO + "thing 0 0 9;wants run < 9;");
        for (int i = 0; i < 8; i++) {
            x.spoil(0);
        }
        DUE.is("from 8", x.thing(0, 5), 1);
        x.spoil(0);
        DUE.is("from 9", x.thing(0, 5), 0);
        HedgeWants y = Due.of(TWO + "thing 0 0 9;wants not run = 4;");
        DUE.is("up to 4", y.thing(0, 5), 4);
        for (int i = 0; i < 5; i++) {
            y.spoil(0);
        }
        DUE.is("not back from 5", y.thing(0, 5), -1);
        DUE.is("RUN stays", y.thing(0, 1), 5);
    }

    // ---- promise 25 ----

    private static void asManyAsCanBe() {
        DUE.sentence("each of PEOPLE is given one THING, no two one, as many as can be (be its WORTH 0), whoever has it");
        share("", 0);
        share(TWO, 0, -1, -1);
        share(EIGHT, 0, -1, -1, -1, -1, -1, -1, -1, -1);
        share("person 0;thing 0 0;", 0, 0);
        share(TWO + "thing 0 9 0;thing 0 9 0;", 9, 0, 1);
        share(TWO + "thing 0 9 9;", 9, 0, -1);
        share(THREE + "thing 0 0 0 0;thing 2 0 0 0;", 0, 0, 1, -1);
        share("person 0;" + "thing 0 0;".repeat(11) + "thing 0 1;", 1, 11);
        share(EIGHT + ("thing 0" + " 9".repeat(8) + ";").repeat(12), 72, 0, 1, 2, 3, 4, 5, 6, 7);
        share(EIGHT + ("thing 0" + " 0".repeat(8) + ";").repeat(8), 0, 0, 1, 2, 3, 4, 5, 6, 7);
        // All but one for two of them: none may go without, though nothing else is worth a thing.
        share(TWO + "thing 0 5 5;thing 0 0 0;", 5, 0, 1);
        HedgeWants run = Due.of("person 0;thing 0 9;");
        for (int i = 0; i < 9; i++) {
            run.spoil(0);
        }
        DUE.is("by WORTH, not by LOOK", run.each(-1), 9);
        run.taste(0, 0, 2);
        DUE.is("less than it was", run.each(-1), 2);
    }

    private static void share(String text, int worth, int... row) {
        HedgeWants x = Due.of(text);
        DUE.is("each(-1) of " + text, x.each(-1), worth);
        for (int person = 0; person < row.length; person++) {
            DUE.is("each(" + person + ") of " + text, x.each(person), row[person]);
        }
    }

    private static void firstRow() {
        DUE.sentence("of like ones the first row (by PEOPLE: which; none behind all).");
        share(TWO + "thing 1 3 3;thing 0 3 3;", 6, 0, 1);
        share(TWO + "thing 0 1 2;thing 0 2 3;", 4, 0, 1);
        share(TWO + "thing 0 3 3;thing 0 3 3;thing 0 3 3;", 6, 0, 1);
        share(THREE + "thing 0 1 2 2;thing 0 2 1 2;thing 0 2 2 1;", 6, 1, 2, 0);
    }

    private static void noneBehindAll() {
        DUE.sentence("none behind all");
        share(THREE + "thing 0 4 4 4;", 4, 0, -1, -1);
        share(THREE + "thing 0 4 4 5;", 5, -1, -1, 0);
        share(THREE + "thing 0 4 4 4;thing 0 4 4 4;", 8, 0, 1, -1);
        String last = EIGHT + "thing 0 1 1 1 1 1 1 1 2;" + "thing 0 1 1 1 1 1 1 1 1;".repeat(2);
        share(last, 4, 1, 2, -1, -1, -1, -1, -1, 0);
    }

    // ---- NO SWAP ----

    private static void noSwap() {
        DUE.sentence("NO SWAP: whether nobody would swap all one has for all that another one who sees one has (ENVY of none who see one another) (1).");
        HedgeWants x = Due.of(TWO + "thing 0 5 5;thing 1 5 5;");
        DUE.is("as well off", x.count(7), 1);
        x.taste(0, 1, 6);
        DUE.is("0 would", x.count(7), 0);
        x.hedge(0, 1, false);
        DUE.is("without a HEDGE", x.count(7), 1);
        x.undo();
        x.undo();
        x.taste(1, 0, 6);
        DUE.is("1 would", x.count(7), 0);
        DUE.is("nobody", new HedgeWants().count(7), 1);
        DUE.is("the last couple would", Due.of(EIGHT + "hedge 6 7;thing 6 0 0 0 0 0 0 0 1;").count(7), 0);
        DUE.is("all but those who see one another", Due.of(EIGHT + "hedge 6 7;thing 5 1 1 1 1 1 1 1 1;").count(7), 1);
    }

    // ---- promises 26 and 27 ----

    private static String row(int people) {
        StringBuilder s = new StringBuilder("person 0;".repeat(people));
        for (int person = 1; person < people; person++) {
            s.append("hedge ").append(person - 1).append(' ').append(person).append(';');
        }
        return s.toString();
    }

    private static void howFar() {
        DUE.sentence("HOW FAR it is from one to another one over HEDGES (0 to oneself); none.");
        HedgeWants x = Due.of(row(8));
        for (int person = 0; person < 8; person++) {
            for (int other = 0; other < 8; other++) {
                DUE.is("far(" + person + ", " + other + ")", x.far(person, other), Math.abs(person - other));
            }
        }
        x.hedge(0, 7, true);
        DUE.is("the shorter way", x.far(0, 5), 3);
        x.hedge(3, 4, false);
        DUE.is("the other way round", x.far(3, 4), 7);
        x.hedge(0, 1, false);
        DUE.is("no way", x.far(1, 0), -1);
        DUE.is("no way back", x.far(0, 1), -1);
        DUE.is("one alone, to oneself", Due.of("person 0;").far(0, 0), 0);
    }

    private static void parts() {
        DUE.sentence("PARTS: how many there are of PEOPLE who hang together so.");
        DUE.is("nobody", new HedgeWants().count(8), 0);
        DUE.is("one", Due.of("person 0;").count(8), 1);
        DUE.is("eight in a row", Due.of(row(8)).count(8), 1);
        DUE.is("three couples and two", Due.of(EIGHT + "hedge 0 7;hedge 1 6;hedge 2 5;").count(8), 5);
        HedgeWants x = Due.of(TWO);
        x.hedge(0, 1, false);
        DUE.is("each alone", x.count(8), 2);
    }

    private static void lookAway() {
        DUE.sentence("the fewest PEOPLE (neither of both) who must look away, so that there is no way over HEDGES from one to another one: of as few the least as bits; none (side by side, or both are one).");
        HedgeWants x = Due.of(row(8));
        DUE.is("side by side", x.away(3, 4), -1);
        DUE.is("both are one", x.away(3, 3), -1);
        DUE.is("the one between", x.away(3, 5), 16);
        DUE.is("the least of six", x.away(0, 7), 2);
        DUE.is("the least of six, back", x.away(7, 0), 2);
        DUE.is("the least of two", x.away(7, 4), 32);
        HedgeWants all = Due.of(EIGHT);
        DUE.is("all see one another", all.away(0, 7), -1);
        all.hedge(0, 7, false);
        DUE.is("all between", all.away(0, 7), 126);
        HedgeWants ways = Due.of("person 0;".repeat(6) + "hedge 0 1;hedge 0 2;hedge 1 3;hedge 2 4;hedge 3 5;hedge 4 5;");
        DUE.is("the least of two by bits", ways.away(0, 5), 6);
        DUE.is("as bits, not by the first one", ways.away(5, 0), 6);
        HedgeWants few = Due.of(FIVE + "hedge 0 1;hedge 0 2;hedge 1 3;hedge 2 3;hedge 3 4;");
        DUE.is("one of more bits ahead of two", few.away(0, 4), 8);
        DUE.is("alone, both are one", Due.of("person 0;").away(0, 0), -1);
    }

    private static void noWayAnyway() {
        DUE.sentence("LOOK AWAY, as bits (0: there is no way anyway); NONE: none.");
        HedgeWants x = Due.of(THREE + "hedge 0 1;");
        DUE.is("no way", x.away(0, 2), 0);
        DUE.is("no way back", x.away(2, 1), 0);
        x.hedge(0, 1, false);
        DUE.is("no HEDGE at all", x.away(0, 1), 0);
    }
}
