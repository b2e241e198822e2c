/** Promises 5 to 8: what is so now. */
public final class NowTest {
    private static final Due DUE = new Due();

    public static void main(String[] args) {
        counts();
        people();
        things();
        looks();
        valuesOfWants();
        spoiling();
        swapping();
        DUE.end();
    }

    private static void counts() {
        HedgeWants x = Due.of("person 3;person 4;person 5;hedge 0 1;thing 0 2 6 9;firm 1 8 1 1;");
        DUE.is("PEOPLE", x.count(0), 3);
        DUE.is("THINGS", x.count(1), 2);
        DUE.is("the DAY", x.count(2), 0);
        DUE.is("SAFE", x.count(3), 0);
        DUE.is("couples of ENVY: 0 of 1, 1 of 0, 2 of 0 and of 1", x.count(4), 4);
        DUE.is("SWAPS", x.count(5), 1);
        DUE.is("the first one", x.count(6), 1);
        DUE.is("NO SWAP", x.count(7), 0);
        DUE.is("PARTS", x.count(8), 2);
        DUE.is("HEDGES", x.count(9), 1);
        x.hedge(0, 1, false);
        DUE.is("NO SWAP of those who don't see one another", x.count(7), 1);
        DUE.is("ENVY be there a HEDGE or not", x.count(4), 4);
        DUE.is("SWAPS be there a HEDGE or not", x.count(5), 1);
        DUE.is("PARTS without HEDGES", x.count(8), 3);
        DUE.is("no HEDGES", x.count(9), 0);
        DUE.is("all SAFE", x.count(3), 3);
        x.spoil(0);
        x.spoil(1);
        x.spoil(1);
        DUE.is("all RUN", x.count(10), 3);
        DUE.is("ACTS", x.count(11), 4);
        x.see(0, 0, 0);
        DUE.is("SEEN", x.count(12), 1);
        x.feed(0, 0, 0, 0, 0);
        DUE.is("the tape", x.count(13), 20);
        x.mend(0);
        x.mend(0);
        x.see(0, 30, 0);
        x.see(0, -1, 0);
        DUE.is("STATUS 0", x.count(14), 0);
        DUE.is("STATUS 1", x.count(15), 1);
        DUE.is("STATUS 2", x.count(16), 2);
        DUE.lacks("count(17)", () -> x.count(17));
        DUE.lacks("count(-1)", () -> x.count(-1));
    }

    private static void people() {
        HedgeWants x = Due.of("person 3;person 4;person 5;hedge 0 1;hedge 2 1;thing 0 2 6 9;firm 1 8 1 1;thing 0 7 0 0;");
        DUE.is("BOLD", x.person(2, 0), 5);
        DUE.is("THINGS of one", x.person(0, 1), 5);
        DUE.is("THINGS of none", x.person(2, 1), 0);
        DUE.is("their WORTH", x.person(0, 2), 9);
        DUE.is("whom one sees", x.person(1, 3), 5);
        DUE.is("whom another one sees", x.person(0, 3), 2);
        DUE.is("WANTS over a HEDGE", x.person(0, 4), 2);
        DUE.is("WANTS what looks 5 or more", x.person(1, 4), 1);
        DUE.is("WANTS nothing without a HEDGE", x.person(2, 4), 0);
        DUE.lacks("person(3, 0)", () -> x.person(3, 0));
        DUE.lacks("person(-1, 0)", () -> x.person(-1, 0));
        DUE.lacks("person(0, 5)", () -> x.person(0, 5));
        DUE.lacks("person(0, -1)", () -> x.person(0, -1));
        HedgeWants all = Due.of("person 3;person 4;person 5;");
        DUE.is("without any HEDGE told all see one another", all.person(1, 3), 5);
        DUE.is("three HEDGES", all.count(9), 3);
    }

    private static void things() {
        HedgeWants x = Due.of("person 0;person 0;person 0;person 0;thing 1 5 9 8 8;firm 0 0 4 5 0;");
        DUE.is("OWNER", x.thing(0, 0), 1);
        DUE.is("RUN", x.thing(0, 1), 0);
        DUE.is("WANTED", x.thing(0, 2), 13);
        DUE.is("of like ones the least would TAKE it", x.thing(0, 3), 2);
        DUE.is("not FIRM", x.thing(0, 4), 0);
        DUE.is("FIRM", x.thing(1, 4), 1);
        DUE.is("WANTED by one", x.thing(1, 2), 4);
        x.spoil(1);
        DUE.is("RUN by hand", x.thing(1, 1), 1);
        DUE.is("WANTED by none", x.thing(1, 2), 0);
        DUE.is("none would TAKE it", x.thing(1, 3), -1);
        DUE.lacks("thing(2, 0)", () -> x.thing(2, 0));
        DUE.lacks("thing(-1, 0)", () -> x.thing(-1, 0));
        DUE.lacks("thing(0, 6)", () -> x.thing(0, 6));
        DUE.lacks("thing(0, -1)", () -> x.thing(0, -1));
    }

    private static void looks() {
        HedgeWants x = Due.of("person 0;person 0;thing 0 6 2;");
        for (int i = 0; i < 3; i++) {
            x.spoil(0);
        }
        DUE.is("WORTH to the OWNER", x.look(0, 0, 0), 6);
        DUE.is("LOOK to the OWNER", x.look(0, 0, 1), 6);
        DUE.is("WORTH to another one", x.look(1, 0, 0), 2);
        DUE.is("LOOK not below 0", x.look(1, 0, 1), 0);
        x.give(0, 1);
        DUE.is("LOOK to the one it was of", x.look(0, 0, 1), 3);
        DUE.lacks("look(2, 0, 0)", () -> x.look(2, 0, 0));
        DUE.lacks("look(0, 1, 0)", () -> x.look(0, 1, 0));
        DUE.lacks("look(0, 0, 2)", () -> x.look(0, 0, 2));
        DUE.lacks("look(0, 0, -1)", () -> x.look(0, 0, -1));
    }

    /** VALUES of WANTS: a rule by which one is equal to a number is WANTED just there. */
    private static void valuesOfWants() {
        String all = "person 7;person 4;person 2;thing 0 3 6 0;thing 0 1 1 1;thing 1 1 1 1;wants ";
        wanted(all + "look = 6;", 0, 2);
        wanted(all + "look;", 0, 2);
        wanted(all + "look = 0;", 0, 4);
        wanted(all + "bold = 2;", 0, 4);
        wanted(all + "bold = 7;", 2, 1);
        wanted(all + "own = 1;", 0, 2);
        wanted(all + "own = 0;", 0, 4);
        wanted(all + "own = 2;", 2, 1);
        wanted(all + "theirs = 2;", 0, 6);
        wanted(all + "theirs = 2;", 2, 0);
        wanted(all + "run = 0;", 0, 6);
        wanted(all + "run;", 0, 0);
        wanted(all + "day = 0;", 0, 6);
        wanted(all + "0 - 1;", 0, 0);
        wanted(all + "1;", 1, 6);
        HedgeWants x = Due.of("person 0;thing 0 5;wants 1;");
        DUE.is("nobody WANTS one's own", x.person(0, 4), 0);
    }

    private static void wanted(String text, int thing, int bits) {
        DUE.is("WANTED " + thing + " of " + text, Due.of(text).thing(thing, 2), bits);
    }

    private static void spoiling() {
        HedgeWants x = Due.of("person 0;person 0;person 0;thing 0 0 9 6;thing 0 9 4 4;");
        DUE.is("TO SPOIL", x.thing(0, 5), 5);
        DUE.is("TO SPOIL what nobody WANTS", x.thing(1, 5), 0);
        x.spoil(0);
        x.spoil(0);
        DUE.is("TO SPOIL more", x.thing(0, 5), 3);
        DUE.is("RUN as it was", x.thing(0, 1), 2);
        HedgeWants all = Due.of("person 0;person 0;thing 0 0 9;wants 1;");
        DUE.is("no TO SPOIL", all.thing(0, 5), -1);
        HedgeWants nine = Due.of("person 0;person 0;thing 0 0 9;wants run < 9;");
        DUE.is("TO SPOIL up to 9", nine.thing(0, 5), 9);
        HedgeWants some = Due.of("person 0;person 0;thing 0 0 9;wants not run = 3;");
        DUE.is("the least TO SPOIL", some.thing(0, 5), 3);
    }

    private static void swapping() {
        HedgeWants x = Due.of("person 0;person 0;thing 0 5 6;thing 0 1 1;thing 1 6 5;thing 1 7 5;");
        // 0 and 2: 0 gains 6 over 5, 1 gains 6 over 5. 0 and 3 as well. 1 and 2: 1 would lose.
        DUE.is("SWAPS", x.count(5), 2);
        DUE.is("the first", x.count(6), 2);
        x.spoil(0);
        DUE.is("a RUN one gains nothing", x.count(5), 0);
        DUE.is("no SWAP", x.count(6), -1);
        HedgeWants late = Due.of("person 0;person 0;" + "thing 0 9 9;".repeat(10) + "thing 0 1 2;thing 1 2 1;");
        DUE.is("the first SWAP", late.count(6), 1011);
        DUE.is("one must gain, not be as well off", Due.of("person 0;person 0;thing 0 5 6;thing 1 5 5;").count(5), 0);
        DUE.is("0 would swap all", Due.of("person 0;person 0;thing 1 5 0;").count(7), 0);
        DUE.is("1 would swap all", Due.of("person 0;person 0;thing 0 0 5;").count(7), 0);
    }
}
