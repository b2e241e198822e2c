/** Promises 9 to 16: DAYS and ACTS, refused and UNDONE. */
public final class ActsTest {
    private static final Due DUE = new Due();

    public static void main(String[] args) {
        days();
        dayInItsRow();
        runningDown();
        restingWorld();
        asking();
        spoilingAndMending();
        giving();
        tasting();
        hedging();
        undoing();
        fortyActs();
        DUE.end();
    }

    private static void days() {
        HedgeWants x = Due.of("person 0;person 0;thing 0 5 7;");
        DUE.is("days(1)", x.days(1), 1);
        DUE.is("TAKEN", x.thing(0, 0), 1);
        DUE.is("RUN 0, and 1 more, for it is WANTED", x.thing(0, 1), 1);
        DUE.is("days(20)", x.days(20), 21);
        DUE.is("nobody WANTS it", x.thing(0, 1), 1);
        DUE.is("days(0)", x.days(0), -1);
        DUE.is("days(21)", x.days(21), -1);
        DUE.is("days(-3)", x.days(-3), -1);
        DUE.is("days(least)", x.days(Integer.MIN_VALUE), -1);
        DUE.is("days(most)", x.days(Integer.MAX_VALUE), -1);
        DUE.is("STATUS", x.count(15), 5);
        DUE.is("ACTS", x.count(11), 2);
        for (int day = 41; day < 990; day += 20) {
            DUE.is("days(20)", x.days(20), day);
        }
        DUE.is("the DAY", x.count(2), 981);
        DUE.is("above 999", x.days(19), -1);
        DUE.is("up to 999", x.days(18), 999);
        DUE.is("no more", x.days(1), -1);
        DUE.is("days of nobody", new HedgeWants().days(2), 2);
    }

    /** THING by THING, by what is so behind those TAKEN ahead. */
    private static void dayInItsRow() {
        HedgeWants x = Due.of("person 0;person 0;person 0;thing 0 0 1 2;thing 0 0 2 1;thing 0 0 1 1;wants own < theirs;runs 0;");
        // 2 takes the first (2 looks more than 1), 1 the second, then 0 has as many as each.
        x.days(1);
        DUE.is("the first THING", x.thing(0, 0), 2);
        DUE.is("the second THING", x.thing(1, 0), 1);
        DUE.is("the third THING", x.thing(2, 0), 0);
        HedgeWants like = Due.of("person 0;person 0;person 0;thing 2 7 7 0;");
        like.days(1);
        DUE.is("of like ones the least", like.thing(0, 0), 0);
    }

    private static void runningDown() {
        HedgeWants x = Due.of("person 0;person 0;thing 0 0 0;firm 0 0 0;runs 3;");
        int[] runs = {3, 6, 9, 9};
        int[] firm = {1, 2, 3, 4};
        for (int i = 0; i < 4; i++) {
            x.days(1);
            DUE.is("RUN on day " + i, x.thing(0, 1), runs[i]);
            DUE.is("RUN of a FIRM one on day " + i, x.thing(1, 1), firm[i]);
        }
        HedgeWants y = Due.of("person 0;person 0;person 0;person 0;thing 0 0 0 5 5;firm 0 9 0 9 9;runs wanted;");
        // Each goes to 2; then 3 alone WANTS the first one, 0 and 3 the firm one.
        y.days(1);
        DUE.is("wanted by one", y.thing(0, 1), 1);
        DUE.is("wanted by two, FIRM", y.thing(1, 1), 1);
        HedgeWants z = Due.of("person 0;person 0;firm 0 0 9;");
        z.days(1);
        DUE.is("nobody WANTS it", z.thing(0, 1), 0);
        z = Due.of("person 0;person 0;firm 0 9 9;");
        z.days(1);
        DUE.is("half of 1, cut down", z.thing(0, 1), 0);
        z = Due.of("person 0;person 0;thing 0 3 9;runs worth - 7;");
        z.days(1);
        DUE.is("WORTH to its OWNER then", z.thing(0, 1), 2);
    }

    /** Behind DAYS that change nothing each ACT has to wake them. */
    private static void restingWorld() {
        HedgeWants x = Due.of("person 0;person 0;person 0;hedge 1 2;thing 0 0 6 0;thing 1 0 0 4;");
        x.days(3);
        DUE.is("all rests", x.later(60, 0), 0);
        x.hedge(0, 1, true);
        DUE.is("a HEDGE wakes it", x.then(0, 1, 0), 1);
        x.days(1);
        DUE.is("TAKEN over it", x.thing(0, 0), 1);
        x.days(2);
        x.taste(2, 1, 9);
        x.days(1);
        DUE.is("a taste wakes it", x.thing(1, 0), 2);
        x.days(2);
        x.give(0, 0);
        x.days(1);
        DUE.is("a gift wakes it", x.thing(0, 0), 1);
        x.days(2);
        x.give(0, 0);
        x.spoil(0);
        x.spoil(0);
        x.days(2);
        DUE.is("all rests again", x.thing(0, 0), 0);
        x.mend(0);
        x.days(1);
        DUE.is("mending wakes it", x.thing(0, 0), 1);
        x.days(2);
        x.undo();
        x.undo();
        x.days(1);
        DUE.is("undoing wakes it", x.thing(0, 0), 1);
        x.days(2);
        Due.read(x, "person 0;person 0;thing 0 0 6;");
        x.days(1);
        DUE.is("a text wakes it", x.thing(0, 0), 1);
    }

    private static void asking() {
        HedgeWants x = Due.of("person 0;person 0;person 0;thing 0 0 6 5;hedge 0 1;");
        x.spoil(0);
        DUE.is("ask", x.ask(1, 0), 0);
        DUE.is("one has it", x.thing(0, 0), 1);
        DUE.is("RUN 0", x.thing(0, 1), 0);
        DUE.is("one's own", x.ask(1, 0), -1);
        DUE.is("what one doesn't WANT", x.ask(0, 0), -1);
        DUE.is("over no HEDGE", x.ask(2, 0), -1);
        DUE.is("STATUS", x.count(15), 3);
        DUE.is("ACTS", x.count(11), 2);
        DUE.lacks("ask(3, 0)", () -> x.ask(3, 0));
        DUE.lacks("ask(0, 1)", () -> x.ask(0, 1));
        DUE.is("STATUS stays at an exception", x.count(15), 3);
    }

    private static void spoilingAndMending() {
        HedgeWants x = Due.of("person 0;thing 0 0;");
        for (int i = 1; i <= 9; i++) {
            DUE.is("spoil", x.spoil(0), i);
        }
        DUE.is("spoil more", x.spoil(0), -1);
        DUE.is("mend", x.mend(0), 9);
        DUE.is("RUN 0", x.thing(0, 1), 0);
        DUE.is("mend again", x.mend(0), -1);
        DUE.is("STATUS", x.count(15), 2);
        DUE.is("ACTS", x.count(11), 10);
        DUE.lacks("spoil(1)", () -> x.spoil(1));
        DUE.lacks("mend(-1)", () -> x.mend(-1));
    }

    private static void giving() {
        HedgeWants x = Due.of("person 0;person 0;thing 0 0 0;");
        x.spoil(0);
        DUE.is("give", x.give(0, 1), 0);
        DUE.is("its OWNER", x.thing(0, 0), 1);
        DUE.is("RUN as it is", x.thing(0, 1), 1);
        DUE.is("give again", x.give(0, 1), -1);
        DUE.is("STATUS", x.count(15), 1);
        DUE.lacks("give(1, 0)", () -> x.give(1, 0));
        DUE.lacks("give(0, 2)", () -> x.give(0, 2));
        DUE.is("STATUS stays", x.count(15), 1);
    }

    private static void tasting() {
        HedgeWants x = Due.of("person 0;person 0;thing 0 4 5;");
        DUE.is("taste", x.taste(1, 0, 9), 5);
        DUE.is("WORTH", x.look(1, 0, 0), 9);
        DUE.is("taste of the OWNER", x.taste(0, 0, 0), 4);
        DUE.is("as it is", x.taste(1, 0, 9), -1);
        DUE.is("ten", x.taste(1, 0, 10), -1);
        DUE.is("below 0", x.taste(1, 0, -1), -1);
        DUE.is("STATUS", x.count(15), 3);
        DUE.lacks("taste(2, 0, 1)", () -> x.taste(2, 0, 1));
        DUE.lacks("taste(0, 1, 1)", () -> x.taste(0, 1, 1));
    }

    private static void hedging() {
        HedgeWants x = Due.of("person 0;person 0;thing 0 0 9;");
        DUE.is("so already", x.hedge(0, 1, true), false);
        DUE.is("no more", x.hedge(1, 0, false), true);
        DUE.is("whom one sees", x.person(0, 3), 0);
        DUE.is("whom the other one sees", x.person(1, 3), 0);
        DUE.is("nobody WANTS it", x.thing(0, 2), 0);
        DUE.is("no more already", x.hedge(0, 1, false), false);
        DUE.is("a HEDGE", x.hedge(0, 1, true), true);
        DUE.is("one WANTS it", x.thing(0, 2), 2);
        DUE.is("both are one", x.hedge(1, 1, true), false);
        DUE.is("both are one, no more", x.hedge(1, 1, false), false);
        DUE.is("STATUS", x.count(15), 4);
        DUE.is("ACTS", x.count(11), 2);
        DUE.lacks("hedge(2, 0, true)", () -> x.hedge(2, 0, true));
        DUE.lacks("hedge(0, 2, true)", () -> x.hedge(0, 2, true));
    }

    private static void undoing() {
        HedgeWants x = Due.of("person 0;person 0;thing 0 5 7;thing 1 9 2;");
        x.days(2);
        x.hedge(0, 1, false);
        x.taste(0, 1, 8);
        x.spoil(1);
        x.mend(1);
        x.give(1, 1 - x.thing(1, 0));
        int[] left = {5, 4, 3, 2, 1};
        for (int i : left) {
            DUE.is("undo", x.undo(), i);
        }
        DUE.is("the HEDGE is back", x.person(0, 3), 2);
        DUE.is("WORTH is back", x.look(0, 1, 0), 9);
        DUE.is("the DAY is 2", x.count(2), 2);
        DUE.is("the last undo", x.undo(), 0);
        DUE.is("the DAY is back", x.count(2), 0);
        DUE.is("the OWNER is back", x.thing(0, 0), 0);
        DUE.is("all WORTH is back", x.look(1, 0, 0), 7);
        DUE.is("RUN is back", x.count(10), 0);
        DUE.is("none to undo", x.undo(), -1);
        DUE.is("that is no ACT refused", x.count(15), 0);
        x.mend(0);
        x.spoil(0);
        x.mend(1);
        DUE.is("undo leaves STATUS", x.undo(), 0);
        DUE.is("STATUS", x.count(15), 2);
    }

    private static void fortyActs() {
        HedgeWants x = Due.of("person 0;person 0;thing 0 0 0;");
        for (int i = 0; i < 43; i++) {
            x.give(0, 1 - i % 2);
            x.taste(0, 0, 1 + i % 9);
        }
        DUE.is("ACTS at most", x.count(11), 40);
        for (int left = 39; left >= 0; left--) {
            DUE.is("undo", x.undo(), left);
        }
        DUE.is("the older ones are gone", x.undo(), -1);
        DUE.is("as ahead of the 40 latest", x.look(0, 0, 0), 1 + 22 % 9);
        DUE.is("whose it was then", x.thing(0, 0), 1 - 22 % 2);
    }
}
