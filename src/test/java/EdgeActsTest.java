/** Boundaries that the document names, sentence by sentence: WANTS, a DAY, ACTS and their undoing (promises 9 to 16). */
public final class EdgeActsTest {
    private static final Due DUE = new Due();
    private static final String TWO = "person 0;person 0;";
    private static final String THREE = "person 0;person 0;person 0;";
    private static final String EIGHT = "person 0;".repeat(8);

    public static void main(String[] args) {
        looksNotBelowNothing();
        bothSeeOneAnother();
        moreThanNothing();
        fiveOrMore();
        behindThoseTakenAhead();
        ofLikeOnesTheLeast();
        takenAndRun();
        takenOrNot();
        whoWantsItThen();
        keptToThree();
        withoutRuns();
        oneHalf();
        nineAtMost();
        oneDayMore();
        daysBehindRest();
        daysAtOnce();
        lastDay();
        asks();
        spoilsAndMends();
        gives();
        tastes();
        hedges();
        noHedgeTold();
        undoes();
        actsThatChangeNothing();
        fortyActs();
        refusedAndThrown();
        DUE.end();
    }

    private static void looksNotBelowNothing() {
        DUE.sentence("its WORTH to that PERSON less how much it is RUN down (0 at first), not below 0.");
        HedgeWants x = Due.of(TWO + "thing 0 9 3;wants 1;");
        int[] looks = {3, 2, 1, 0, 0, 0, 0, 0, 0, 0};
        for (int run = 0; run <= 9; run++) {
            DUE.is("LOOK of one RUN " + run, x.look(1, 0, 1), looks[run]);
            x.spoil(0);
        }
        DUE.is("look is 0 in WANTS", Due.of(TWO + "thing 0 9 0;wants look = 0;").thing(0, 2), 2);
        HedgeWants below = Due.of(TWO + "thing 0 9 0;wants look < 0;");
        below.spoil(0);
        DUE.is("look isn't below 0 in WANTS", below.thing(0, 2), 0);
    }

    private static void bothSeeOneAnother() {
        DUE.sentence("One WANTS a THING of another one, if both see one another");
        HedgeWants x = Due.of(THREE + "hedge 1 0;thing 0 9 9 9;thing 1 9 9 9;wants 1;");
        DUE.is("over the HEDGE", x.thing(0, 2), 2);
        DUE.is("the other way", x.thing(1, 2), 1);
        DUE.is("nothing without a HEDGE", x.person(2, 4), 0);
        DUE.is("not one's own", x.person(0, 4), 2);
    }

    private static void moreThanNothing() {
        DUE.sentence("WANTS gives more than 0");
        wanted("wants 0 - 1;", 0);
        wanted("wants 0;", 0);
        wanted("wants 1;", 2);
        wanted("wants 9999;", 2);
        wanted("wants 8192 * 8192 * 32;", 0);
        wanted("wants 8192 * 8192 * 32 - 1;", 2);
    }

    private static void wanted(String rule, int bits) {
        DUE.is("WANTED by " + rule, Due.of(TWO + "thing 0 0 0;" + rule).thing(0, 2), bits);
    }

    private static void fiveOrMore() {
        DUE.sentence("(without it: if LOOK is 5 or more)");
        DUE.is("LOOK 4", Due.of(TWO + "thing 0 9 4;").thing(0, 2), 0);
        DUE.is("LOOK 5", Due.of(TWO + "thing 0 0 5;").thing(0, 2), 2);
        HedgeWants x = Due.of(TWO + "thing 0 0 9;");
        for (int run = 0; run <= 9; run++) {
            DUE.is("RUN " + run, x.thing(0, 2), run <= 4 ? 2 : 0);
            x.spoil(0);
        }
    }

    private static void behindThoseTakenAhead() {
        DUE.sentence("of those who WANT it, by what is so at its turn (behind those TAKEN ahead of it)");
        HedgeWants own = Due.of(TWO + "thing 0 1 1;thing 0 1 1;thing 0 1 1;wants own = 0;runs 0;");
        own.days(1);
        DUE.is("the first one", own.thing(0, 0), 1);
        DUE.is("the second one, of one who has one", own.thing(1, 0), 0);
        HedgeWants theirs = Due.of(TWO + "thing 0 1 1;thing 0 1 1;thing 0 1 1;wants theirs = 3;runs 0;");
        theirs.days(1);
        DUE.is("of one who has three", theirs.thing(0, 0), 1);
        DUE.is("of one who has two", theirs.thing(1, 0), 0);
        HedgeWants last = Due.of(TWO + "thing 0 1 1;thing 1 1 1;wants theirs = 2;runs 0;");
        last.days(2);
        DUE.is("none has two", last.then(1, 0, 0), 1);
    }

    private static void ofLikeOnesTheLeast() {
        DUE.sentence("the one to whom it has most LOOK (of like ones the least) is its OWNER then");
        DUE.is("most LOOK", Due.of(THREE + "thing 0 0 5 6;").then(0, 1, 0), 2);
        DUE.is("of like ones", Due.of(THREE + "thing 0 0 6 6;").then(0, 1, 0), 1);
        DUE.is("of like ones by WANTS alone", Due.of(THREE + "thing 2 0 0 9;wants 1;").then(0, 1, 0), 0);
        DUE.is("not one who doesn't WANT it", Due.of("person 0;person 1;person 2;thing 0 0 9 1;wants bold = 2;").then(0, 1, 0), 2);
        DUE.is("of eight", Due.of(EIGHT + "thing 0 0 5 6 7 8 8 9 9;").then(0, 1, 0), 6);
        HedgeWants run = Due.of(THREE + "thing 0 0 2 3;wants 1;");
        for (int i = 0; i < 3; i++) {
            run.spoil(0);
        }
        DUE.is("of like ones by LOOK, not by WORTH", run.thing(0, 3), 1);
    }

    private static void takenAndRun() {
        DUE.sentence("it is TAKEN, and RUN 0.");
        HedgeWants turns = Due.of(TWO + "thing 0 9 9;runs 0;");
        for (int days = 1; days <= 60; days++) {
            DUE.is("the OWNER behind " + days, turns.then(0, days, 0), days % 2);
            DUE.is("TAKEN in " + days, turns.taken(0, days), days);
        }
        HedgeWants x = Due.of(TWO + "thing 0 0 9;runs 0;");
        x.spoil(0);
        x.spoil(0);
        x.days(1);
        DUE.is("the OWNER", x.thing(0, 0), 1);
        DUE.is("RUN", x.thing(0, 1), 0);
        HedgeWants stays = Due.of(TWO + "thing 0 0 4;runs 0;");
        stays.spoil(0);
        stays.days(1);
        DUE.is("RUN of one that isn't TAKEN", stays.thing(0, 1), 1);
    }

    private static void takenOrNot() {
        DUE.sentence("Then THING by THING (TAKEN or not): it is RUN down more by what RUNS, by what is so at its turn");
        HedgeWants x = Due.of(TWO + "thing 0 0 9;thing 0 0 0;runs 2;");
        x.days(1);
        DUE.is("TAKEN", x.thing(0, 1), 2);
        DUE.is("not TAKEN", x.thing(1, 1), 2);
        DUE.is("by RUN as it is", Due.of("person 0;thing 0 0;runs run + 1;").then(0, 2, 1), 3);
        // The second one is TAKEN ahead of the first one's RUNS.
        DUE.is("all are TAKEN first", Due.of(TWO + "thing 0 0 1;thing 0 0 9;wants 4 < look and own = 0 or own = 1;runs wanted;").then(0, 1, 1), 1);
    }

    private static void whoWantsItThen() {
        DUE.sentence("(also who WANTS it then, whose it is)");
        DUE.is("its OWNER then", Due.of(TWO + "thing 0 1 9;runs worth - 7;").then(0, 1, 1), 2);
        DUE.is("who WANTS it then", Due.of(THREE + "thing 0 0 9 8;runs wanted;").then(0, 1, 1), 1);
        DUE.is("nobody WANTS it then", Due.of(TWO + "thing 0 0 9;runs wanted;").then(0, 1, 1), 0);
        HedgeWants x = Due.of(TWO + "thing 0 0 9;runs 1 + wanted;");
        for (int i = 0; i < 4; i++) {
            x.spoil(0);
        }
        x.hedge(0, 1, false);
        DUE.is("WANTED by none without a HEDGE", x.then(0, 1, 1), 5);
        x.hedge(0, 1, true);
        DUE.is("the one who TAKES it doesn't WANT it then", x.then(0, 1, 1), 1);
    }

    private static void keptToThree() {
        DUE.sentence("gives, kept to 0 to 3");
        int[] values = {0, 1, 2, 3, 4, 9, 9999};
        int[] runs = {0, 1, 2, 3, 3, 3, 3};
        for (int i = 0; i < values.length; i++) {
            DUE.is("runs " + values[i], Due.of("person 0;thing 0 0;runs " + values[i] + ";").then(0, 1, 1), runs[i]);
        }
        DUE.is("below 0", Due.of("person 0;thing 0 0;runs 0 - 1;").then(0, 1, 1), 0);
        DUE.is("far below 0", Due.of("person 0;thing 0 0;runs 8192 * 8192 * 32;").then(0, 1, 1), 0);
        DUE.is("far above", Due.of("person 0;thing 0 0;runs 8192 * 8192 * 32 - 1;").then(0, 1, 1), 3);
        HedgeWants x = Due.of("person 0;thing 0 0;runs 0 - 2;");
        x.spoil(0);
        DUE.is("never RUN less", x.then(0, 1, 1), 1);
    }

    private static void withoutRuns() {
        DUE.sentence("(without it 1, if anybody WANTS it, else 0)");
        DUE.is("nobody", Due.of(TWO + "thing 0 0 9;").then(0, 1, 1), 0);
        DUE.is("somebody", Due.of(TWO + "thing 0 5 9;").then(0, 1, 1), 1);
        DUE.is("seven", Due.of(EIGHT + "thing 0 9 9 9 9 9 9 9 9;").then(0, 1, 1), 1);
        DUE.is("nobody but the last one", Due.of(THREE + "thing 2 0 9 9;").then(0, 1, 1), 1);
    }

    private static void oneHalf() {
        DUE.sentence("of a FIRM one half of that, cut down");
        int[] halves = {0, 0, 1, 1, 1, 1, 1, 1};
        for (int value = 0; value < halves.length; value++) {
            DUE.is("runs " + value, Due.of("person 0;firm 0 0;runs " + value + ";").then(0, 1, 1), halves[value]);
        }
        DUE.is("below 0", Due.of("person 0;firm 0 0;runs 0 - 3;").then(0, 1, 1), 0);
        DUE.is("without RUNS never", Due.of(TWO + "firm 0 9 9;").then(0, 60, 1), 0);
        HedgeWants both = Due.of("person 0;thing 0 0;firm 0 0;runs 1;");
        DUE.is("beside a FIRM one", both.then(0, 5, 1), 5);
        DUE.is("a FIRM one beside it", both.then(1, 5, 1), 0);
        DUE.sentence("FIRM ones are RUN down but half as fast.");
        HedgeWants x = Due.of("person 0;firm 0 0;");
        DUE.is("by hand as others", x.spoil(0), 1);
        DUE.is("by hand again", x.spoil(0), 2);
    }

    private static void nineAtMost() {
        DUE.sentence("9 at most.");
        DUE.is("nine", Due.of("person 0;thing 0 0;runs 3;").then(0, 3, 1), 9);
        DUE.is("no more", Due.of("person 0;thing 0 0;runs 3;").then(0, 4, 1), 9);
        HedgeWants x = Due.of("person 0;thing 0 0;thing 0 0;runs 3;");
        for (int i = 0; i < 8; i++) {
            x.spoil(0);
        }
        for (int i = 0; i < 7; i++) {
            x.spoil(1);
        }
        x.days(1);
        DUE.is("eight and three", x.thing(0, 1), 9);
        DUE.is("seven and three", x.thing(1, 1), 9);
        DUE.is("FIRM", Due.of("person 0;firm 0 0;runs 3;").then(0, 60, 1), 9);
    }

    private static void oneDayMore() {
        DUE.sentence("The DAY is one more then.");
        HedgeWants x = Due.of(TWO + "thing 0 0 9;wants day = 1;runs day;");
        DUE.is("the first DAY is 0", x.then(0, 1, 0), 0);
        DUE.is("RUN on the first DAY", x.then(0, 1, 1), 0);
        DUE.is("the second one is 1", x.then(0, 2, 0), 1);
        DUE.is("RUN on the second DAY", x.then(0, 2, 1), 1);
        DUE.is("WANTED behind one DAY", x.then(0, 1, 2), 1);
        DUE.is("days(1)", x.days(1), 1);
        DUE.is("count(2)", x.count(2), 1);
        DUE.is("WANTED now", x.thing(0, 2), 2);
    }

    /** DAYS that change nothing don't stop those behind an ACT. */
    private static void daysBehindRest() {
        DUE.sentence("DAYS go by (1 to 20)");
        HedgeWants x = Due.of(TWO + "thing 0 4 4;hedge 0 1;");
        x.days(20);
        DUE.is("all rests", x.thing(0, 0), 0);
        x.taste(1, 0, 7);
        DUE.is("behind a taste", x.then(0, 1, 0), 1);
        x.hedge(0, 1, false);
        x.days(20);
        DUE.is("all rests", x.thing(0, 0), 0);
        x.hedge(0, 1, true);
        DUE.is("behind a HEDGE", x.then(0, 1, 0), 1);
        x.spoil(0);
        x.spoil(0);
        x.spoil(0);
        x.days(20);
        DUE.is("all rests", x.thing(0, 0), 0);
        x.mend(0);
        DUE.is("behind mending", x.then(0, 1, 0), 1);
        x.undo();
        x.days(1);
        x.undo();
        x.undo();
        x.undo();
        x.undo();
        x.undo();
        DUE.is("behind undoing", x.then(0, 1, 0), 1);
        x.days(1);
        x.days(20);
        DUE.is("all rests", x.thing(0, 0), 1);
        x.give(0, 0);
        DUE.is("behind a gift, RUN 0", x.then(0, 1, 0), 1);
    }

    // ---- promise 9 ----

    private static void daysAtOnce() {
        DUE.sentence("NONE (STATUS 1): not 1 to 20, it would be above 999.");
        HedgeWants x = Due.of(TWO + "thing 0 9 9;");
        int[] refused = {0, -1, 21, Integer.MIN_VALUE, Integer.MAX_VALUE, Integer.MAX_VALUE - 1};
        for (int i = 0; i < refused.length; i++) {
            DUE.is("days(" + refused[i] + ")", x.days(refused[i]), -1);
            DUE.is("STATUS 1", x.count(15), i + 1);
        }
        DUE.is("the DAY", x.count(2), 0);
        DUE.is("ACTS", x.count(11), 0);
        DUE.is("the OWNER", x.thing(0, 0), 0);
        DUE.is("days(1)", x.days(1), 1);
        DUE.is("days(20)", x.days(20), 21);
        DUE.is("the OWNER behind 21", x.thing(0, 0), 1);
        DUE.is("ACTS", x.count(11), 2);
    }

    private static void lastDay() {
        DUE.sentence("it would be above 999.");
        HedgeWants x = Due.of(TWO + "thing 0 9 9;wants day = 1000 or day = 998;");
        for (int day = 20; day <= 980; day += 20) {
            DUE.is("days(20)", x.days(20), day);
        }
        DUE.is("1000", x.days(20), -1);
        DUE.is("998", x.days(18), 998);
        DUE.is("1000 again", x.days(2), -1);
        DUE.is("999", x.days(1), 999);
        DUE.is("TAKEN on the DAY 998", x.thing(0, 0), 1);
        DUE.is("no DAY more", x.days(1), -1);
        DUE.is("STATUS 1", x.count(15), 3);
        DUE.is("THEN goes on above it", x.then(0, 60, 0), 0);
        DUE.is("on the DAY 1000", x.kept(0), 2);
        DUE.is("undo()", x.undo(), 39);
        DUE.is("the DAY", x.count(2), 998);
    }

    // ---- promise 10 ----

    private static void asks() {
        DUE.sentence("ASKS: the OWNER it had. NONE (STATUS 1): one doesn't WANT it.");
        HedgeWants x = Due.of(THREE + "hedge 0 1;thing 0 0 5 9;");
        DUE.is("one's own", x.ask(0, 0), -1);
        DUE.is("without a HEDGE", x.ask(2, 0), -1);
        DUE.is("the OWNER it had", x.ask(1, 0), 0);
        DUE.is("the OWNER", x.thing(0, 0), 1);
        DUE.is("again", x.ask(1, 0), -1);
        DUE.is("LOOK too little", x.ask(0, 0), -1);
        DUE.is("STATUS 1", x.count(15), 4);
        DUE.is("ACTS", x.count(11), 1);

        DUE.sentence("one has it, RUN 0");
        HedgeWants run = Due.of(TWO + "thing 0 0 9;");
        for (int i = 0; i < 4; i++) {
            run.spoil(0);
        }
        DUE.is("ask of one RUN 4", run.ask(1, 0), 0);
        DUE.is("RUN", run.thing(0, 1), 0);
        HedgeWants five = Due.of(TWO + "thing 0 0 9;");
        for (int i = 0; i < 5; i++) {
            five.spoil(0);
        }
        DUE.is("ask of one RUN 5", five.ask(1, 0), -1);
        DUE.is("RUN", five.thing(0, 1), 5);

        DUE.sentence("(not counted where DAYS are)");
        DUE.is("no DAY more", run.count(2), 0);
        DUE.is("not TAKEN", run.taken(0, 0) + run.later(0, 0), 0);
        DUE.is("of the last one", Due.of(THREE + "thing 2 0 5 9;").ask(1, 0), 2);
        // One needn't be the one who would TAKE it.
        DUE.is("the lesser one of two", Due.of(THREE + "thing 0 0 5 9;").ask(1, 0), 0);
    }

    // ---- promises 11 and 12 ----

    private static void spoilsAndMends() {
        DUE.sentence("SPOILT: how RUN down it is then. NONE (STATUS 1): it is 9.");
        HedgeWants x = Due.of("person 0;thing 0 0;firm 0 0;");
        for (int run = 1; run <= 9; run++) {
            DUE.is("spoil", x.spoil(1), run);
        }
        DUE.is("a tenth", x.spoil(1), -1);
        DUE.is("RUN", x.thing(1, 1), 9);
        DUE.is("STATUS 1", x.count(15), 1);
        DUE.is("ACTS", x.count(11), 9);

        DUE.sentence("MENDED: how RUN down it was. NONE (STATUS 1): it isn't.");
        DUE.is("not RUN", x.mend(0), -1);
        DUE.is("STATUS 1", x.count(15), 2);
        DUE.is("RUN 9", x.mend(1), 9);
        DUE.is("RUN", x.thing(1, 1), 0);
        DUE.is("again", x.mend(1), -1);
        x.spoil(0);
        DUE.is("RUN 1", x.mend(0), 1);
        DUE.is("STATUS 1", x.count(15), 3);
        DUE.is("ACTS", x.count(11), 12);
    }

    // ---- promise 13 ----

    private static void gives() {
        DUE.sentence("GIVEN: the OWNER it had. NONE (STATUS 1): it is that one's.");
        HedgeWants x = Due.of(THREE + "hedge 0 1;thing 2 0 0 0;");
        x.spoil(0);
        DUE.is("its OWNER", x.give(0, 2), -1);
        DUE.is("STATUS 1", x.count(15), 1);
        DUE.is("one who sees nobody gives", x.give(0, 0), 2);
        DUE.is("the OWNER", x.thing(0, 0), 0);
        DUE.is("again", x.give(0, 0), -1);
        DUE.is("back", x.give(0, 2), 0);
        DUE.is("ACTS", x.count(11), 3);

        DUE.sentence("one is GIVEN to another one (RUN as it is)");
        DUE.is("RUN", x.thing(0, 1), 1);

        DUE.sentence("NoSuchElementException (ahead): no such THING, PERSON.");
        DUE.lacks("give(1, 0)", () -> x.give(1, 0));
        DUE.lacks("give(-1, 0)", () -> x.give(-1, 0));
        DUE.lacks("give(0, 3)", () -> x.give(0, 3));
        DUE.lacks("give(0, -1)", () -> x.give(0, -1));
        DUE.is("STATUS 1", x.count(15), 2);
        DUE.is("ACTS", x.count(11), 3);
    }

    // ---- promise 14 ----

    private static void tastes() {
        DUE.sentence("WORTH as it was. NONE (STATUS 1): not 0 to 9, it is so.");
        HedgeWants x = Due.of(TWO + "thing 0 4 5;");
        DUE.is("to 0", x.taste(1, 0, 0), 5);
        DUE.is("0 again", x.taste(1, 0, 0), -1);
        DUE.is("to 9", x.taste(1, 0, 9), 0);
        DUE.is("9 again", x.taste(1, 0, 9), -1);
        DUE.is("10", x.taste(1, 0, 10), -1);
        DUE.is("-1", x.taste(1, 0, -1), -1);
        DUE.is("least", x.taste(1, 0, Integer.MIN_VALUE), -1);
        DUE.is("most", x.taste(1, 0, Integer.MAX_VALUE), -1);
        DUE.is("WORTH", x.look(1, 0, 0), 9);
        DUE.is("STATUS 1", x.count(15), 6);
        DUE.is("ACTS", x.count(11), 2);
        DUE.is("of its OWNER", x.taste(0, 0, 3), 4);
        DUE.is("WORTH to the OWNER", x.person(0, 2), 3);
    }

    // ---- promise 15 ----

    private static void hedges() {
        DUE.sentence("False (STATUS 1): it is so already, both are one.");
        HedgeWants x = Due.of(THREE + "hedge 0 1;");
        DUE.is("there is one", x.hedge(0, 1, true), false);
        DUE.is("there is one, told the other way", x.hedge(1, 0, true), false);
        DUE.is("there is none", x.hedge(0, 2, false), false);
        DUE.is("there is none, told the other way", x.hedge(2, 0, false), false);
        DUE.is("both are one", x.hedge(2, 2, true), false);
        DUE.is("both are one, no more", x.hedge(2, 2, false), false);
        DUE.is("STATUS 1", x.count(15), 6);
        DUE.is("ACTS", x.count(11), 0);

        DUE.sentence("A HEDGE over which two see one another (true), or no more: true.");
        DUE.is("a new one", x.hedge(2, 0, true), true);
        DUE.is("whom 0 sees", x.person(0, 3), 6);
        DUE.is("whom 2 sees", x.person(2, 3), 1);
        DUE.is("no more", x.hedge(1, 0, false), true);
        DUE.is("whom 0 sees", x.person(0, 3), 4);
        DUE.is("whom 1 sees", x.person(1, 3), 0);
        DUE.is("HEDGES", x.count(9), 1);
        DUE.is("ACTS", x.count(11), 2);
    }

    private static void noHedgeTold() {
        DUE.sentence("(without any HEDGE told all couples of PEOPLE have one at first)");
        HedgeWants x = Due.of(EIGHT);
        DUE.is("HEDGES", x.count(9), 28);
        for (int person = 0; person < 8; person++) {
            DUE.is("whom " + person + " sees", x.person(person, 3), 255 - (1 << person));
        }
        HedgeWants one = Due.of("person 0;");
        DUE.is("HEDGES of one", one.count(9), 0);
        DUE.is("one doesn't see oneself", one.person(0, 3), 0);
        DUE.is("but one told", Due.of(EIGHT + "hedge 3 4;").count(9), 1);
        DUE.is("told ahead of the others", Due.of(TWO + "hedge 0 1;" + "person 0;").person(2, 3), 0);
        HedgeWants cut = Due.of(TWO);
        cut.hedge(0, 1, false);
        DUE.is("the last one cut doesn't bring all back", cut.count(9), 0);
    }

    // ---- promise 16 ----

    private static void undoes() {
        DUE.sentence("The last ACT is UNDONE: how many are left. NONE: there is none.");
        HedgeWants x = Due.of(TWO + "thing 0 4 9;thing 1 9 4;");
        DUE.is("none", x.undo(), -1);
        x.days(2);
        x.days(0);
        x.mend(0);
        x.hedge(0, 1, false);
        x.taste(0, 0, 9);
        DUE.is("the taste", x.undo(), 2);
        DUE.is("WORTH", x.look(0, 0, 0), 4);
        DUE.is("the HEDGE", x.undo(), 1);
        DUE.is("HEDGES", x.count(9), 1);
        DUE.is("the DAYS", x.undo(), 0);
        DUE.is("the DAY", x.count(2), 0);
        DUE.is("the OWNERS", x.person(0, 1), 1);
        DUE.is("none more", x.undo(), -1);
        DUE.is("STATUS 1", x.count(15), 2);

        DUE.sentence("They are UNDONE, the last one first.");
        x.ask(1, 0);
        x.spoil(0);
        x.spoil(0);
        x.give(0, 0);
        DUE.is("the gift", x.undo(), 3);
        DUE.is("the OWNER", x.thing(0, 0), 1);
        DUE.is("RUN", x.thing(0, 1), 2);
        DUE.is("one spoiling", x.undo(), 2);
        DUE.is("RUN", x.thing(0, 1), 1);
        DUE.is("an ACT behind it", x.mend(0), 1);
        DUE.is("it", x.undo(), 2);
        DUE.is("RUN", x.thing(0, 1), 1);
        DUE.is("the other one", x.undo(), 1);
        DUE.is("what was asked", x.undo(), 0);
        DUE.is("the OWNER", x.thing(0, 0), 0);
    }

    private static void actsThatChangeNothing() {
        DUE.sentence("what its call doesn't refuse is one, also where all is as it was");
        HedgeWants x = new HedgeWants();
        DUE.is("days of nobody", x.days(20), 20);
        DUE.is("ACTS", x.count(11), 1);
        HedgeWants y = Due.of(TWO + "thing 0 0 0;");
        y.days(1);
        y.days(1);
        y.give(0, 1);
        y.give(0, 0);
        DUE.is("ACTS", y.count(11), 4);
        DUE.is("STATUS 1", x.count(15) + y.count(15), 0);
    }

    private static void fortyActs() {
        DUE.sentence("ACTS (at most 40 are kept, the latest ones;");
        HedgeWants x = Due.of("person 0;thing 0 0;");
        for (int acts = 1; acts <= 43; acts++) {
            x.days(1);
            DUE.is("ACTS", x.count(11), Math.min(acts, 40));
        }
        x.spoil(0);
        DUE.is("ACTS", x.count(11), 40);
        for (int left = 39; left >= 0; left--) {
            DUE.is("undo()", x.undo(), left);
        }
        DUE.is("none left", x.undo(), -1);
        DUE.is("the first four stay done", x.count(2), 4);
        x.days(1);
        DUE.is("ACTS anew", x.count(11), 1);
    }

    private static void refusedAndThrown() {
        DUE.sentence("STATUS: how many calls were refused: 0 TEXTS with a FAULT, 1 ACTS, 2 what is SEEN (not counted where an exception tells it).");
        HedgeWants x = Due.of(TWO + "thing 0 5 5;");
        DUE.lacks("ask(2, 0)", () -> x.ask(2, 0));
        DUE.lacks("ask(-1, 0)", () -> x.ask(-1, 0));
        DUE.lacks("ask(0, 1)", () -> x.ask(0, 1));
        DUE.lacks("ask(0, -1)", () -> x.ask(0, -1));
        DUE.lacks("spoil(1)", () -> x.spoil(1));
        DUE.lacks("spoil(-1)", () -> x.spoil(-1));
        DUE.lacks("spoil(least)", () -> x.spoil(Integer.MIN_VALUE));
        DUE.lacks("mend(1)", () -> x.mend(1));
        DUE.lacks("mend(-1)", () -> x.mend(-1));
        DUE.lacks("mend(most)", () -> x.mend(Integer.MAX_VALUE));
        DUE.lacks("taste(2, 0, 10)", () -> x.taste(2, 0, 10));
        DUE.lacks("taste(-1, 0, 5)", () -> x.taste(-1, 0, 5));
        DUE.lacks("taste(0, 1, 10)", () -> x.taste(0, 1, 10));
        DUE.lacks("taste(0, -1, 5)", () -> x.taste(0, -1, 5));
        DUE.lacks("hedge(2, 2, true)", () -> x.hedge(2, 2, true));
        DUE.lacks("hedge(-1, 0, true)", () -> x.hedge(-1, 0, true));
        DUE.lacks("hedge(0, 2, false)", () -> x.hedge(0, 2, false));
        DUE.lacks("hedge(0, -1, false)", () -> x.hedge(0, -1, false));
        DUE.lacks("see(1, 99, 0)", () -> x.see(1, 99, 0));
        DUE.bars("province(99)", () -> x.province(99));
        DUE.is("STATUS", x.count(14) + x.count(15) + x.count(16), 0);
        DUE.is("ACTS", x.count(11), 0);
        x.undo();
        DUE.is("STATUS behind undo()", x.count(15), 0);
        Due.read(x, "?");
        Due.read(x, "?");
        x.days(0);
        x.see(0, 21, 0);
        x.see(0, 21, 0);
        x.see(0, 21, 0);
        DUE.is("count(14)", x.count(14), 2);
        DUE.is("count(15)", x.count(15), 1);
        DUE.is("count(16)", x.count(16), 3);
    }
}
