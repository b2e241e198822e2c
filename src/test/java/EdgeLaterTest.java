/** Boundaries that the document names, sentence by sentence: if only DAYS go by, TO ASK, TO GIVE (promises 17 to 23, 28, 29). */
public final class EdgeLaterTest {
    private static final Due DUE = new Due();
    private static final String TWO = "person 0;person 0;";
    private static final String THREE = "person 0;person 0;person 0;";
    /** 1 takes it; then it is RUN down 1, and 0 WANTS it no more. */
    private static final String STAYS = TWO + "thing 0 5 7;";
    /** Each takes it from the other one, DAY by DAY. */
    private static final String TURNS = TWO + "thing 0 9 9;";

    public static void main(String[] args) {
        then();
        has();
        kept();
        held();
        taken();
        takenMostOften();
        richest();
        whoHasNothing();
        calm();
        round();
        laterAndRestsRefuse();
        nothingChanges();
        toAsk();
        toAskRefuses();
        toGive();
        toGiveWithin();
        DUE.end();
    }

    private static String on(int... days) {
        StringBuilder s = new StringBuilder("wants 0");
        for (int day : days) {
            s.append(" or day = ").append(day);
        }
        return s.append(';').toString();
    }

    private static void then() {
        DUE.sentence("THEN, behind so many DAYS (0 to 60): the OWNER of a THING, how RUN down it is, how many WANT it.");
        HedgeWants x = Due.of(TURNS + on(0, 59));
        DUE.is("the OWNER behind 0", x.then(0, 0, 0), 0);
        DUE.is("behind 1", x.then(0, 1, 0), 1);
        DUE.is("behind 59", x.then(0, 59, 0), 1);
        DUE.is("behind 60", x.then(0, 60, 0), 0);
        HedgeWants run = Due.of("person 0;firm 0 0;runs 2 * (day = 0 or day = 59);");
        DUE.is("RUN behind 0", run.then(0, 0, 1), 0);
        DUE.is("RUN behind 1", run.then(0, 1, 1), 1);
        DUE.is("RUN behind 59", run.then(0, 59, 1), 1);
        DUE.is("RUN behind 60", run.then(0, 60, 1), 2);
        HedgeWants many = Due.of("person 0;".repeat(8) + "thing 0 9 9 9 9 9 9 9 9;wants day = 0 or day = 60;");
        DUE.is("how many behind 0", many.then(0, 0, 2), 7);
        DUE.is("how many behind 1", many.then(0, 1, 2), 0);
        DUE.is("how many behind 60", many.then(0, 60, 2), 7);

        DUE.sentence("how many WANT it (2). NoSuchElementException: also another what. IllegalArgumentException (behind that): not 0 to 60.");
        DUE.bars("then(0, -1, 0)", () -> x.then(0, -1, 0));
        DUE.bars("then(0, 61, 2)", () -> x.then(0, 61, 2));
        DUE.bars("then(0, least, 1)", () -> x.then(0, Integer.MIN_VALUE, 1));
        DUE.bars("then(0, most, 1)", () -> x.then(0, Integer.MAX_VALUE, 1));
        DUE.lacks("then(0, 0, 3)", () -> x.then(0, 0, 3));
        DUE.lacks("then(0, 0, -1)", () -> x.then(0, 0, -1));
        DUE.lacks("then(0, 61, 3)", () -> x.then(0, 61, 3));
        DUE.lacks("then(1, 61, 0)", () -> x.then(1, 61, 0));
        DUE.lacks("then(1, 0, 0)", () -> x.then(1, 0, 0));
        DUE.lacks("then(-1, 0, 0)", () -> x.then(-1, 0, 0));
    }

    private static void has() {
        DUE.sentence("How many THINGS a PERSON has then; their WORTH to that one, together.");
        HedgeWants x = Due.of(TWO + "thing 0 9 8;".repeat(12) + on(59));
        DUE.is("all twelve behind 0", x.has(0, 0, 0), 12);
        DUE.is("their WORTH", x.has(0, 0, 1), 108);
        DUE.is("none", x.has(1, 0, 0), 0);
        DUE.is("no WORTH", x.has(1, 59, 1), 0);
        DUE.is("all twelve behind 60", x.has(1, 60, 0), 12);
        DUE.is("their WORTH to the other one", x.has(1, 60, 1), 96);

        DUE.sentence("their WORTH (1). NoSuchElementException: also another what. IllegalArgumentException (behind that): not 0 to 60.");
        DUE.bars("has(0, -1, 0)", () -> x.has(0, -1, 0));
        DUE.bars("has(0, 61, 1)", () -> x.has(0, 61, 1));
        DUE.lacks("has(0, 0, 2)", () -> x.has(0, 0, 2));
        DUE.lacks("has(0, 0, -1)", () -> x.has(0, 0, -1));
        DUE.lacks("has(0, 61, 2)", () -> x.has(0, 61, 2));
        DUE.lacks("has(2, 61, 0)", () -> x.has(2, 61, 0));
        DUE.lacks("has(2, 0, 0)", () -> x.has(2, 0, 0));
        DUE.lacks("has(-1, 0, 0)", () -> x.has(-1, 0, 0));
    }

    private static void kept() {
        DUE.sentence("KEPT: behind how many DAYS (1 to 60) a THING is first TAKEN; none.");
        DUE.is("on the first DAY", Due.of(TURNS + on(0)).kept(0), 1);
        DUE.is("on the 60th", Due.of(TURNS + on(59)).kept(0), 60);
        DUE.is("on the 61st", Due.of(TURNS + on(60)).kept(0), -1);
        DUE.is("never", Due.of(TURNS + on()).kept(0), -1);
        DUE.is("first", Due.of(TURNS + on(7, 9)).kept(0), 8);
        HedgeWants x = Due.of(TURNS + on(60));
        x.days(1);
        DUE.is("on the 60th from now on", x.kept(0), 60);
        DUE.lacks("kept(1)", () -> x.kept(1));
        DUE.lacks("kept(-1)", () -> x.kept(-1));
    }

    private static void held() {
        DUE.sentence("HELD: for how many of so many DAYS (1 to 60), each counted, a PERSON has a THING at the end.");
        HedgeWants x = Due.of(TURNS + on(0, 59));
        DUE.is("of 1 by the one", x.held(0, 0, 1), 0);
        DUE.is("of 1 by the other one", x.held(1, 0, 1), 1);
        DUE.is("of 59", x.held(1, 0, 59), 59);
        DUE.is("of 60", x.held(1, 0, 60), 59);
        DUE.is("of 60 by the one", x.held(0, 0, 60), 1);
        DUE.is("all 60", Due.of(TURNS + on()).held(0, 0, 60), 60);
        DUE.is("none of 60", Due.of(TURNS + on()).held(1, 0, 60), 0);

        DUE.sentence("HELD. IllegalArgumentException (behind NoSuchElementException): not 1 to 60.");
        DUE.bars("held(0, 0, 0)", () -> x.held(0, 0, 0));
        DUE.bars("held(0, 0, 61)", () -> x.held(0, 0, 61));
        DUE.bars("held(0, 0, -1)", () -> x.held(0, 0, -1));
        DUE.lacks("held(2, 0, 0)", () -> x.held(2, 0, 0));
        DUE.lacks("held(-1, 0, 1)", () -> x.held(-1, 0, 1));
        DUE.lacks("held(0, 1, 61)", () -> x.held(0, 1, 61));
        DUE.lacks("held(0, -1, 1)", () -> x.held(0, -1, 1));
    }

    private static void taken() {
        DUE.sentence("TAKEN in so many DAYS (0 to 60): how often a THING is");
        HedgeWants x = Due.of(TURNS + on(0, 59));
        DUE.is("in none", x.taken(0, 0), 0);
        DUE.is("in 1", x.taken(0, 1), 1);
        DUE.is("in 59", x.taken(0, 59), 1);
        DUE.is("in 60", x.taken(0, 60), 2);
        DUE.is("each DAY", Due.of(TURNS).taken(0, 60), 60);
        DUE.is("not the 61st", Due.of(TURNS + on(60)).taken(0, 60), 0);
        HedgeWants asked = Due.of(TWO + "thing 0 4 7;");
        asked.ask(1, 0);
        DUE.is("what was asked for isn't TAKEN", asked.taken(0, 60), 0);

        DUE.sentence("TAKEN: how often. IllegalArgumentException (behind NoSuchElementException): not 0 to 60.");
        DUE.bars("taken(0, -1)", () -> x.taken(0, -1));
        DUE.bars("taken(0, 61)", () -> x.taken(0, 61));
        DUE.lacks("taken(1, 61)", () -> x.taken(1, 61));
        DUE.lacks("taken(1, 0)", () -> x.taken(1, 0));
        DUE.lacks("taken(-1, 0)", () -> x.taken(-1, 0));
    }

    private static void takenMostOften() {
        DUE.sentence("how often all are; which is most often (of like ones the least); none.");
        HedgeWants x = Due.of(TWO + "thing 0 5 0;thing 0 5 7;thing 0 5 7;thing 0 9 9;");
        DUE.is("all in none", x.later(0, 0), 0);
        DUE.is("none in none", x.later(0, 1), -1);
        DUE.is("all in 1", x.later(1, 0), 3);
        DUE.is("of like ones", x.later(1, 1), 1);
        DUE.is("all in 60", x.later(60, 0), 62);
        DUE.is("most often in 60", x.later(60, 1), 3);
        DUE.is("none is", Due.of(TWO + "thing 0 5 4;").later(60, 1), -1);
        DUE.is("none without THINGS", Due.of(TWO).later(60, 1), -1);
        DUE.is("none of nobody", new HedgeWants().later(60, 1), -1);
        DUE.is("all twelve each DAY", Due.of(TWO + "thing 0 9 9;".repeat(12)).later(60, 0), 720);
        DUE.is("of twelve", Due.of(TWO + "thing 0 9 9;".repeat(12)).later(60, 1), 0);
    }

    private static void richest() {
        DUE.sentence("RICHEST then: the PERSON whose THINGS have most WORTH to that one (of like ones the least); none");
        HedgeWants x = Due.of(THREE + "thing 1 9 3 9;thing 2 9 9 4;" + "runs 3;wants day = 59 and look = 9 and bold;");
        DUE.is("behind 0", x.later(0, 2), 2);
        DUE.is("of like ones", Due.of(THREE + "thing 1 0 4 0;thing 2 0 0 4;").later(0, 2), 1);
        DUE.is("many little ones", Due.of(THREE + "thing 1 0 2 0;".repeat(3) + "thing 2 0 0 5;").later(60, 2), 1);
        DUE.is("who have nothing", Due.of(THREE).later(60, 2), 0);
        DUE.is("nobody", new HedgeWants().later(60, 2), -1);
        HedgeWants late = Due.of(TWO + "thing 0 5 7;" + on(59));
        DUE.is("behind 59", late.later(59, 2), 0);
        DUE.is("behind 60", late.later(60, 2), 1);
    }

    private static void whoHasNothing() {
        DUE.sentence("who has nothing then (bits).");
        HedgeWants late = Due.of(TWO + "thing 0 5 7;" + on(59));
        DUE.is("behind 0", late.later(0, 3), 2);
        DUE.is("behind 59", late.later(59, 3), 2);
        DUE.is("behind 60", late.later(60, 3), 1);
        DUE.is("all", Due.of("person 0;".repeat(8)).later(0, 3), 255);
        DUE.is("none", Due.of("person 0;thing 0 0;").later(0, 3), 0);
        DUE.is("nobody", new HedgeWants().later(60, 3), 0);
    }

    private static void calm() {
        DUE.sentence("CALM: on the how manyth DAY from now anything is TAKEN last within 60 DAYS (0: on none of them; none, if on the 60th).");
        DUE.is("on none", Due.of(TURNS + on()).rests(0), 0);
        DUE.is("on the 61st", Due.of(TURNS + on(60)).rests(0), 0);
        DUE.is("on the first", Due.of(TURNS + on(0)).rests(0), 1);
        DUE.is("on the 59th", Due.of(TURNS + on(0, 58)).rests(0), 59);
        DUE.is("on the 59th and the 61st", Due.of(TURNS + on(58, 60)).rests(0), 59);
        DUE.is("on the 60th", Due.of(TURNS + on(59)).rests(0), -1);
        DUE.is("on each", Due.of(TURNS).rests(0), -1);
        DUE.is("without THINGS", Due.of(TWO).rests(0), 0);
        DUE.is("the last of two THINGS", Due.of(TWO + "thing 0 5 7;thing 0 5 8;wants (look = 7 and day = 3) or (look = 8 and day = 5);").rests(0), 6);
        HedgeWants x = Due.of(TURNS + on(4));
        x.days(3);
        DUE.is("from now", x.rests(0), 2);
    }

    private static void round() {
        DUE.sentence("ROUND: behind how many DAYS (1 to 60) each THING has the OWNER it has now again, all at once, after one was another's, first; none (behind a DAY at whose end any had not).");
        DUE.is("first", Due.of(TURNS).rests(1), 2);
        DUE.is("on the 60th", Due.of(TURNS + on(0, 59)).rests(1), 60);
        DUE.is("on the 61st", Due.of(TURNS + on(0, 60)).rests(1), -1);
        DUE.is("none was another's", Due.of(TURNS + on()).rests(1), -1);
        DUE.is("later ones don't count", Due.of(TURNS + on(3, 5, 6, 9)).rests(1), 6);
        DUE.is("never back", Due.of(TURNS + on(3)).rests(1), -1);
        DUE.is("without THINGS", Due.of(TWO).rests(1), -1);
        // The first one is back on even DAYS, the second one from the fifth DAY on.
        String both = "thing 0 9 9;thing 0 1 1;wants look = 9 - run or look + run = 1 and (day = 1 or day = 4);runs 0;";
        DUE.is("all at once", Due.of(TWO + both).rests(1), 6);
        HedgeWants x = Due.of(TURNS + on(0, 3));
        x.days(1);
        DUE.is("the OWNER it has now", x.rests(1), -1);
    }

    private static void laterAndRestsRefuse() {
        DUE.sentence("who has nothing (3; bits). NoSuchElementException: another what. IllegalArgumentException (behind that): not 0 to 60.");
        HedgeWants x = Due.of(STAYS);
        DUE.lacks("later(0, 4)", () -> x.later(0, 4));
        DUE.lacks("later(0, -1)", () -> x.later(0, -1));
        DUE.lacks("later(61, 4)", () -> x.later(61, 4));
        DUE.lacks("later(-1, -1)", () -> x.later(-1, -1));
        for (int what = 0; what < 4; what++) {
            int asked = what;
            DUE.bars("later(-1, " + what + ")", () -> x.later(-1, asked));
            DUE.bars("later(61, " + what + ")", () -> x.later(61, asked));
        }
        DUE.sentence("CALM (what 0), ROUND (1); NONE: none. NoSuchElementException: another what.");
        DUE.lacks("rests(2)", () -> x.rests(2));
        DUE.lacks("rests(-1)", () -> x.rests(-1));
    }

    private static void nothingChanges() {
        DUE.sentence("(If only DAYS go by, from now on:)");
        HedgeWants x = Due.of(TWO + "thing 0 9 9;thing 1 5 0;");
        x.days(1);
        x.spoil(0);
        x.then(0, 60, 0);
        x.kept(0);
        x.rests(0);
        x.toAsk(0, 60);
        x.toGive(1);
        x.shy(0, 5, 5);
        x.game(0, 1, 0);
        x.years(1, 60, 0);
        x.tastes(0);
        x.next(0);
        DUE.is("the DAY", x.count(2), 1);
        DUE.is("ACTS", x.count(11), 2);
        DUE.is("the OWNERS", x.person(1, 1), 1);
        DUE.is("RUN", x.count(10), 2);
        DUE.is("STATUS", x.count(15), 0);
    }

    // ---- promise 28 ----

    private static void toAsk() {
        DUE.sentence("TO ASK: the THING for which one should ASK now (one that one WANTS), so that THINGS that one has behind so many DAYS (1 to 60) have most WORTH to one, if more than without (of like ones the least); none.");
        // One WANTS while one has none; asking ahead of the DAY, one chooses.
        String choice = "wants own = 0;";
        DUE.is("the one of most WORTH", Due.of(TWO + "thing 0 9 3;thing 0 9 8;thing 0 9 5;" + choice).toAsk(1, 1), 1);
        DUE.is("of like ones", Due.of(TWO + "thing 0 9 3;thing 0 9 8;thing 0 9 8;" + choice).toAsk(1, 1), 1);
        DUE.is("as much as without", Due.of(TWO + "thing 0 9 8;thing 0 9 8;" + choice).toAsk(1, 1), -1);
        DUE.is("one more than without", Due.of(TWO + "thing 0 9 7;thing 0 9 8;" + choice).toAsk(1, 1), 1);
        DUE.is("less than without", Due.of(TWO + "thing 0 9 8;thing 0 9 7;" + choice).toAsk(1, 1), -1);
        DUE.is("nothing WANTED", Due.of(TWO + "thing 0 9 4;").toAsk(1, 60), -1);
        DUE.is("one's own", Due.of(TWO + "thing 0 9 4;").toAsk(0, 60), -1);
        DUE.is("without THINGS", Due.of(TWO).toAsk(1, 60), -1);
        DUE.is("the first THING", Due.of(TWO + "thing 0 9 8;thing 0 9 3;wants own = 0 and day;").toAsk(1, 1), -1);
        DUE.is("WANTED later isn't WANTED now", Due.of(STAYS + on(1)).toAsk(1, 1), -1);
        HedgeWants now = Due.of(STAYS + on(0, 59, 60));
        DUE.is("as without behind 1", now.toAsk(1, 1), -1);
        // Asked for now, it goes back on the first DAY and comes again on the 60th; without it is the other way.
        DUE.is("behind 59", now.toAsk(1, 59), -1);
        DUE.is("behind 60", now.toAsk(1, 60), 0);
        // 2 sees but 0, and would TAKE it from that one. Asked for by 1, it is RUN 0: 0 takes it back, if it is worth 5.
        String chain = THREE + "hedge 0 1;hedge 0 2;thing 0 ";
        DUE.is("RUN 0, it is TAKEN back", runTwice(chain + "5 8 9;").toAsk(1, 1), -1);
        DUE.is("RUN 0, it isn't TAKEN back", runTwice(chain + "4 8 9;").toAsk(1, 1), 0);
    }

    private static HedgeWants runTwice(String text) {
        HedgeWants x = Due.of(text);
        x.spoil(0);
        x.spoil(0);
        return x;
    }

    private static void toAskRefuses() {
        DUE.sentence("TO ASK; NONE: none. IllegalArgumentException (behind NoSuchElementException): not 1 to 60.");
        HedgeWants x = Due.of(STAYS);
        DUE.bars("toAsk(0, 0)", () -> x.toAsk(0, 0));
        DUE.bars("toAsk(0, 61)", () -> x.toAsk(0, 61));
        DUE.bars("toAsk(1, -1)", () -> x.toAsk(1, -1));
        DUE.lacks("toAsk(2, 0)", () -> x.toAsk(2, 0));
        DUE.lacks("toAsk(-1, 61)", () -> x.toAsk(-1, 61));
        DUE.lacks("toAsk(2, 1)", () -> x.toAsk(2, 1));
    }

    // ---- promise 29 ----

    private static void toGive() {
        DUE.sentence("TO GIVE: to whom, but its OWNER, a THING should be GIVEN now, so that it is TAKEN soonest, within 60 DAYS, if sooner than without (of like ones the least); none.");
        DUE.is("of like ones", Due.of(THREE + "thing 0 9 0 0;").toGive(0), 1);
        DUE.is("of like ones, not its OWNER", Due.of(THREE + "thing 1 0 9 0;").toGive(0), 0);
        DUE.is("as soon as without", Due.of(THREE + "thing 0 9 9 0;").toGive(0), -1);
        DUE.is("alone", Due.of("person 0;thing 0 9;").toGive(0), -1);
        DUE.is("never", Due.of(THREE + "thing 0 4 4 4;").toGive(0), -1);
        DUE.is("RUN as it is", run(4).toGive(0), 1);
        DUE.is("RUN too much", run(5).toGive(0), -1);
        HedgeWants x = Due.of(TWO + "thing 0 9 0;");
        DUE.lacks("toGive(1)", () -> x.toGive(1));
        DUE.lacks("toGive(-1)", () -> x.toGive(-1));
    }

    private static HedgeWants run(int run) {
        HedgeWants x = Due.of(TWO + "thing 0 9 0;");
        for (int i = 0; i < run; i++) {
            x.spoil(0);
        }
        return x;
    }

    private static void toGiveWithin() {
        DUE.sentence("so that it is TAKEN soonest, within 60 DAYS, if sooner than without");
        String look = TWO + "thing 1 0 9;wants look and day = ";
        DUE.is("on the 60th", Due.of(look + "59;").toGive(0), 0);
        DUE.is("on the 61st", Due.of(look + "60;").toGive(0), -1);
        // To 1: 0, of look 1, takes it on the 60th. Without: 1, of look 2, does on the 59th or later.
        String without = TWO + "thing 0 1 2;wants look = 1 and day = 59 or look = 2 and day = ";
        DUE.is("without on the 59th", Due.of(without + "58;").toGive(0), -1);
        DUE.is("without on the 60th, too", Due.of(without + "59;").toGive(0), -1);
        DUE.is("without on the 61st", Due.of(without + "60;").toGive(0), 1);
        HedgeWants three = Due.of(THREE + "hedge 0 1;hedge 1 2;thing 0 1 2 3;wants look = 2 and day = 9 or look = 1 and day = 7 or look = 3 and day = 5;");
        // Of 0: 1 on the tenth DAY. Of 1: 2 on the sixth. Of 2: 1 on the tenth.
        DUE.is("soonest", three.toGive(0), 1);
    }
}
