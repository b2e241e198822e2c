/** Promises 17 to 23: if only DAYS go by. */
public final class LaterTest {
    private static final Due DUE = new Due();
    /** 1 takes it; then it is RUN down 1, and 0 WANTS it no more. */
    private static final String STAYS = "person 0;person 0;thing 0 5 7;";
    /** Each takes it from the other one, day by day. */
    private static final String TURNS = "person 0;person 0;thing 0 9 9;";
    private static final String BARE = "person 0;person 0;";

    public static void main(String[] args) {
        thens();
        having();
        keeping();
        holding();
        taking();
        most();
        resting();
        refusing();
        DUE.end();
    }

    private static void thens() {
        HedgeWants x = Due.of(TURNS);
        for (int days = 0; days <= 60; days++) {
            DUE.is("OWNER behind " + days, x.then(0, days, 0), days % 2);
            DUE.is("RUN behind " + days, x.then(0, days, 1), days == 0 ? 0 : 1);
            DUE.is("how many WANT it behind " + days, x.then(0, days, 2), 1);
        }
        DUE.is("the DAY stays", x.count(2), 0);
        x.days(1);
        DUE.is("from now on", x.then(0, 1, 0), 0);
        DUE.is("none WANT it", Due.of(STAYS).then(0, 1, 2), 0);
        HedgeWants day = Due.of(STAYS + "wants day = 3;");
        DUE.is("by the DAY", day.then(0, 3, 0), 0);
        DUE.is("on the DAY", day.then(0, 4, 0), 1);
        day.days(2);
        DUE.is("by the DAY it is", day.then(0, 2, 0), 1);
    }

    private static void having() {
        HedgeWants x = Due.of("person 0;person 0;thing 0 5 7;thing 1 4 3;");
        DUE.is("THINGS now", x.has(1, 0, 0), 1);
        DUE.is("their WORTH now", x.has(1, 0, 1), 3);
        DUE.is("THINGS then", x.has(1, 1, 0), 2);
        DUE.is("their WORTH then", x.has(1, 60, 1), 10);
        DUE.is("no THINGS then", x.has(0, 60, 0), 0);
        DUE.is("no WORTH then", x.has(0, 60, 1), 0);
    }

    private static void keeping() {
        DUE.is("TAKEN at once", Due.of(STAYS).kept(0), 1);
        DUE.is("TAKEN on no DAY", Due.of("person 0;person 0;thing 0 5 4;").kept(0), -1);
        DUE.is("TAKEN on the 60th", Due.of(STAYS + "wants day = 59;").kept(0), 60);
        DUE.is("TAKEN on the 59th", Due.of(STAYS + "wants day = 58;").kept(0), 59);
        DUE.is("not within 60", Due.of(STAYS + "wants day = 60;").kept(0), -1);
    }

    private static void holding() {
        HedgeWants x = Due.of(TURNS);
        DUE.is("held by 1", x.held(1, 0, 5), 3);
        DUE.is("held by 0", x.held(0, 0, 5), 2);
        DUE.is("held at the end of the first", x.held(0, 0, 1), 0);
        DUE.is("held for 60", Due.of(STAYS).held(1, 0, 60), 60);
    }

    private static void taking() {
        HedgeWants x = Due.of(TURNS + "thing 0 3 8;");
        DUE.is("in none", x.taken(0, 0), 0);
        DUE.is("each DAY", x.taken(0, 60), 60);
        DUE.is("once", x.taken(1, 60), 1);
        x.days(4);
        DUE.is("those gone by don't count", x.taken(1, 60), 0);
        x.give(0, 1 - x.thing(0, 0));
        DUE.is("a gift doesn't count", x.taken(0, 0), 0);
    }

    private static void most() {
        HedgeWants x = Due.of("person 0;person 0;person 0;thing 0 3 8 0;thing 0 9 9 0;thing 0 9 9 0;");
        DUE.is("all", x.later(3, 0), 7);
        DUE.is("most often", x.later(3, 1), 1);
        DUE.is("of like ones the least", x.later(1, 1), 0);
        DUE.is("none in no DAYS", x.later(0, 1), -1);
        DUE.is("none in no DAYS, all", x.later(0, 0), 0);
        DUE.is("RICHEST now", x.later(0, 2), 0);
        DUE.is("RICHEST then", x.later(1, 2), 1);
        DUE.is("who has nothing now", x.later(0, 3), 6);
        DUE.is("who has nothing then", x.later(1, 3), 5);
        DUE.is("RICHEST of like ones", Due.of(BARE).later(9, 2), 0);
        DUE.is("RICHEST of nobody", new HedgeWants().later(9, 2), -1);
        DUE.is("all have nothing", Due.of(BARE).later(9, 3), 3);
        DUE.is("by WORTH to each", Due.of(BARE + "thing 0 2 9;thing 1 9 3;wants 0;").later(9, 2), 1);
    }

    private static void resting() {
        DUE.is("CALM behind the first", Due.of(STAYS).rests(0), 1);
        DUE.is("CALM at once", Due.of(BARE + "thing 0 5 4;").rests(0), 0);
        DUE.is("no CALM", Due.of(TURNS).rests(0), -1);
        DUE.is("CALM behind the 59th", Due.of(STAYS + "wants day = 3 or day = 58;").rests(0), 59);
        DUE.is("no CALM on the 60th", Due.of(STAYS + "wants day = 59;").rests(0), -1);
        DUE.is("ROUND", Due.of(TURNS).rests(1), 2);
        DUE.is("no ROUND", Due.of(STAYS).rests(1), -1);
        DUE.is("no ROUND if none was another's", Due.of(BARE + "thing 0 5 4;").rests(1), -1);
        DUE.is("ROUND all at once", Due.of(TURNS + "thing 0 3 8;").rests(1), -1);
        DUE.is("ROUND on the 60th", Due.of(STAYS + "wants day = 0 or day = 59;").rests(1), 60);
        DUE.is("ROUND behind some", Due.of(STAYS + "wants day = 1 or day = 7;").rests(1), 8);
    }

    private static void refusing() {
        HedgeWants x = Due.of(STAYS);
        DUE.lacks("then(1, 0, 0)", () -> x.then(1, 0, 0));
        DUE.lacks("then(0, 99, 3)", () -> x.then(0, 99, 3));
        DUE.lacks("then(0, 0, -1)", () -> x.then(0, 0, -1));
        DUE.bars("then(0, 61, 0)", () -> x.then(0, 61, 0));
        DUE.bars("then(0, -1, 2)", () -> x.then(0, -1, 2));
        DUE.lacks("has(2, 0, 0)", () -> x.has(2, 0, 0));
        DUE.lacks("has(0, 99, 2)", () -> x.has(0, 99, 2));
        DUE.bars("has(0, 61, 0)", () -> x.has(0, 61, 0));
        DUE.bars("has(0, -1, 0)", () -> x.has(0, -1, 0));
        DUE.lacks("kept(1)", () -> x.kept(1));
        DUE.lacks("kept(-1)", () -> x.kept(-1));
        DUE.lacks("held(2, 0, 0)", () -> x.held(2, 0, 0));
        DUE.lacks("held(0, 1, 0)", () -> x.held(0, 1, 0));
        DUE.bars("held(0, 0, 0)", () -> x.held(0, 0, 0));
        DUE.bars("held(0, 0, 61)", () -> x.held(0, 0, 61));
        DUE.lacks("taken(1, 99)", () -> x.taken(1, 99));
        DUE.bars("taken(0, 61)", () -> x.taken(0, 61));
        DUE.bars("taken(0, -1)", () -> x.taken(0, -1));
        DUE.lacks("later(99, 4)", () -> x.later(99, 4));
        DUE.lacks("later(0, -1)", () -> x.later(0, -1));
        DUE.bars("later(61, 3)", () -> x.later(61, 3));
        DUE.bars("later(-1, 0)", () -> x.later(-1, 0));
        DUE.lacks("rests(2)", () -> x.rests(2));
        DUE.lacks("rests(-1)", () -> x.rests(-1));
    }
}
