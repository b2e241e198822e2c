/** Promises 34 to 38: SHY, a GAME, YEARS, AN IMAGE. */
public final class ChanceTest {
    private static final Due DUE = new Due();
    private static final String STAYS = "person 0;person 0;thing 0 5 7;";
    private static final String TURNS = "person 0;person 0;thing 0 9 9;";

    public static void main(String[] args) {
        shying();
        gaming();
        years();
        images();
        DUE.end();
    }

    private static void shying() {
        HedgeWants turns = Due.of(TURNS);
        DUE.is("one DAY", turns.shy(0, 1, 3), 3);
        DUE.is("two DAYS: both, or none (again)", turns.shy(0, 2, 3), 9 + 49);
        DUE.is("never shy", turns.shy(0, 2, 0), 100);
        DUE.is("never shy, three DAYS", turns.shy(0, 3, 0), 0);
        DUE.is("always shy", turns.shy(0, 5, 10), 100000);
        DUE.is("it stays", Due.of(STAYS).shy(0, 2, 3), 9);
        HedgeWants run = Due.of("person 0;person 0;thing 0 0 7;runs 3 - wanted * 3;");
        DUE.is("'wanted' is 0: RUN on a shy DAY", run.shy(0, 2, 5), 50);
        DUE.lacks("shy(1, 9, 99)", () -> run.shy(1, 9, 99));
        DUE.bars("shy(0, 0, 5)", () -> run.shy(0, 0, 5));
        DUE.bars("shy(0, 6, 5)", () -> run.shy(0, 6, 5));
        DUE.bars("shy(0, 1, 11)", () -> run.shy(0, 1, 11));
        DUE.bars("shy(0, 1, -1)", () -> run.shy(0, 1, -1));
    }

    private static void gaming() {
        HedgeWants turns = Due.of(TURNS);
        // 0 gains 9, 0, 11, 2 and 1 gains 0, 11, 0, 11 by 00, 01, 10, 11.
        DUE.is("couples that rest", turns.game(0, 1, 0), 1);
        DUE.is("the first", turns.game(0, 1, 1), 11);
        HedgeWants once = Due.of(STAYS + "wants day = 0 and 4 < look;");
        // 1 gains 7 by taking on the first DAY alone, 2 by holding; 0 gains 2 by holding.
        DUE.is("one rests", once.game(0, 1, 0), 1);
        DUE.is("0 holds, 1 doesn't", once.game(0, 1, 1), 10);
        DUE.is("1 doesn't, 0 holds", once.game(1, 0, 1), 1);
        HedgeWants two = Due.of("person 0;person 0;thing 0 0 2;wants day = 0;");
        // 1 gains 2 either way: 10 and 11 rest.
        DUE.is("two rest", two.game(0, 1, 0), 2);
        DUE.is("the first of two", two.game(0, 1, 1), 10);
        DUE.is("two rest for the other one, too", two.game(1, 0, 0), 2);
        DUE.is("the first of two for the other one", two.game(1, 0, 1), 1);
        HedgeWants neither = Due.of("person 0;person 0;thing 0 0 9;thing 1 9 0;wants day = 0 and look;");
        // Each gains 9 by taking, 2 by holding.
        DUE.is("one rests where neither holds", neither.game(0, 1, 0), 1);
        DUE.is("neither holds", neither.game(0, 1, 1), 0);
        DUE.is("on the fourth DAY it goes back", Due.of(TURNS + "wants day = 0 or day = 3;").game(0, 1, 1), 11);
        DUE.is("the fifth DAY is too late", Due.of(TURNS + "wants day = 0 or day = 4;").game(0, 1, 1), 10);
        DUE.is("the sixth DAY is too late", Due.of(TURNS + "wants day = 0 or day = 5;").game(0, 1, 1), 10);
        DUE.lacks("game(2, 0, 0)", () -> two.game(2, 0, 0));
        DUE.lacks("game(0, 2, 0)", () -> two.game(0, 2, 0));
        DUE.lacks("game(0, 0, 2)", () -> two.game(0, 0, 2));
        DUE.lacks("game(0, 1, -1)", () -> two.game(0, 1, -1));
        DUE.bars("game(1, 1, 1)", () -> two.game(1, 1, 1));
        // 0 gains 9, 9, 2, 11 and 1 gains 0, 2, 8, 2 by 00, 01, 10, 11.
        HedgeWants none = Due.of("person 0;person 1;thing 1 4 6;thing 0 5 2;wants own = theirs;");
        DUE.is("none rests", none.game(0, 1, 0), 0);
        DUE.is("no first", none.game(0, 1, 1), -1);
    }

    private static void years() {
        HedgeWants x = Due.of(STAYS);
        year(x, 27, 1, 1, 1);   // WORTH to 1 is 8
        year(x, 9, 0, 1, 0);    // WORTH to 1 is 1
        year(x, 1, 1, 1, 1);    // a gift to 1, whom 0 TAKES it from
        for (int i = 0; i < 3; i++) {
            x.spoil(0);
        }
        year(x, 1, 0, 1, 3);    // a gift, RUN as it is
        year(x, 5, 1, 1, 1);    // MENDED
        year(x, 3, 0, 1, 3);    // nothing
        year(x, 15, 0, 1, 3);   // a gift to the one who has it
        DUE.is("no DAYS", x.years(27, 0, 0), 0);
        DUE.is("who has nothing now", x.years(27, 0, 1), 1);
        DUE.is("RUN now", x.years(27, 0, 2), 3);
        DUE.is("all stays", x.count(10), 3);
        DUE.is("the DAY stays", x.count(2), 0);
        HedgeWants still = Due.of(STAYS + "wants 0;");
        still.spoil(0);
        still.spoil(0);
        year(still, 5, 0, 1, 0);    // MENDED
        year(still, 11, 0, 1, 2);   // nothing
        HedgeWants given = Due.of("person 0;person 0;thing 0 5 4;");
        year(given, 1, 1, 1, 0);    // a gift to 1, whom 0 TAKES it from
        year(given, 11, 0, 1, 0);   // nothing: a DRAW of 3
        year(given, 7, 0, 1, 0);    // nothing: a DRAW of 4
        HedgeWants bare = Due.of("person 0;person 0;");
        DUE.is("without THINGS", bare.years(-7, 60, 0), 0);
        DUE.is("all have nothing", bare.years(-7, 60, 1), 2);
        DUE.is("nothing is RUN", bare.years(-7, 60, 2), 0);
        DUE.lacks("years(1, 99, 3)", () -> x.years(1, 99, 3));
        DUE.lacks("years(1, 1, -1)", () -> x.years(1, 1, -1));
        DUE.bars("years(1, 61, 0)", () -> x.years(1, 61, 0));
        DUE.bars("years(1, -1, 0)", () -> x.years(1, -1, 0));
    }

    private static void year(HedgeWants x, int seed, int taken, int bare, int run) {
        DUE.is("TAKEN in the year of " + seed, x.years(seed, 1, 0), taken);
        DUE.is("who has nothing in the year of " + seed, x.years(seed, 1, 1), bare);
        DUE.is("RUN in the year of " + seed, x.years(seed, 1, 2), run);
    }

    private static void images() {
        HedgeWants x = Due.of(STAYS);
        DUE.is("no image", x.restore(), false);
        x.spoil(0);
        x.see(0, 1, 1);
        x.mend(0);
        x.mend(0);
        x.see(0, 99, 1);
        x.image();
        x.days(3);
        x.taste(0, 0, 9);
        x.hedge(0, 1, false);
        x.hedge(0, 1, false);
        x.forget();
        Due.read(x, "?");
        DUE.is("restore", x.restore(), true);
        DUE.is("the DAY", x.count(2), 0);
        DUE.is("WORTH", x.look(0, 0, 0), 5);
        DUE.is("HEDGES", x.count(9), 1);
        DUE.is("ACTS", x.count(11), 2);
        DUE.is("SEEN", x.count(12), 1);
        DUE.is("STATUS 0", x.count(14), 0);
        DUE.is("STATUS 1", x.count(15), 1);
        DUE.is("STATUS 2", x.count(16), 1);
        DUE.is("ACTS are UNDONE", x.undo(), 1);
        DUE.is("RUN as ahead of it", x.thing(0, 1), 1);
        x.undo();
        x.spoil(0);
        DUE.is("again", x.restore(), true);
        DUE.is("ACTS again", x.undo(), 1);
        DUE.is("RUN again", x.thing(0, 1), 1);
        x.restore();
        x.undo();
        x.undo();
        x.give(0, 1);
        x.spoil(0);
        x.forget();
        x.see(0, 0, 1);
        x.restore();
        DUE.is("what is SEEN again", x.tastes(2), 1);
        x.undo();
        DUE.is("ACTS of the image, not later ones", x.thing(0, 0), 0);
        x.image();
        x.days(1);
        x.restore();
        DUE.is("the later image", x.count(11), 1);
    }
}
