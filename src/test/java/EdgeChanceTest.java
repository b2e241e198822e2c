/** Boundaries that the document names, sentence by sentence: SHY, a GAME, YEARS, AN IMAGE (promises 34 to 38). */
public final class EdgeChanceTest {
    private static final Due DUE = new Due();
    private static final String TWO = "person 0;person 0;";
    private static final String THREE = "person 0;person 0;person 0;";
    private static final String STAYS = TWO + "thing 0 5 7;";
    private static final String TURNS = TWO + "thing 0 9 9;";

    public static void main(String[] args) {
        shyDays();
        stillOrAgain();
        nobodyWants();
        shyRefuses();
        tongues();
        theOtherDays();
        fourDays();
        neitherGainsMore();
        wantedInAGame();
        gameRefuses();
        years();
        yearsWithoutThings();
        yearsRefuse();
        oneDraw();
        noImage();
        imageKeepsAll();
        imageInPlaceOfAnother();
        fullImage();
        DUE.end();
    }

    // ---- promise 34 ----

    private static void shyDays() {
        DUE.sentence("SHY: each of so many DAYS (1 to 5) is shy with so many tenths (0 to 10)");
        HedgeWants x = Due.of(STAYS);
        int power = 1;
        for (int days = 1; days <= 5; days++) {
            power *= 10;
            DUE.is("always shy on " + days, x.shy(0, days, 10), power);
            DUE.is("never shy on " + days, x.shy(0, days, 0), 0);
        }
        for (int tenths = 0; tenths <= 10; tenths++) {
            DUE.is("one DAY of " + tenths, x.shy(0, 1, tenths), tenths);
            DUE.is("two DAYS of " + tenths, x.shy(0, 2, tenths), tenths * tenths);
            DUE.is("five DAYS of " + tenths, x.shy(0, 5, tenths), tenths * tenths * tenths * tenths * tenths);
        }
        HedgeWants never = Due.of(TWO + "thing 0 5 4;");
        DUE.is("nobody WANTS it", never.shy(0, 5, 3), 100000);
        DUE.is("alone", Due.of("person 0;thing 0 9;").shy(0, 1, 0), 10);
    }

    private static void stillOrAgain() {
        DUE.sentence("how likely a THING is still (or again) of the OWNER it has now behind them: as so many of 10 to the power of these DAYS.");
        HedgeWants x = Due.of(TURNS);
        // It changes hands on each DAY that isn't shy: it is 0's behind an even number of these.
        DUE.is("2 DAYS", x.shy(0, 2, 3), 9 + 49);
        DUE.is("3 DAYS", x.shy(0, 3, 3), 27 + 3 * 3 * 49);
        DUE.is("4 DAYS, never shy", x.shy(0, 4, 0), 10000);
        DUE.is("5 DAYS, never shy", x.shy(0, 5, 0), 0);
        x.days(1);
        DUE.is("the OWNER it has now", x.shy(0, 1, 4), 4);
        HedgeWants day = Due.of(TURNS + "wants day = 4;");
        DUE.is("on the fifth DAY", day.shy(0, 5, 3), 30000);
        DUE.is("not within four", day.shy(0, 4, 3), 10000);
    }

    private static void nobodyWants() {
        DUE.sentence("nobody WANTS anything on it ('wanted' is 0, too)");
        // On a shy DAY it is RUN down 3, and WANTED no more; else TAKEN.
        HedgeWants x = Due.of(TWO + "thing 0 0 7;runs 3 - 3 * wanted;");
        DUE.is("RUN on a shy DAY", x.shy(0, 2, 5), 50);
        HedgeWants y = Due.of(THREE + "thing 0 0 5 5;runs 3 * wanted;");
        DUE.is("not RUN on a shy DAY", y.shy(0, 2, 5), 25);
        HedgeWants none = Due.of(TURNS + "wants 1;");
        DUE.is("whatever WANTS gives", none.shy(0, 1, 10), 10);
        DUE.is("but on it: how many WANT it now", none.then(0, 0, 2), 1);
        DUE.is("but on it: TO SPOIL", Due.of(TURNS).thing(0, 5), 5);
        HedgeWants spoilt = Due.of(TURNS);
        spoilt.shy(0, 1, 10);
        DUE.is("TO SPOIL behind asking for it", spoilt.thing(0, 5), 5);
        spoilt.game(0, 1, 0);
        DUE.is("TO SPOIL behind a GAME", spoilt.thing(0, 5), 5);
    }

    private static void shyRefuses() {
        DUE.sentence("SHY. IllegalArgumentException (behind NoSuchElementException): days, tenths.");
        HedgeWants x = Due.of(STAYS);
        int[] days = {0, 6, -1, Integer.MIN_VALUE, Integer.MAX_VALUE};
        int[] tenths = {-1, 11, Integer.MIN_VALUE, Integer.MAX_VALUE};
        for (int d : days) {
            DUE.bars("shy(0, " + d + ", 5)", () -> x.shy(0, d, 5));
            DUE.lacks("shy(1, " + d + ", 5)", () -> x.shy(1, d, 5));
        }
        for (int t : tenths) {
            DUE.bars("shy(0, 1, " + t + ")", () -> x.shy(0, 1, t));
            DUE.lacks("shy(-1, 1, " + t + ")", () -> x.shy(-1, 1, t));
        }
    }

    // ---- promise 35 ----

    private static void tongues() {
        DUE.sentence("each HOLDS ONE'S TONGUE on the next DAY (WANTS nothing on it, for 'wanted', too), or not (1, 0): each gains WORTH to one of THINGS that one has behind 4 DAYS, and 2, if one HOLDS IT.");
        String once = TWO + "thing 0 0 ";
        // 1 gains the WORTH by taking it on the first DAY, or 2.
        DUE.is("WORTH 1 over 2", Due.of(once + "1;wants look and day = 0;").game(0, 1, 1), 11);
        DUE.is("WORTH 3 over 2", Due.of(once + "3;wants look and day = 0;").game(0, 1, 1), 10);
        DUE.is("WORTH 2 over 2, the first", Due.of(once + "2;wants look and day = 0;").game(0, 1, 1), 10);
        DUE.is("WORTH 2 over 2, how many", Due.of(once + "2;wants look and day = 0;").game(0, 1, 0), 2);
        DUE.is("WORTH 3 over 2, told the other way", Due.of(once + "3;wants look and day = 0;").game(1, 0, 1), 1);
        DUE.is("without THINGS", Due.of(TWO).game(0, 1, 1), 11);
        DUE.is("without THINGS, how many", Due.of(TWO).game(0, 1, 0), 1);
        // On the next DAY alone: on the second one 1 takes it, be what may.
        DUE.is("the next DAY alone", Due.of(once + "9;wants look and day < 2;runs 0;").game(0, 1, 1), 11);
    }

    private static void theOtherDays() {
        DUE.sentence("each HOLDS ONE'S TONGUE on the next DAY");
        // 0 TAKES it on the first DAY or, holding, on the second one; 1, who isn't BOLD, never WANTS it back.
        HedgeWants x = Due.of("person 1;person 0;thing 1 1 9;wants bold;runs 0;");
        DUE.is("one rests", x.game(0, 1, 0), 1);
        DUE.is("both hold", x.game(0, 1, 1), 11);
        DUE.is("both hold, told the other way", x.game(1, 0, 1), 11);
    }

    private static void fourDays() {
        DUE.sentence("THINGS that one has behind 4 DAYS");
        // 1 has it from the first DAY on, if that one doesn't hold; 0 takes it back on a later one.
        DUE.is("back on the fourth", Due.of(TURNS + "wants day = 0 or day = 3;").game(1, 0, 0), 1);
        DUE.is("back on the fourth, the first", Due.of(TURNS + "wants day = 0 or day = 3;").game(1, 0, 1), 11);
        DUE.is("back on the fifth", Due.of(TURNS + "wants day = 0 or day = 4;").game(1, 0, 1), 1);
        HedgeWants x = Due.of(TURNS + "wants day = 1 or day = 4;");
        x.days(1);
        DUE.is("from now on", x.game(1, 0, 1), 11);
    }

    private static void neitherGainsMore() {
        DUE.sentence("A couple RESTS, if neither gains more by the other choice: how many; the first (10 by the first one's, and the other one's).");
        HedgeWants all = Due.of(TWO + "thing 0 0 2;thing 1 2 0;wants day = 0 and look;");
        DUE.is("all four rest", all.game(0, 1, 0), 4);
        DUE.is("the first of four", all.game(0, 1, 1), 0);
        HedgeWants neither = Due.of(TWO + "thing 0 0 3;thing 1 3 0;wants day = 0 and look;");
        DUE.is("one rests", neither.game(0, 1, 0), 1);
        DUE.is("neither holds", neither.game(0, 1, 1), 0);
        HedgeWants none = Due.of("person 0;person 1;thing 1 4 6;thing 0 5 2;wants own = theirs;");
        DUE.is("none rests", none.game(0, 1, 0), 0);
        DUE.is("no first", none.game(0, 1, 1), -1);
    }

    private static void wantedInAGame() {
        DUE.sentence("(WANTS nothing on it, for 'wanted', too)");
        // 2, who is no player, TAKES it on the first DAY. If 1 WANTS it behind that, it isn't RUN, and 1 TAKES it on the second.
        HedgeWants x = Due.of(THREE + "thing 0 0 6 9;wants 4 < look and day < 2;runs 3 * (wanted = 0);");
        DUE.is("one rests", x.game(0, 1, 0), 1);
        DUE.is("0 holds, 1 doesn't", x.game(0, 1, 1), 10);
        DUE.is("1 doesn't, 0 holds", x.game(1, 0, 1), 1);
        DUE.is("both hold if it is RUN anyway", Due.of(THREE + "thing 0 0 6 9;wants 4 < look and day < 2;runs 3;").game(0, 1, 1), 11);
    }

    private static void gameRefuses() {
        DUE.sentence("NoSuchElementException: also another what. IllegalArgumentException (behind that): both are one.");
        HedgeWants x = Due.of(STAYS);
        DUE.bars("game(0, 0, 0)", () -> x.game(0, 0, 0));
        DUE.bars("game(1, 1, 1)", () -> x.game(1, 1, 1));
        DUE.lacks("game(1, 1, 2)", () -> x.game(1, 1, 2));
        DUE.lacks("game(0, 0, -1)", () -> x.game(0, 0, -1));
        DUE.lacks("game(2, 2, 0)", () -> x.game(2, 2, 0));
        DUE.lacks("game(-1, -1, 0)", () -> x.game(-1, -1, 0));
        DUE.lacks("game(2, 0, 0)", () -> x.game(2, 0, 0));
        DUE.lacks("game(0, 2, 0)", () -> x.game(0, 2, 0));
        DUE.lacks("game(0, -1, 1)", () -> x.game(0, -1, 1));
        DUE.lacks("game(0, 1, 2)", () -> x.game(0, 1, 2));
        DUE.lacks("game(0, 1, -1)", () -> x.game(0, 1, -1));
    }

    // ---- promise 36: YEARS are the same as ACTS by hand ----

    private long seed;

    private int draw(int n) {
        seed = seed * 1103515245 + 12345 & 0xffffffffL;
        return (int) ((seed >> 16 & 32767) % n);
    }

    private void byHand(String text, int firstSeed, int n) {
        HedgeWants x = Due.of(text);
        HedgeWants y = Due.of(text);
        seed = firstSeed & 0xffffffffL;
        int taken = 0;
        for (int day = 0; day < n; day++) {
            int what = draw(6);
            if (what < 3) {
                int thing = draw(y.count(1));
                if (what == 0) {
                    int person = draw(y.count(0));
                    y.taste(person, thing, draw(10));
                } else if (what == 1) {
                    y.mend(thing);
                } else {
                    y.give(thing, draw(y.count(0)));
                }
            }
            taken += y.later(1, 0);
            y.days(1);
        }
        String of = "years(" + firstSeed + ", " + n + ", ";
        DUE.is(of + "0) of " + text, x.years(firstSeed, n, 0), taken);
        DUE.is(of + "1) of " + text, x.years(firstSeed, n, 1), Integer.bitCount(y.later(0, 3)));
        DUE.is(of + "2) of " + text, x.years(firstSeed, n, 2), y.count(10));
    }

    private static void years() {
        DUE.sentence("YEARS by a seed: n DAYS (0 to 60) from now on: ahead of each a DRAW of 6");
        String[] texts = {STAYS, TURNS, "person 0;thing 0 5;runs 1;", THREE + "thing 0 3 6 1;firm 1 6 6 6;thing 2 9 5 0;runs wanted + 1;",
            "person 0;".repeat(8) + ("thing 0" + " 4".repeat(8) + ";").repeat(12) + "runs day - 3;"};
        int[] seeds = {0, 1, -1, 12345, Integer.MIN_VALUE, Integer.MAX_VALUE, 1103515245, -987654321};
        int[] days = {0, 1, 2, 59, 60};
        for (String text : texts) {
            for (int seed : seeds) {
                for (int n : days) {
                    new EdgeChanceTest().byHand(text, seed, n);
                }
            }
        }
        DUE.sentence("0 WORTH of a DRAW of THINGS to a DRAW of PEOPLE is a DRAW of 10 (drawn in this row); 1 a DRAW of THINGS is MENDED; 2 a DRAW of THINGS is GIVEN to a DRAW of PEOPLE (nothing, if it has it)");
        for (int seed = -100; seed < 100; seed++) {
            new EdgeChanceTest().byHand(texts[3] + "wants look - run = 1;", seed, 1);
            new EdgeChanceTest().byHand(texts[3], seed, 2);
        }
        DUE.sentence("how often any THING is TAKEN in these DAYS; how many have nothing at the end; how RUN down all are then, together.");
        HedgeWants now = Due.of(STAYS);
        now.days(1);
        now.spoil(0);
        DUE.is("TAKEN in no DAYS", now.years(1, 0, 0), 0);
        DUE.is("who has nothing now", now.years(1, 0, 1), 1);
        DUE.is("RUN now", now.years(1, 0, 2), 2);
    }

    private static void oneDraw() {
        DUE.sentence("A seed becomes itself times 1103515245 and 12345 (an int that wraps); a DRAW of n is its bits 16 to 30 MOD n then.");
        int[] due = {0, 21468, 9988, 22117, 3498, 16927, 16045, 19741};
        EdgeChanceTest draws = new EdgeChanceTest();
        draws.seed = 0;
        for (int d : due) {
            DUE.is("a DRAW of 32768", draws.draw(32768), d);
        }
        // So of the seed 0: the first THING's WORTH to 1 becomes 7; it is RUN down by that, kept to 3.
        HedgeWants x = Due.of(THREE + "thing 0 0 0 0;firm 0 0 0 0;firm 0 0 0 0;wants look = 7;runs worth;");
        DUE.is("TAKEN", x.years(0, 1, 0), 1);
        DUE.is("who has nothing", x.years(0, 1, 1), 1);
        DUE.is("RUN", x.years(0, 1, 2), 3);
    }

    private static void yearsWithoutThings() {
        DUE.sentence("(Without THINGS the DRAWS of 6 alone.)");
        HedgeWants x = Due.of(THREE);
        for (int seed = -20; seed < 20; seed++) {
            DUE.is("TAKEN", x.years(seed, 60, 0), 0);
            DUE.is("who has nothing", x.years(seed, 60, 1), 3);
            DUE.is("RUN", x.years(seed, 60, 2), 0);
        }
        DUE.is("nobody has nothing", new HedgeWants().years(7, 60, 1), 0);
    }

    private static void yearsRefuse() {
        DUE.sentence("YEARS: how often (what 0), how many (1), RUN (2). NoSuchElementException: another what. IllegalArgumentException (behind that): n.");
        HedgeWants x = Due.of(STAYS);
        int[] days = {-1, 61, Integer.MIN_VALUE, Integer.MAX_VALUE};
        for (int n : days) {
            DUE.bars("years(1, " + n + ", 0)", () -> x.years(1, n, 0));
            DUE.bars("years(1, " + n + ", 2)", () -> x.years(1, n, 2));
            DUE.lacks("years(1, " + n + ", 3)", () -> x.years(1, n, 3));
            DUE.lacks("years(1, " + n + ", -1)", () -> x.years(1, n, -1));
        }
        DUE.lacks("years(1, 0, 3)", () -> x.years(1, 0, 3));
        DUE.lacks("years(1, 60, -1)", () -> x.years(1, 60, -1));
    }

    // ---- promises 37 and 38 ----

    private static void noImage() {
        DUE.sentence("It is as the IMAGE again: true. False: there is none.");
        HedgeWants x = new HedgeWants();
        DUE.is("of a new object", x.restore(), false);
        x.image();
        x.days(3);
        DUE.is("of nobody", x.restore(), true);
        DUE.is("the DAY", x.count(2), 0);
        Due.read(x, STAYS);
        DUE.is("gone by a text", x.restore(), false);
        x.image();
        Due.read(x, "?");
        DUE.is("not by a FAULT", x.restore(), true);
        DUE.is("no STATUS by false", x.count(15), 0);
    }

    private static void imageKeepsAll() {
        DUE.sentence("AN IMAGE keeps all that DAYS and ACTS change, ACTS that are kept, what is SEEN, STATUS.");
        HedgeWants x = Due.of(THREE + "thing 0 5 7 0;thing 2 1 1 1;");
        x.days(1);
        x.spoil(1);
        x.days(0);
        x.see(0, 1, 1);
        x.see(0, 21, 1);
        Due.read(x, "?");
        x.image();
        x.days(2);
        x.give(1, 0);
        x.mend(1);
        x.taste(1, 0, 1);
        x.hedge(1, 2, false);
        x.undo();
        x.hedge(0, 1, false);
        x.hedge(0, 1, false);
        x.forget();
        x.see(1, 0, 0);
        x.see(1, 0, 0);
        x.see(1, 99, 0);
        Due.read(x, "  ?");
        Due.tape(x, "person 1;");
        DUE.is("restore()", x.restore(), true);
        DUE.is("the DAY", x.count(2), 1);
        DUE.is("the OWNER", x.thing(1, 0), 2);
        DUE.is("RUN", x.thing(1, 1), 1);
        DUE.is("WORTH", x.look(1, 0, 0), 7);
        DUE.is("HEDGES", x.count(9), 3);
        DUE.is("ACTS", x.count(11), 2);
        DUE.is("SEEN", x.count(12), 1);
        for (int status = 14; status <= 16; status++) {
            DUE.is("count(" + status + ")", x.count(status), 1);
        }
        DUE.is("what was SEEN", x.tastes(2), 1);
        DUE.is("the tape isn't of it", x.count(13), 20);
        DUE.is("nor the FAULT's place", x.fault(), 2);
        DUE.is("undo()", x.undo(), 1);
        DUE.is("RUN", x.thing(1, 1), 0);
        DUE.is("undo() of the DAY", x.undo(), 0);
        DUE.is("the OWNER ahead of it", x.thing(0, 0), 0);
    }

    private static void imageInPlaceOfAnother() {
        DUE.sentence("AN IMAGE is kept, in place of another one.");
        HedgeWants x = Due.of(STAYS);
        x.image();
        x.days(1);
        x.image();
        x.days(1);
        DUE.is("restore()", x.restore(), true);
        DUE.is("the later one", x.count(2), 1);
        x.days(5);
        DUE.is("restore() again", x.restore(), true);
        DUE.is("the same one", x.count(2), 1);
        DUE.is("restore() at once", x.restore(), true);
        DUE.is("it stays", x.count(2), 1);
        x.undo();
        x.restore();
        DUE.is("undoing leaves the image", x.count(11), 1);
    }

    private static void fullImage() {
        DUE.sentence("ACTS that are kept, what is SEEN, STATUS.");
        HedgeWants x = Due.of("person 0;thing 0 0;");
        for (int i = 0; i < 42; i++) {
            x.days(1);
        }
        for (int i = 0; i < 8; i++) {
            x.see(0, i, 0);
        }
        x.image();
        for (int i = 0; i < 40; i++) {
            x.spoil(0);
            x.mend(0);
        }
        x.forget();
        x.restore();
        DUE.is("ACTS", x.count(11), 40);
        DUE.is("SEEN", x.count(12), 8);
        for (int left = 39; left >= 0; left--) {
            DUE.is("undo()", x.undo(), left);
            DUE.is("the DAY", x.count(2), left + 2);
        }
        DUE.is("none more", x.undo(), -1);
        x.restore();
        DUE.is("ACTS again", x.count(11), 40);
        DUE.is("the DAY again", x.count(2), 42);
    }
}
