/** Promises 24 to 29: ENVY, ONE EACH, HOW FAR, LOOK AWAY, TO ASK, TO GIVE. */
public final class ShareTest {
    private static final Due DUE = new Due();

    public static void main(String[] args) {
        envying();
        oneEach();
        farAndAway();
        toAsk();
        toGive();
        DUE.end();
    }

    private static void envying() {
        HedgeWants x = Due.of("person 0;person 0;person 0;hedge 0 1;thing 0 5 3 3;thing 1 3 5 2;thing 1 3 0 4;");
        DUE.is("0 envies 1: 6 over 5", x.envies(0, 1), true);
        DUE.is("1 doesn't envy 0: 3 over 5", x.envies(1, 0), false);
        DUE.is("2 envies 1 without a HEDGE", x.envies(2, 1), true);
        DUE.is("nobody envies one who has nothing", x.envies(1, 2), false);
        DUE.is("nobody envies oneself", x.envies(2, 2), false);
        DUE.is("couples", x.count(4), 3);
        x.spoil(1);
        DUE.is("as they LOOK: 5 over 5", x.envies(0, 1), false);
        x.spoil(0);
        x.spoil(0);
        DUE.is("one's own by WORTH", x.envies(0, 1), false);
        DUE.is("NO SWAP", x.count(7), 1);
        DUE.lacks("envies(3, 0)", () -> x.envies(3, 0));
        DUE.lacks("envies(0, -1)", () -> x.envies(0, -1));
    }

    private static void oneEach() {
        share("person 0;person 0;thing 0 5 5;thing 0 5 5;", 10, 0, 1);
        share("person 0;person 0;thing 0 5 5;thing 0 5 6;thing 1 5 6;", 11, 0, 1);
        share("person 0;person 0;thing 0 2 9;thing 0 1 7;", 10, 1, 0);
        share("person 0;person 0;person 0;thing 0 0 0 0;thing 0 0 0 0;", 0, 0, 1, -1);
        share("person 0;person 0;person 0;thing 0 0 0 9;thing 0 0 9 0;", 18, -1, 1, 0);
        share("person 0;thing 0 3;thing 0 4;thing 0 4;", 4, 1);
        share("person 0;person 0;", 0, -1, -1);
        share("", 0);
        share("person 0;".repeat(8) + ("thing 0" + " 9".repeat(8) + ";").repeat(12), 72, 0, 1, 2, 3, 4, 5, 6, 7);
        share("person 0;person 0;person 0;thing 0 3 3 0;thing 0 3 3 0;thing 0 0 0 1;thing 0 3 3 0;", 7, 0, 1, 2);
        HedgeWants less = Due.of("person 0;thing 0 3;thing 0 7;");
        DUE.is("ONE EACH", less.each(-1), 7);
        less.taste(0, 1, 0);
        DUE.is("ONE EACH of less", less.each(-1), 3);
        DUE.is("which one", less.each(0), 0);
        HedgeWants x = Due.of("person 0;thing 0 3;");
        DUE.lacks("each(1)", () -> x.each(1));
        DUE.lacks("each(-2)", () -> x.each(-2));
        DUE.lacks("each(0) of nobody", () -> new HedgeWants().each(0));
    }

    private static void share(String text, int worth, int... row) {
        HedgeWants x = Due.of(text);
        DUE.is("ONE EACH of " + text, x.each(-1), worth);
        for (int person = 0; person < row.length; person++) {
            DUE.is("ONE EACH for " + person + " of " + text, x.each(person), row[person]);
        }
    }

    private static void farAndAway() {
        HedgeWants x = Due.of("person 0;".repeat(5) + "hedge 0 1;hedge 1 2;hedge 2 3;");
        DUE.is("to oneself", x.far(2, 2), 0);
        DUE.is("side by side", x.far(1, 0), 1);
        DUE.is("over three", x.far(0, 3), 3);
        DUE.is("back", x.far(3, 0), 3);
        DUE.is("no way", x.far(0, 4), -1);
        DUE.is("PARTS", x.count(8), 2);
        DUE.is("side by side can't", x.away(0, 1), -1);
        DUE.is("oneself can't", x.away(4, 4), -1);
        DUE.is("one must", x.away(0, 2), 2);
        DUE.is("the least of two", x.away(0, 3), 2);
        DUE.is("no way anyway", x.away(4, 0), 0);
        HedgeWants y = Due.of("person 0;".repeat(8) + "hedge 0 1;hedge 0 2;hedge 1 7;hedge 2 7;hedge 2 3;hedge 3 7;hedge 0 4;hedge 4 5;hedge 5 7;");
        DUE.is("three ways", y.away(0, 7), 22);
        DUE.is("far over two", y.far(0, 7), 2);
        DUE.is("PARTS with one alone", y.count(8), 2);
        HedgeWants few = Due.of("person 0;".repeat(5) + "hedge 0 1;hedge 0 2;hedge 1 4;hedge 2 4;hedge 4 3;");
        DUE.is("the fewest, not the least", few.away(0, 3), 16);
        DUE.is("two of like many", few.away(0, 4), 6);
        HedgeWants line = Due.of("person 0;".repeat(8) + "hedge 0 1;hedge 1 2;hedge 2 3;hedge 3 4;hedge 4 5;hedge 5 6;hedge 6 7;");
        DUE.is("over seven", line.far(0, 7), 7);
        DUE.is("one PART", line.count(8), 1);
        DUE.lacks("far(5, 0)", () -> x.far(5, 0));
        DUE.lacks("far(0, -1)", () -> x.far(0, -1));
        DUE.lacks("away(-1, 0)", () -> x.away(-1, 0));
        DUE.lacks("away(0, 5)", () -> x.away(0, 5));
    }

    private static void toAsk() {
        // One takes while one has less: without asking 1 takes the first one, worth 3.
        HedgeWants x = Due.of("person 0;person 0;thing 0 1 3;thing 0 1 8;wants own < theirs;");
        DUE.is("without", x.has(1, 9, 1), 3);
        DUE.is("TO ASK", x.toAsk(1, 1), 1);
        DUE.is("TO ASK behind 60", x.toAsk(1, 60), 1);
        DUE.is("WANTS nothing", x.toAsk(0, 5), -1);
        DUE.is("nothing is asked", x.count(11), 0);
        HedgeWants like = Due.of("person 0;person 0;thing 0 1 3;thing 0 1 8;thing 0 1 8;thing 0 1 0;wants own < theirs;");
        // Without: 1 takes the first two, 11. Asking for either of worth 8: the first one, too: 11. Not more.
        DUE.is("not more", like.toAsk(1, 1), -1);
        HedgeWants two = Due.of("person 0;person 0;thing 0 1 3;thing 0 1 8;thing 0 1 8;wants own = 0 and theirs = 3;");
        DUE.is("of like ones the least", two.toAsk(1, 3), 1);
        DUE.is("what is TAKEN back", Due.of("person 0;person 0;thing 0 5 7;").toAsk(1, 1), -1);
        // 2 sees but 0, and would TAKE it from 0. Asked for, it is RUN 0, so that 0 TAKES it back if it is worth 5.
        String chain = "person 0;person 0;person 0;hedge 0 1;hedge 0 2;";
        HedgeWants back = Due.of(chain + "thing 0 5 8 9;");
        back.spoil(0);
        back.spoil(0);
        DUE.is("TAKEN back for it is RUN 0", back.toAsk(1, 1), -1);
        HedgeWants safe = Due.of(chain + "thing 0 4 8 9;");
        DUE.is("the first THING TO ASK", safe.toAsk(1, 1), 0);
        DUE.is("asking again for it", safe.toAsk(1, 1), 0);
        DUE.lacks("toAsk(2, 1)", () -> x.toAsk(2, 1));
        DUE.lacks("toAsk(-1, 99)", () -> x.toAsk(-1, 99));
        DUE.bars("toAsk(0, 0)", () -> x.toAsk(0, 0));
        DUE.bars("toAsk(0, 61)", () -> x.toAsk(0, 61));
    }

    private static void toGive() {
        HedgeWants x = Due.of("person 0;person 0;person 0;thing 0 9 3 3;thing 0 2 6 3;");
        DUE.is("TAKEN on no DAY", x.kept(0), -1);
        DUE.is("TO GIVE, the least", x.toGive(0), 1);
        DUE.is("TAKEN at once anyway", x.toGive(1), -1);
        DUE.is("nothing is given", x.count(11), 0);
        HedgeWants late = Due.of("person 0;person 2;person 1;thing 0 0 0 0;hedge 0 1;hedge 0 2;wants bold = 2 and day = 5 or bold = 1 and day = 3 or bold = 0 and day = 2;");
        // Of 0: taken on the fourth day by 2. Of 1: by 0 on the third. Of 2: by 0 on the third.
        DUE.is("sooner", late.toGive(0), 1);
        DUE.is("sooner, asked again", late.toGive(0), 1);
        HedgeWants first = Due.of("person 0;person 0;thing 1 3 9;");
        DUE.is("TO GIVE to the first one", first.toGive(0), 0);
        HedgeWants last = Due.of("person 0;person 0;thing 1 0 9;wants look and day = 59;");
        DUE.is("TAKEN on the 60th", last.toGive(0), 0);
        HedgeWants past = Due.of("person 0;person 0;thing 1 0 9;wants look and day = 60;");
        DUE.is("not within 60", past.toGive(0), -1);
        HedgeWants never = Due.of("person 0;person 0;thing 0 0 0;");
        DUE.is("never", never.toGive(0), -1);
        DUE.lacks("toGive(2)", () -> x.toGive(2));
        DUE.lacks("toGive(-1)", () -> x.toGive(-1));
    }
}
