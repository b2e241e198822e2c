/** Promises 30 to 33: what is SEEN, TASTES, LOOK NEXT. */
public final class SeenTest {
    private static final Due DUE = new Due();
    private static final String STAYS = "person 0;person 0;thing 0 5 7;";

    public static void main(String[] args) {
        seeing();
        tasting();
        fromNowOn();
        lookingNext();
        refusing();
        DUE.end();
    }

    private static void seeing() {
        HedgeWants x = Due.of(STAYS);
        for (int i = 1; i <= 8; i++) {
            DUE.is("see", x.see(0, 20, 1), i);
        }
        DUE.is("a ninth", x.see(0, 1, 1), -1);
        DUE.is("STATUS", x.count(16), 1);
        DUE.is("ACTS refused", x.count(15), 0);
        x.forget();
        DUE.is("forgotten", x.count(12), 0);
        DUE.is("see(0, 0, 0)", x.see(0, 0, 0), 1);
        DUE.is("see(0, 21, 0)", x.see(0, 21, 0), -1);
        DUE.is("see(0, -1, 0)", x.see(0, -1, 0), -1);
        DUE.is("STATUS", x.count(16), 3);
        DUE.is("no ACTS", x.count(11), 0);
        x.days(1);
        x.undo();
        DUE.is("ACTS leave it", x.count(12), 1);
    }

    private static void tasting() {
        HedgeWants x = Due.of(STAYS);
        DUE.is("all TASTES", x.tastes(0), 18);
        DUE.is("the first of all", x.tastes(1), 0);
        DUE.is("so without", x.tastes(2), 1);
        x.see(0, 1, 0);
        // 1 must not WANT it: WORTH 0 to 4 to that one.
        DUE.is("TASTES", x.tastes(0), 5);
        DUE.is("the first", x.tastes(1), 1000);
        DUE.is("not so without", x.tastes(2), 0);
        x.see(0, 0, 1);
        DUE.is("no TASTES", x.tastes(0), 0);
        DUE.is("no first", x.tastes(1), -1);
        x.forget();
        x.see(0, 2, 0);
        // 0 must TAKE it back on the second DAY, RUN 1 then: WORTH 6 to 9; or 1 never WANT it.
        DUE.is("TASTES of both", x.tastes(0), 9);
        DUE.is("the first of both", x.tastes(1), 6);
        x.see(0, 1, 1);
        DUE.is("TASTES by two SEEN", x.tastes(0), 4);
        HedgeWants y = Due.of("person 0;person 0;person 0;thing 0 0 4 0;thing 2 0 0 4;");
        y.see(1, 1, 1);
        // 1 must WANT the second one: WORTH 5 to 9.
        DUE.is("of another THING", y.tastes(0), 5);
        DUE.is("the first by PERSON, THING, WORTH", y.tastes(1), 1015);
        DUE.is("WORTH stays", y.look(1, 1, 0), 0);
    }

    private static void fromNowOn() {
        HedgeWants x = Due.of(STAYS);
        x.see(0, 0, 1);
        DUE.is("not so now", x.tastes(2), 0);
        x.days(1);
        DUE.is("so now", x.tastes(2), 1);
        DUE.is("by all TASTES", x.tastes(0), 18);
    }

    private static void lookingNext() {
        HedgeWants x = Due.of(STAYS);
        DUE.is("the THING", x.next(0), 0);
        DUE.is("two OWNERS", x.next(1), 2);
        x.see(0, 1, 0);
        DUE.is("the THING of one OWNER", x.next(0), 0);
        DUE.is("one OWNER", x.next(1), 1);
        x.see(0, 0, 1);
        DUE.is("none", x.next(0), -1);
        DUE.is("none at all", x.next(1), 0);
        HedgeWants y = Due.of("person 0;person 0;thing 0 0 0;thing 0 0 9;wants look and day < 1;runs 0;");
        y.see(0, 9, 0);
        // But one taste of 1 for the second one, 0, lets it stay; the first one must stay.
        DUE.is("the second THING", y.next(0), 1);
        DUE.is("of two OWNERS", y.next(1), 2);
        String one = "person 0;person 0;thing 0 0 0;thing 0 0 9;runs 0;wants look and ";
        DUE.is("behind 5 DAYS", Due.of(one + "day = 4;").next(1), 2);
        DUE.is("not behind 6", Due.of(one + "day = 5;").next(1), 1);
        HedgeWants z = Due.of(one + "day = 8;");
        z.see(0, 6, 0);
        DUE.is("behind 5 DAYS from now, not from what is SEEN", z.next(1), 1);
        DUE.is("without PEOPLE", new HedgeWants().next(0), -1);
        DUE.is("without THINGS", Due.of("person 0;").next(1), 0);
    }

    private static void refusing() {
        HedgeWants x = Due.of(STAYS);
        DUE.lacks("see(1, 99, 0)", () -> x.see(1, 99, 0));
        DUE.lacks("see(0, 99, 2)", () -> x.see(0, 99, 2));
        DUE.is("STATUS stays", x.count(16), 0);
        DUE.lacks("tastes(3)", () -> x.tastes(3));
        DUE.lacks("tastes(-1)", () -> x.tastes(-1));
        DUE.lacks("next(2)", () -> x.next(2));
        DUE.lacks("next(-1)", () -> x.next(-1));
    }
}
