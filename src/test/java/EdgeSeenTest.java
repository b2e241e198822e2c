/** Boundaries that the document names, sentence by sentence: what is SEEN, TASTES, LOOK NEXT (promises 30 to 33). */
public final class EdgeSeenTest {
    private static final Due DUE = new Due();
    private static final String TWO = "person 0;person 0;";
    private static final String THREE = "person 0;person 0;person 0;";
    private static final String EIGHT = "person 0;".repeat(8);
    private static final String STAYS = TWO + "thing 0 5 7;";

    public static void main(String[] args) {
        eightSeen();
        daysSeen();
        seenOfNone();
        forgotten();
        anotherWorth();
        firstTaste();
        allSeen();
        behindAllDays();
        fromNowOn();
        withoutAny();
        mostUnlikeOwners();
        behindFiveDays();
        anotherWhat();
        DUE.end();
    }

    // ---- promise 30 ----

    private static void eightSeen() {
        DUE.sentence("SEEN: how much is. NONE (STATUS 2): there are 8, not 0 to 20.");
        HedgeWants x = Due.of(STAYS);
        for (int seen = 1; seen <= 8; seen++) {
            DUE.is("see", x.see(0, 1, 1), seen);
        }
        DUE.is("a ninth", x.see(0, 1, 0), -1);
        DUE.is("a ninth not to be SEEN", x.see(0, 21, 0), -1);
        DUE.is("count(12)", x.count(12), 8);
        DUE.is("STATUS 2", x.count(16), 2);
        DUE.is("the ninth isn't kept", x.tastes(2), 1);
        DUE.is("STATUS 1", x.count(15), 0);
    }

    private static void daysSeen() {
        DUE.sentence("not 0 to 20.");
        HedgeWants x = Due.of(STAYS);
        int[] refused = {-1, 21, Integer.MIN_VALUE, Integer.MAX_VALUE};
        for (int i = 0; i < refused.length; i++) {
            DUE.is("see(0, " + refused[i] + ", 0)", x.see(0, refused[i], 0), -1);
            DUE.is("STATUS 2", x.count(16), i + 1);
        }
        DUE.is("count(12)", x.count(12), 0);
        DUE.is("see(0, 0, 0)", x.see(0, 0, 0), 1);
        DUE.is("see(0, 20, 1)", x.see(0, 20, 1), 2);
        DUE.is("both are so", x.tastes(2), 1);
        x.see(0, 0, 1);
        DUE.is("behind 0 it isn't 1's", x.tastes(2), 0);
    }

    private static void seenOfNone() {
        DUE.sentence("NoSuchElementException (ahead): no such THING, PERSON.");
        HedgeWants x = Due.of(STAYS);
        DUE.lacks("see(1, 0, 0)", () -> x.see(1, 0, 0));
        DUE.lacks("see(-1, 0, 0)", () -> x.see(-1, 0, 0));
        DUE.lacks("see(0, 0, 2)", () -> x.see(0, 0, 2));
        DUE.lacks("see(0, 0, -1)", () -> x.see(0, 0, -1));
        DUE.lacks("see(1, 21, 0)", () -> x.see(1, 21, 0));
        DUE.lacks("see(0, -1, 2)", () -> x.see(0, -1, 2));
        for (int i = 0; i < 8; i++) {
            x.see(0, 0, 0);
        }
        DUE.lacks("see(0, 0, 2) behind 8", () -> x.see(0, 0, 2));
        DUE.is("STATUS 2", x.count(16), 0);
    }

    private static void forgotten() {
        DUE.sentence("All that is SEEN is forgotten.");
        HedgeWants x = Due.of(STAYS);
        x.forget();
        DUE.is("of none", x.count(12), 0);
        for (int i = 0; i < 9; i++) {
            x.see(0, 0, 1);
        }
        DUE.is("not so", x.tastes(2), 0);
        x.forget();
        DUE.is("none SEEN", x.count(12), 0);
        DUE.is("so", x.tastes(2), 1);
        DUE.is("see", x.see(0, 20, 1), 1);
        DUE.is("STATUS 2 stays", x.count(16), 1);
        DUE.is("no ACT", x.count(11), 0);
    }

    // ---- promise 31 ----

    private static void anotherWorth() {
        DUE.sentence("TASTES: PEOPLE, THINGS (one's own, too) and WORTHS (0 to 9, another one than it is) by one of which from now on all SEEN would be so: how many");
        DUE.is("nothing SEEN", Due.of(STAYS).tastes(0), 18);
        DUE.is("nothing SEEN, at most", Due.of(EIGHT + ("thing 0" + " 1".repeat(8) + ";").repeat(12)).tastes(0), 864);
        DUE.is("WORTH 9 alone", seen(TWO + "thing 0 0 7;wants look = 9;", 0, 1, 1).tastes(0), 1);
        DUE.is("WORTH 9 alone, which", seen(TWO + "thing 0 0 7;wants look = 9;", 0, 1, 1).tastes(1), 1009);
        DUE.is("WORTH 0 alone, which", seen(TWO + "thing 0 7 7;wants look = 0;", 0, 1, 1).tastes(1), 1000);
        DUE.is("WORTH 0 alone", seen(TWO + "thing 0 7 7;wants look = 0;", 0, 1, 1).tastes(0), 1);
        // As it is, 1 TAKES it; that one's WORTH must stay, 0's, the OWNER's, may become any other.
        DUE.is("one's own", seen(TWO + "thing 0 4 9;wants look = 9 and day < 1;", 0, 1, 1).tastes(0), 9);
        DUE.is("none", seen(STAYS, 0, 0, 1).tastes(0), 0);
        DUE.is("WORTH stays", Due.of(STAYS).look(0, 0, 0), 5);
    }

    private static HedgeWants seen(String text, int thing, int days, int person) {
        HedgeWants x = Due.of(text);
        x.see(thing, days, person);
        return x;
    }

    private static void firstTaste() {
        DUE.sentence("the first (1000 by the PERSON, 10 by the THING, and WORTH); whether it is so without (1).");
        DUE.is("all of like ones", Due.of(STAYS).tastes(1), 0);
        DUE.is("it is 0", Due.of(TWO + "thing 0 0 7;").tastes(1), 1);
        HedgeWants last = Due.of(EIGHT + ("thing 0" + " 0".repeat(8) + ";").repeat(12) + "wants look = 9;");
        last.see(11, 1, 7);
        DUE.is("the last of all", last.tastes(1), 7119);
        DUE.is("alone", last.tastes(0), 1);
        DUE.is("not so without", last.tastes(2), 0);
        HedgeWants row = Due.of(TWO + "thing 0 0 0;thing 0 0 0;wants own = 0 and look;runs 0;");
        row.see(1, 1, 1);
        DUE.is("by the THING ahead of WORTH", row.tastes(1), 1011);
        HedgeWants none = seen(STAYS, 0, 0, 1);
        DUE.is("none", none.tastes(1), -1);
        DUE.is("none, not so without", none.tastes(2), 0);
        DUE.is("so without", seen(STAYS, 0, 1, 1).tastes(2), 1);
    }

    private static void allSeen() {
        DUE.sentence("by one of which from now on all SEEN would be so");
        HedgeWants x = Due.of(THREE + "thing 0 0 0 0;thing 0 0 0 0;");
        x.see(0, 1, 1);
        DUE.is("the one", x.tastes(0), 5);
        x.see(1, 1, 2);
        DUE.is("both by one taste", x.tastes(0), 0);
        x.forget();
        for (int i = 0; i < 7; i++) {
            x.see(0, 1, 1);
        }
        DUE.is("seven of like ones", x.tastes(0), 5);
        x.see(0, 1, 2);
        DUE.is("the eighth one counts", x.tastes(0), 0);
        x.forget();
        x.see(0, 1, 2);
        for (int i = 0; i < 7; i++) {
            x.see(0, 1, 1);
        }
        DUE.is("the first one counts", x.tastes(0), 0);
    }

    private static void behindAllDays() {
        DUE.sentence("SEEN (at most 8): whose a THING was behind so many DAYS (0 to 20).");
        String late = TWO + "thing 0 0 7;wants look and day = 19;runs 0;";
        DUE.is("behind 20", seen(late, 0, 20, 1).tastes(2), 1);
        DUE.is("behind 20, TASTES", seen(late, 0, 20, 1).tastes(0), 17);
        DUE.is("behind 20, the first", seen(late, 0, 20, 1).tastes(1), 1);
        DUE.is("not to be TAKEN on the 20th", seen(late, 0, 20, 0).tastes(0), 1);
        DUE.is("by its WORTH 0 to 1", seen(late, 0, 20, 0).tastes(1), 1000);
        DUE.is("behind 19", seen(late, 0, 19, 0).tastes(0), 18);
        DUE.is("behind 0, now", seen(late, 0, 0, 0).tastes(0), 18);
        HedgeWants first = seen(TWO + "thing 1 0 7;", 0, 1, 1);
        DUE.is("0 must not TAKE it", first.tastes(0), 13);
        DUE.is("0 must not TAKE it, the first", first.tastes(1), 1);
        HedgeWants two = seen(late, 0, 20, 1);
        two.see(0, 5, 1);
        DUE.is("a lesser one told behind it", two.tastes(0), 0);
    }

    private static void fromNowOn() {
        DUE.sentence("from now on all SEEN would be so");
        HedgeWants x = seen(TWO + "thing 0 0 7;wants look and day = 2;runs 0;", 0, 1, 1);
        DUE.is("on the DAY 0", x.tastes(2), 0);
        x.days(2);
        DUE.is("on the DAY 2", x.tastes(2), 1);
        x.undo();
        DUE.is("undone", x.tastes(2), 0);
    }

    // ---- promise 32 ----

    private static void withoutAny() {
        DUE.sentence("of most unlike OWNERS: how many; none without any.");
        HedgeWants none = seen(STAYS, 0, 0, 1);
        DUE.is("without TASTES", none.next(0), -1);
        DUE.is("without TASTES, how many", none.next(1), 0);
        DUE.is("without THINGS", Due.of(TWO).next(0), -1);
        DUE.is("without THINGS, how many", Due.of(TWO).next(1), 0);
        DUE.is("of nobody", new HedgeWants().next(0), -1);
        DUE.is("of nobody, how many", new HedgeWants().next(1), 0);
        HedgeWants one = Due.of("person 0;thing 0 0;");
        DUE.is("of one", one.next(0), 0);
        DUE.is("of one, how many", one.next(1), 1);
    }

    private static void mostUnlikeOwners() {
        DUE.sentence("LOOK NEXT: the THING (of like ones the least) that behind 5 DAYS by these would be of most unlike OWNERS");
        String once = "wants look and day < 1;runs 0;";
        HedgeWants eight = Due.of(EIGHT + ("thing 0" + " 0".repeat(8) + ";").repeat(12) + once);
        DUE.is("all eight", eight.next(1), 8);
        DUE.is("of like ones the least", eight.next(0), 0);
        HedgeWants second = Due.of(THREE + "thing 0 0 0 0;thing 0 0 5 5;thing 0 0 5 5;" + once);
        DUE.is("by all TASTES the first one", second.next(0), 0);
        DUE.is("of three", second.next(1), 3);
        second.see(0, 1, 0);
        DUE.is("by these the second one", second.next(0), 1);
        DUE.is("of two", second.next(1), 2);
        second.see(1, 1, 1);
        DUE.is("by these the third one", second.next(0), 2);
        DUE.is("of two, too", second.next(1), 2);
        second.see(2, 1, 2);
        DUE.is("by these none is of two", second.next(1), 1);
        DUE.is("the first of those of one", second.next(0), 0);
    }

    private static void behindFiveDays() {
        DUE.sentence("that behind 5 DAYS by these would be");
        String one = TWO + "thing 0 0 0;runs 0;wants look and day = ";
        DUE.is("on the fifth DAY", Due.of(one + "4;").next(1), 2);
        DUE.is("on the sixth DAY", Due.of(one + "5;").next(1), 1);
        HedgeWants x = seen(one + "5;", 0, 20, 1);
        DUE.is("what is SEEN behind 20 DAYS doesn't lengthen it", x.next(1), 1);
        HedgeWants six = seen(one + "8;", 0, 6, 0);
        DUE.is("nor behind 6", six.next(1), 1);
        HedgeWants now = Due.of(one + "5;");
        now.days(1);
        DUE.is("from now on", now.next(1), 2);
        HedgeWants first = Due.of(TWO + "thing 1 0 0;runs 0;wants look;");
        DUE.is("0 TAKES it", first.next(1), 2);
        HedgeWants nothing = Due.of("person 1;person 0;thing 1 5 5;runs 0;wants bold and look = 0;");
        DUE.is("by the first of all TASTES alone", nothing.next(1), 2);
    }

    private static void anotherWhat() {
        DUE.sentence("TASTES: how many (what 0), the first (1; NONE: none), whether without (2). NoSuchElementException: another what.");
        HedgeWants x = Due.of(STAYS);
        int[] others = {-1, Integer.MIN_VALUE, Integer.MAX_VALUE, 3};
        for (int what : others) {
            DUE.lacks("tastes(" + what + ")", () -> x.tastes(what));
            DUE.lacks("next(" + what + ")", () -> x.next(what));
        }
        DUE.sentence("LOOK NEXT: the THING (what 0; NONE), how many (1; 0: none). NoSuchElementException: another what.");
        DUE.lacks("next(2)", () -> x.next(2));
        DUE.lacks("tastes(3) of nobody", () -> new HedgeWants().tastes(3));
        DUE.lacks("next(2) of nobody", () -> new HedgeWants().next(2));
    }
}
