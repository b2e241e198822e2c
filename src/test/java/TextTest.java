/** Promises 1 to 4: a new object, the tape, a PROVINCE and its FAULTS. */
public final class TextTest {
    private static final Due DUE = new Due();

    public static void main(String[] args) {
        newObject();
        feeding();
        provinces();
        readAgain();
        refusedCalls();
        lineFaults();
        personAndThingFaults();
        hedgeAndRuleFaults();
        exprFaults();
        exprValues();
        faultsLeaveAll();
        DUE.end();
    }

    private static void newObject() {
        HedgeWants x = new HedgeWants();
        int[] counts = {0, 0, 0, 0, 0, 0, -1, 1, 0, 0, 0, 0, 0, 0, 0, 0, 0};
        for (int what = 0; what < counts.length; what++) {
            DUE.is("new count(" + what + ")", x.count(what), counts[what]);
        }
        DUE.is("new fault()", x.fault(), -1);
        DUE.is("NONE", HedgeWants.NONE, -1);
        DUE.lacks("new person(0, 0)", () -> x.person(0, 0));
        DUE.lacks("new thing(0, 0)", () -> x.thing(0, 0));
    }

    private static void feeding() {
        HedgeWants x = new HedgeWants();
        for (int i = 1; i <= 35; i++) {
            DUE.is("feed " + i, x.feed(0, 0, 0, 0, 0), 20 * i);
        }
        DUE.is("feed 36", x.feed(0, 0, 0, 0, 0), -1);
        DUE.is("bytes of a full tape", x.count(13), 700);
        DUE.is("zero bytes are no token", x.province(700), 1);
        DUE.is("the tape is empty then", x.count(13), 0);
        DUE.is("feed again", x.feed(0x70657273, 0x6f6e2037, 0x3b202020, 0x20202020, 0x20202020), 20);
        DUE.is("the highest byte first", x.province(20), 0);
        DUE.is("BOLD", x.person(0, 0), 7);
    }

    private static void provinces() {
        HedgeWants x = Due.of("person 1;person 2;\nthing 1 3 4;firm0 5 6;hedge 1 0;wants look;runs 1;");
        DUE.is("PEOPLE", x.count(0), 2);
        DUE.is("THINGS", x.count(1), 2);
        DUE.is("OWNER", x.thing(0, 0), 1);
        DUE.is("FIRM", x.thing(1, 4), 1);
        DUE.is("WORTH", x.look(1, 1, 0), 6);
        x.days(3);
        x.image();
        x.see(0, 0, 0);
        DUE.is("only the first bytes", readFirst(x, "person 0;x", 9), 0);
        DUE.is("PEOPLE anew", x.count(0), 1);
        DUE.is("THINGS anew", x.count(1), 0);
        DUE.is("the DAY anew", x.count(2), 0);
        DUE.is("ACTS gone", x.count(11), 0);
        DUE.is("SEEN gone", x.count(12), 0);
        DUE.is("the image gone", x.restore(), false);
        DUE.is("an empty text", x.province(0), 0);
        DUE.is("nobody", x.count(0), 0);
        DUE.is("seven hundred bytes", Due.read(x, "person 3;" + " ".repeat(691)), 0);
    }

    /** Nothing of an earlier text is left in a later one. */
    private static void readAgain() {
        HedgeWants x = new HedgeWants();
        for (int i = 0; i < 2; i++) {
            Due.read(x, "person 9;person 8;person 7;hedge 2 0;firm 2 9 9 9;thing 1 9 9 9;wants 0;runs 3;");
            DUE.is("whom 0 sees", x.person(0, 3), 4);
            DUE.is("one HEDGE", x.count(9), 1);
            x.days(2);
        }
        Due.read(x, "person 1;person 2;thing 0 0 6;");
        DUE.is("PEOPLE", x.count(0), 2);
        DUE.is("THINGS", x.count(1), 1);
        DUE.is("not FIRM", x.thing(0, 4), 0);
        DUE.is("not RUN", x.thing(0, 1), 0);
        DUE.is("all see one another", x.person(0, 3), 2);
        DUE.is("WANTED without a rule", x.person(1, 4), 1);
        DUE.is("all that 1 has", x.person(1, 1), 0);
        DUE.is("no other rule of RUNS", x.then(0, 1, 1), 0);
        DUE.is("TAKEN", x.then(0, 1, 0), 1);
        for (int i = 0; i < 120; i++) {
            Due.read(x, "person 1;person 2;thing 0 0 6;wants 1;");
        }
        DUE.is("WANTED by the rule of the last one", x.thing(0, 2), 2);
    }

    private static int readFirst(HedgeWants x, String text, int bytes) {
        Due.tape(x, text);
        return x.province(bytes);
    }

    private static void refusedCalls() {
        HedgeWants x = new HedgeWants();
        Due.read(x, "x");
        Due.tape(x, "person 1;");
        DUE.bars("province(-1)", () -> x.province(-1));
        DUE.bars("province(21)", () -> x.province(21));
        DUE.is("the tape stays", x.count(13), 20);
        DUE.is("the fault stays", x.fault(), 0);
        DUE.is("STATUS stays", x.count(14), 1);
        DUE.is("province(20)", x.province(20), 0);
        DUE.is("no fault", x.fault(), -1);
        DUE.is("STATUS stays at a text without a fault", x.count(14), 1);
    }

    private static void lineFaults() {
        DUE.fault("x", 1, 0);
        DUE.fault("  7;", 1, 2);
        DUE.fault("\n;", 1, 1);
        DUE.fault("persons 1;", 1, 0);
        DUE.fault("xerson 1;", 1, 0);
        DUE.fault("perso 1;", 1, 0);
        DUE.fault("person 1;A", 1, 9);
        DUE.fault("person 1;\u00e9", 1, 9);
        DUE.fault("person 1;\t", 1, 9);
        DUE.fault("person 1", 1, 8);
        DUE.fault("person 1  ", 1, 10);
        DUE.fault("person", 1, 6);
        DUE.fault("person;", 1, 6);
        DUE.fault("person 1 2;", 1, 9);
        DUE.fault("person 1 23456;", 1, 9);
        DUE.fault("person x;", 1, 7);
        DUE.fault("person1;person2;", 0, -1);
        DUE.fault("person 1;;", 1, 9);
        DUE.fault("", 0, -1);
        DUE.fault(" \n ", 0, -1);
    }

    private static void personAndThingFaults() {
        String eight = "person 1;".repeat(8);
        DUE.fault("person 10;", 2, 7);
        DUE.fault("person 9;", 0, -1);
        DUE.fault("person 0009;", 0, -1);
        DUE.fault("person 00009;", 2, 7);
        DUE.fault(eight, 0, -1);
        DUE.fault(eight + "person 1;", 2, 72);
        DUE.fault(eight + "thing 7 1 1 1 1 1 1 1 1;person 1;", 2, 96);
        DUE.fault("person 1;thing 0 5;person 1;", 4, 19);
        DUE.fault("person 1;firm 0 5;hedge", 1, 23);
        String twelve = "person 1;" + "thing 0 1;".repeat(12);
        DUE.fault(twelve, 0, -1);
        DUE.fault(twelve + "firm 0 1;", 2, 129);
        DUE.fault(twelve + "thing 9 9;", 2, 129);
        DUE.fault("thing 0;", 3, 6);
        DUE.fault("person 1;thing 1 5;", 3, 15);
        DUE.fault("person 1;thing 00000 5;", 2, 15);
        DUE.fault("person 1;thing 0 10;", 2, 17);
        DUE.fault("person 1;thing 0;", 1, 16);
        DUE.fault("person 1;thing 0 5 6;", 1, 19);
        DUE.fault("person 1;thing 0 5", 1, 18);
        DUE.fault("person 1;firm x", 1, 14);
    }

    private static void hedgeAndRuleFaults() {
        String two = "person 1;person 1;";
        DUE.fault(two + "hedge 0 1;", 0, -1);
        DUE.fault(two + "hedge 0 0;", 4, 26);
        DUE.fault(two + "hedge 0 1;hedge 0 1;", 4, 36);
        DUE.fault(two + "hedge 0 1;hedge 1 0;", 4, 36);
        DUE.fault(two + "hedge 2 0;", 3, 24);
        DUE.fault(two + "hedge 0 2;", 3, 26);
        DUE.fault(two + "hedge 0 00001;", 2, 26);
        DUE.fault(two + "hedge 0;", 1, 25);
        DUE.fault(two + "hedge 0 1 1;", 1, 28);
        DUE.fault("hedge 0 1;person 1;person 1;", 3, 6);
        DUE.fault("wants 1;wants 1;", 5, 8);
        DUE.fault("runs 1;wants 2;runs 1;", 5, 15);
        DUE.fault("runs 1;wants 1;", 0, -1);
    }

    private static void exprFaults() {
        DUE.fault("wants;", 1, 5);
        DUE.fault("wants ", 1, 6);
        DUE.fault("wants 9999;", 0, -1);
        DUE.fault("wants 00001;", 2, 6);
        DUE.fault("wants foo;", 3, 6);
        DUE.fault("wants zz;", 3, 6);
        DUE.fault("wants worth;", 3, 6);
        DUE.fault("runs (((((1)))));", 0, -1);
        DUE.fault("runs ((((((1", 2, 11);
        DUE.fault("wants wanted;", 3, 6);
        DUE.fault("runs look;", 3, 5);
        DUE.fault("runs own;", 3, 5);
        DUE.fault("wants and;", 3, 6);
        DUE.fault("wants 1 + not 1;", 3, 10);
        DUE.fault("wants 1 < not 1;", 3, 10);
        DUE.fault("wants 1 and not 1;", 0, -1);
        DUE.fault("wants 1 foo;", 1, 8);
        DUE.fault("wants 1 12345;", 1, 8);
        DUE.fault("wants 1 < 2 < 3;", 1, 12);
        DUE.fault("wants 1 = 2 < 3;", 1, 12);
        DUE.fault("wants (1 < 2) < 3;", 0, -1);
        DUE.fault("wants 1 + ;", 1, 10);
        DUE.fault("wants - 1;", 1, 6);
        DUE.fault("wants (1;", 1, 8);
        DUE.fault("wants 1);", 1, 7);
        DUE.fault("wants ();", 1, 7);
        DUE.fault("wants ((((((1))))));", 2, 12);
        DUE.fault("wants (((((1)))));", 0, -1);
        DUE.fault("wants ((((((foo", 2, 12);
        DUE.fault("wants ((((((12345", 2, 12);
        DUE.fault("wants (((((((", 2, 12);
        DUE.fault("wants (((((()", 1, 12);
        DUE.fault("wants ((((((;", 1, 12);
        DUE.fault("wants ((((((", 1, 12);
        DUE.fault("wants not not not not not not 1;", 0, -1);
        DUE.fault("wants not not not not not not not 1;", 2, 30);
        DUE.fault("wants not not not not not not (not 1) and not 1;", 0, -1);
        DUE.fault("wants run + day + look + bold + own + theirs;runs run + day + worth + wanted;", 0, -1);
    }

    /** What an EXPR gives, seen by how much a THING that nobody WANTS is RUN down in a DAY (0 to 3). */
    private static void exprValues() {
        gives("2", 2);
        gives("1 + 2 * 1", 3);
        gives("9 - 4 - 3", 2);
        gives("8 / 3", 2);
        gives("8 / 3 * 1", 2);
        gives("8 / 2 / 2", 2);
        gives("2 * (2 - 1)", 2);
        gives("1 + (0 - 7) / 4 + 2", 2);
        gives("5 / 0 + 1", 1);
        gives("1 < 2", 1);
        gives("2 < 2", 0);
        gives("2 = 2", 1);
        gives("1 + 1 = 2", 1);
        gives("3 and 2", 1);
        gives("3 or 0", 1);
        gives("0 or 0", 0);
        gives("3 and 0 - 1", 1);
        gives("1 or 1 and 0", 1);
        gives("(1 or 1) and 0", 0);
        gives("not 3", 0);
        gives("not not 3", 1);
        gives("not 1 < 1", 1);
        gives("not 1 and 0", 0);
        gives("not (1 and 0)", 1);
        gives("0 - 5", 0);
        gives("5", 3);
        gives("9999 * 9999 * 21 < 0", 0);
        gives("9999 * 9999 * 22 < 0", 1);
        gives("worth - 2", 2);
        gives("2 + wanted", 2);
        gives("run + 2", 2);
        gives("day + 1", 1);
        gives("day", 0);
        HedgeWants x = Due.of("person 0;thing 0 0;runs run + 1;");
        DUE.is("RUN by RUN", x.then(0, 2, 1), 3);
        x = Due.of("person 0;thing 0 0;runs day;");
        DUE.is("RUN by the DAY", x.then(0, 2, 1), 1);
        DUE.is("RUN by the DAY it is", x.then(0, 3, 1), 3);
    }

    private static void gives(String expr, int value) {
        HedgeWants x = Due.of("person 0;person 0;thing 0 4 0;runs " + expr + ";");
        DUE.is("runs " + expr, x.then(0, 1, 1), value);
    }

    private static void faultsLeaveAll() {
        HedgeWants x = Due.of("person 1;person 2;thing 0 1 9;");
        x.spoil(0);
        x.see(0, 1, 1);
        x.image();
        x.days(1);
        DUE.is("a fault", Due.read(x, "person 1;thing 0 0;thing 1 5;"), 3);
        DUE.is("its place", x.fault(), 25);
        DUE.is("STATUS", x.count(14), 1);
        DUE.is("PEOPLE stay", x.count(0), 2);
        DUE.is("the OWNER stays", x.thing(0, 0), 1);
        DUE.is("the DAY stays", x.count(2), 1);
        DUE.is("ACTS stay", x.count(11), 2);
        DUE.is("SEEN stays", x.count(12), 1);
        DUE.is("the tape is empty", x.count(13), 0);
        DUE.is("the image stays", x.restore(), true);
        DUE.is("as the image", x.thing(0, 0), 0);
        DUE.is("STATUS as the image", x.count(14), 0);
        DUE.is("the place stays", x.fault(), 25);
    }
}
