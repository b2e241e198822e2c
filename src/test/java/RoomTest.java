import java.lang.management.ManagementFactory;

/** No call makes an object: all calls of one run live in one room. */
public final class RoomTest {
    private static final Due DUE = new Due();
    private static final int MOST_BYTES_OF_AN_OBJECT = 100_000;
    private static int sum;

    public static void main(String[] args) {
        com.sun.management.ThreadMXBean meter = (com.sun.management.ThreadMXBean) ManagementFactory.getThreadMXBean();
        allCalls(text());
        long ahead = meter.getCurrentThreadAllocatedBytes();
        HedgeWants x = text();
        long made = meter.getCurrentThreadAllocatedBytes();
        DUE.is("bytes of an object are few", made - ahead < MOST_BYTES_OF_AN_OBJECT + 20_000, true);
        allCalls(x);
        long behind = meter.getCurrentThreadAllocatedBytes();
        DUE.is("bytes made by calls, more than the meter's own", behind - made > 2_000, false);
        DUE.is("answers are used", sum != 0, true);
        DUE.end();
    }

    private static HedgeWants text() {
        return Due.of("person 3;person 5;person 2;thing 0 7 6 2;firm 1 3 4 9;thing 2 5 5 5;wants look - own;runs wanted + day;");
    }

    private static void allCalls(HedgeWants x) {
        for (int i = 0; i < 50; i++) {
            acts(x, i);
            ahead(x, i);
        }
        for (int what = 0; what < 17; what++) {
            sum += x.count(what);
        }
        x.image();
        sum += x.restore() ? 1 : 0;
        sum += x.feed(0x70657273, 0x6f6e2031, 0x3b202020, 0x20202020, 0x20202020);
        sum += x.province(20);
        sum += x.fault();
    }

    private static void acts(HedgeWants x, int i) {
        sum += x.days(1) + x.ask(i % 3, i % 2) + x.spoil(i % 3) + x.mend(i % 3) + x.give(i % 3, i % 2);
        sum += x.taste(i % 3, i % 2, i % 10) + (x.hedge(i % 3, 0, i % 4 < 2) ? 1 : 0) + x.undo();
        sum += x.see(0, i % 4, i % 3);
        x.forget();
    }

    private static void ahead(HedgeWants x, int i) {
        sum += x.person(i % 3, i % 5) + x.thing(i % 3, i % 6) + x.look(0, 1, i % 2);
        sum += x.then(0, i, i % 3) + x.has(1, i, i % 2) + x.kept(1) + x.held(1, 2, 9) + x.taken(2, 30);
        sum += x.later(i, i % 4) + x.rests(i % 2) + (x.envies(0, 1) ? 1 : 0) + x.each(i % 4 - 1);
        sum += x.far(0, 2) + x.away(0, 2) + x.toAsk(1, 9) + x.toGive(0) + x.tastes(i % 3) + x.next(i % 2);
        sum += x.shy(0, 3, 4) + x.game(0, 2, i % 2) + x.years(i, 20, i % 3);
    }
}
