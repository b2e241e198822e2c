import java.lang.reflect.InvocationTargetException;
import java.lang.reflect.Method;
import java.util.ArrayList;
import java.util.List;
import java.util.Random;

/** Runs of calls drawn by seeds: the class has to answer as Plain does. */
public final class PlainTest {
    private static final int RUNS = Integer.getInteger("runs", 400);
    private final Random random;
    private final StringBuilder tape = new StringBuilder();

    private PlainTest(long seed) {
        random = new Random(seed);
    }

    public static void main(String[] args) throws Exception {
        int wrong = 0;
        for (int seed = 0; seed < RUNS && wrong < 5; seed++) {
            wrong += new PlainTest(seed).run(seed) ? 0 : 1;
        }
        if (wrong > 0) {
            System.exit(1);
        }
    }

    private boolean run(int seed) throws Exception {
        HedgeWants x = new HedgeWants();
        Plain y = new Plain();
        List<String> told = new ArrayList<>();
        List<Object[]> calls = new ArrayList<>();
        newText(calls);
        for (int i = 0; i < 512; i++) {
            if (calls.isEmpty()) {
                if (random.nextInt(60) == 0) {
                    newText(calls);
                } else {
                    calls.add(drawCall(y));
                }
            }
            Object[] call = calls.remove(0);
            String got = answer(x, call);
            String want = answer(y, call);
            told.add(name(call) + " = " + got);
            if (!got.equals(want)) {
                System.out.println("seed " + seed + ", text: " + tape);
                System.out.println(told.subList(Math.max(0, told.size() - 12), told.size()));
                System.out.println(name(call) + " answered " + got + ", due is " + want);
                return false;
            }
        }
        return true;
    }

    private static String name(Object[] call) {
        StringBuilder s = new StringBuilder().append(call[0]).append('(');
        for (int i = 1; i < call.length; i++) {
            s.append(i > 1 ? ", " : "").append(call[i]);
        }
        return s.append(')').toString();
    }

    private static String answer(Object target, Object[] call) throws Exception {
        for (Method m : target.getClass().getDeclaredMethods()) {
            boolean isPublic = java.lang.reflect.Modifier.isPublic(m.getModifiers());
            if (isPublic && m.getName().equals(call[0]) && m.getParameterCount() == call.length - 1) {
                try {
                    return String.valueOf(m.invoke(target, java.util.Arrays.copyOfRange(call, 1, call.length)));
                } catch (InvocationTargetException e) {
                    return "throws." + e.getCause().getClass().getSimpleName();
                }
            }
        }
        throw new IllegalStateException("no call " + call[0]);
    }

    // ---- texts ----

    private void newText(List<Object[]> calls) {
        tape.setLength(0);
        String text = drawText();
        if (random.nextInt(4) == 0) {
            text = spoilt(text);
        }
        text = text.substring(0, Math.min(700, text.length()));
        tape.append(text);
        StringBuilder padded = new StringBuilder(text);
        while (padded.length() % 20 != 0) {
            padded.append(random.nextBoolean() ? ' ' : ';');
        }
        for (int at = 0; at < padded.length(); at += 20) {
            Object[] call = {"feed", 0, 0, 0, 0, 0};
            for (int i = 0; i < 20; i++) {
                call[1 + i / 4] = (Integer) call[1 + i / 4] << 8 | padded.charAt(at + i) & 255;
            }
            calls.add(call);
        }
        if (random.nextInt(20) == 0) {
            calls.add(new Object[] {"province", padded.length() + 1});
        }
        calls.add(new Object[] {"province", text.length()});
        calls.add(new Object[] {"fault"});
    }

    private String drawText() {
        int people = 1 + random.nextInt(random.nextInt(4) == 0 ? 8 : 4);
        int things = random.nextInt(random.nextInt(4) == 0 ? 13 : 6);
        StringBuilder s = new StringBuilder();
        for (int p = 0; p < people; p++) {
            s.append("person ").append(random.nextInt(10)).append(';');
        }
        if (random.nextInt(3) == 0) {
            rule(s, "wants");
        }
        for (int t = 0; t < things; t++) {
            s.append(random.nextInt(4) == 0 ? "firm " : "thing ").append(random.nextInt(people));
            for (int p = 0; p < people; p++) {
                s.append(' ').append(random.nextInt(10));
            }
            s.append(random.nextInt(4) == 0 ? " ;\n" : ";");
        }
        if (random.nextBoolean()) {
            for (int p = 0; p < people; p++) {
                for (int q = 0; q < p; q++) {
                    if (random.nextInt(3) == 0) {
                        s.append("hedge ").append(p).append(' ').append(q).append(';');
                    }
                }
            }
        }
        if (s.indexOf("wants") < 0 && random.nextInt(3) == 0) {
            rule(s, "wants");
        }
        if (random.nextInt(2) == 0) {
            rule(s, "runs");
        }
        return s.toString();
    }

    private void rule(StringBuilder s, String name) {
        s.append(name).append(' ');
        String[] values = name.equals("wants")
            ? new String[] {"run", "day", "look", "look", "look", "bold", "own", "theirs"}
            : new String[] {"run", "day", "worth", "wanted", "wanted"};
        expr(s, values, 1 + random.nextInt(4));
        s.append(';');
    }

    private void expr(StringBuilder s, String[] values, int size) {
        int nots = random.nextInt(6) == 0 ? 1 + random.nextInt(3) : 0;
        for (int i = 0; i < nots; i++) {
            s.append("not ");
        }
        for (int i = 0; i < size; i++) {
            if (i > 0) {
                String[] joins = {"+", "-", "*", "/", "and", "or", "<", "=", "+", "-", "and not", ") < (", "/ 0 +"};
                String join = joins[random.nextInt(joins.length)];
                s.append(' ').append(join.startsWith(")") ? "-" : join).append(' ');
            }
            int kind = random.nextInt(7);
            if (kind == 0) {
                s.append('(');
                expr(s, values, 1 + random.nextInt(3));
                s.append(')');
            } else if (kind < 3) {
                s.append(random.nextInt(12) == 0 ? random.nextInt(10000) : random.nextInt(7));
            } else {
                s.append(values[random.nextInt(values.length)]);
            }
        }
    }

    private String spoilt(String text) {
        StringBuilder s = new StringBuilder(text);
        String[] bits = {"not ", "not not not not not not not ", "(", "((((((", ")", ";", " 12345 ", " 10 ", "x", "A", "person 1;",
            "hedge 0 0;", "hedge 0 1;hedge 1 0;", "wants 1;", "runs 2;", "thing 0;", "9", " ", "\n", "\t", "or", "wanted", "look",
            "own", "<", "=", "0", "00000", "00", "\u00e9", "thing ", "hedge ", " 8 ", "and 1", "- 1"};
        for (int i = 0; i <= random.nextInt(2); i++) {
            int at = random.nextInt(s.length() + 1);
            switch (random.nextInt(3)) {
                case 0 -> s.insert(at, bits[random.nextInt(bits.length)]);
                case 1 -> s.delete(at, Math.min(s.length(), at + 1 + random.nextInt(3)));
                default -> s.setLength(Math.max(at, 1));
            }
            if (s.length() == 0) {
                s.append(';');
            }
        }
        return s.toString();
    }

    // ---- calls ----

    private int some(int of) {
        return random.nextInt(25) == 0 ? random.nextInt(14) - 1 : random.nextInt(Math.max(1, of));
    }

    private int what(int most) {
        return random.nextInt(30) == 0 ? random.nextInt(4) == 0 ? -1 : most + 1 : random.nextInt(most + 1);
    }

    private int days(int least, int most) {
        return random.nextInt(20) == 0 ? (random.nextBoolean() ? least - 1 : most + 1)
            : random.nextBoolean() ? least + random.nextInt(4) : least + random.nextInt(most - least + 1);
    }

    private Object[] drawCall(Plain y) {
        int person = some(y.count(0));
        int other = some(y.count(0));
        int thing = some(y.count(1));
        switch (random.nextInt(44)) {
            case 0: return new Object[] {"days", random.nextInt(3) > 0 ? 1 : days(1, 20)};
            case 1: return new Object[] {"ask", person, thing};
            case 2: return new Object[] {"spoil", thing};
            case 3: return new Object[] {"mend", thing};
            case 4: return new Object[] {"give", thing, person};
            case 5: return new Object[] {"taste", person, thing, random.nextInt(12) - 1};
            case 6: return new Object[] {"hedge", person, other, random.nextBoolean()};
            case 7: return new Object[] {"undo"};
            case 8: return new Object[] {"then", thing, days(0, 60), what(2)};
            case 9: return new Object[] {"has", person, days(0, 60), what(1)};
            case 10: return new Object[] {"kept", thing};
            case 11: return new Object[] {"held", person, thing, days(1, 60)};
            case 12: return new Object[] {"taken", thing, days(0, 60)};
            case 13: case 14: return new Object[] {"later", days(0, 60), what(3)};
            case 15: return new Object[] {"rests", what(1)};
            case 16: return new Object[] {"envies", person, other};
            case 17: return new Object[] {"each", random.nextInt(4) == 0 ? -1 : person};
            case 18: return new Object[] {"far", person, other};
            case 19: return new Object[] {"away", person, other};
            case 20: return new Object[] {"toAsk", person, days(1, 60)};
            case 21: return new Object[] {"toGive", thing};
            case 22: return sightOrForget(y, thing, person);
            case 23: return new Object[] {"tastes", what(2)};
            case 24: return new Object[] {"next", what(1)};
            case 25: return new Object[] {"shy", thing, days(1, 5), random.nextInt(20) == 0 ? 11 : random.nextInt(11)};
            case 26: case 27: return new Object[] {"game", person, other, what(1)};
            case 28: case 29: return new Object[] {"years", random.nextInt(), days(0, 60), what(2)};
            case 30: return new Object[] {"image"};
            case 31: return new Object[] {"restore"};
            case 32: return new Object[] {"fault"};
            case 33: case 34: return new Object[] {"person", person, what(4)};
            case 35: case 36: return new Object[] {"thing", thing, what(5)};
            case 37: return new Object[] {"look", person, thing, what(1)};
            case 38: return random.nextInt(20) == 0 ? new Object[] {"province", random.nextInt(3) - 1} : new Object[] {"undo"};
            default: return new Object[] {"count", what(16)};
        }
    }

    /** Mostly what comes to be so, lest no taste fits. */
    private Object[] sightOrForget(Plain y, int thing, int person) {
        if (random.nextInt(8) == 0) {
            return new Object[] {"forget"};
        }
        int days = random.nextInt(20) == 0 ? 21 : random.nextInt(random.nextBoolean() ? 4 : 21);
        int who = thing >= 0 && thing < y.count(1) && random.nextInt(4) > 0 ? y.then(thing, days, 0) : person;
        return new Object[] {"see", thing, days, who};
    }
}
