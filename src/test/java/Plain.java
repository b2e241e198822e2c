import java.util.ArrayList;
import java.util.HashMap;
import java.util.HashSet;
import java.util.List;
import java.util.Map;
import java.util.NoSuchElementException;
import java.util.Set;
import java.util.TreeSet;

/** The document once more, told as plainly as can be, slow and wasteful: what PlainTest compares the class with. */
public final class Plain {
    interface Node {
        int value(Map<String, Integer> facts);
    }

    static final class Fault extends RuntimeException {
        private static final long serialVersionUID = 1L;
        final int code;
        final int place;

        Fault(int code, int place) {
            this.code = code;
            this.place = place;
        }
    }

    record Token(char kind, String text, int place) { }

    record Sight(int thing, int days, int person) { }

    static final class Rules {
        final List<Integer> bold = new ArrayList<>();
        final List<Boolean> firm = new ArrayList<>();
        Node wants;
        Node runs;
    }

    static final class State {
        int day;
        int[] owner;
        int[] run;
        int[][] worth;
        boolean[][] sees;

        State copy() {
            State s = new State();
            s.day = day;
            s.owner = owner.clone();
            s.run = run.clone();
            s.worth = new int[worth.length][];
            s.sees = new boolean[sees.length][];
            for (int i = 0; i < worth.length; i++) {
                s.worth[i] = worth[i].clone();
                s.sees[i] = sees[i].clone();
            }
            return s;
        }
    }

    static final class Parser {
        final List<Token> tokens = new ArrayList<>();
        int at;
        final Rules rules = new Rules();
        final List<Integer> owners = new ArrayList<>();
        final List<List<Integer>> worths = new ArrayList<>();
        final Set<String> hedges = new HashSet<>();
        Set<String> values;

        Parser(String text) {
            int i = 0;
            while (i < text.length()) {
                char c = text.charAt(i);
                int from = i++;
                if (c == ' ' || c == '\n') {
                    continue;
                }
                char kind = kind(c);
                while ((kind == 'w' || kind == 'n') && i < text.length() && kind(text.charAt(i)) == kind) {
                    i++;
                }
                tokens.add(new Token(kind, text.substring(from, i), from));
            }
            tokens.add(new Token('e', "", text.length()));
        }

        static char kind(char c) {
            if (c >= 'a' && c <= 'z') {
                return 'w';
            }
            if (c >= '0' && c <= '9') {
                return 'n';
            }
            return ";()+-*/<=".indexOf(c) >= 0 ? 's' : 'x';
        }

        Token peek() {
            return tokens.get(at);
        }

        boolean is(String text) {
            return peek().text.equals(text);
        }

        Token next() {
            return tokens.get(at++);
        }

        void need(boolean so, int code) {
            if (!so) {
                throw new Fault(code, peek().place);
            }
        }

        void province() {
            while (peek().kind != 'e') {
                line();
                need(is(";"), 1);
                next();
            }
        }

        void line() {
            need(peek().kind == 'w', 1);
            switch (peek().text) {
                case "person" -> {
                    need(rules.bold.size() < 8, 2);
                    need(owners.isEmpty(), 4);
                    next();
                    rules.bold.add(digit());
                }
                case "thing", "firm" -> {
                    need(owners.size() < 12, 2);
                    rules.firm.add(next().text.equals("firm"));
                    owners.add(person(-1));
                    List<Integer> row = new ArrayList<>();
                    worths.add(row);
                    while (row.size() < rules.bold.size()) {
                        row.add(digit());
                    }
                }
                case "hedge" -> {
                    next();
                    int one = person(-1);
                    int two = person(one);
                    hedges.add(one + "-" + two);
                    hedges.add(two + "-" + one);
                }
                case "wants" -> {
                    need(rules.wants == null, 5);
                    next();
                    values = Set.of("run", "day", "look", "bold", "own", "theirs");
                    rules.wants = expr(0);
                }
                case "runs" -> {
                    need(rules.runs == null, 5);
                    next();
                    values = Set.of("run", "day", "worth", "wanted");
                    rules.runs = expr(0);
                }
                default -> need(false, 1);
            }
        }

        int digit() {
            need(peek().kind == 'n', 1);
            need(peek().text.length() <= 4 && Integer.parseInt(peek().text) <= 9, 2);
            return Integer.parseInt(next().text);
        }

        int person(int first) {
            need(peek().kind == 'n', 1);
            need(peek().text.length() <= 4, 2);
            int who = Integer.parseInt(peek().text);
            need(who < rules.bold.size(), 3);
            need(first < 0 || who != first && !hedges.contains(first + "-" + who), 4);
            next();
            return who;
        }

        Node expr(int around) {
            if (around == 6) {
                need(peek().kind != 'n' && peek().kind != 'w' && !is("("), 2);
                need(false, 1);
            }
            Node left = and(around);
            while (is("or")) {
                next();
                Node a = left;
                Node b = and(around);
                left = f -> a.value(f) != 0 | b.value(f) != 0 ? 1 : 0;
            }
            return left;
        }

        Node and(int around) {
            Node left = not(around, 1);
            while (is("and")) {
                next();
                Node a = left;
                Node b = not(around, 1);
                left = f -> a.value(f) != 0 & b.value(f) != 0 ? 1 : 0;
            }
            return left;
        }

        Node not(int around, int nth) {
            if (is("not")) {
                need(nth < 7, 2);
                next();
                Node inner = not(around, nth + 1);
                return f -> inner.value(f) == 0 ? 1 : 0;
            }
            Node a = sum(around);
            if (is("<")) {
                next();
                Node b = sum(around);
                return f -> a.value(f) < b.value(f) ? 1 : 0;
            }
            if (is("=")) {
                next();
                Node b = sum(around);
                return f -> a.value(f) == b.value(f) ? 1 : 0;
            }
            return a;
        }

        Node sum(int around) {
            Node left = product(around);
            while (is("+") || is("-")) {
                boolean plus = next().text.equals("+");
                Node a = left;
                Node b = product(around);
                left = plus ? f -> a.value(f) + b.value(f) : f -> a.value(f) - b.value(f);
            }
            return left;
        }

        Node product(int around) {
            Node left = part(around);
            while (is("*") || is("/")) {
                boolean times = next().text.equals("*");
                Node a = left;
                Node b = part(around);
                left = times ? f -> a.value(f) * b.value(f) : f -> b.value(f) == 0 ? 0 : a.value(f) / b.value(f);
            }
            return left;
        }

        Node part(int around) {
            if (is("(")) {
                next();
                Node inner = expr(around + 1);
                need(is(")"), 1);
                next();
                return inner;
            }
            need(peek().kind == 'n' || peek().kind == 'w', 1);
            if (peek().kind == 'n') {
                need(peek().text.length() <= 4, 2);
                int number = Integer.parseInt(next().text);
                return f -> number;
            }
            need(values.contains(peek().text), 3);
            String name = next().text;
            return f -> f.get(name);
        }

        State first() {
            State s = new State();
            int people = rules.bold.size();
            int things = owners.size();
            s.owner = new int[things];
            s.run = new int[things];
            s.worth = new int[people][things];
            s.sees = new boolean[people][people];
            for (int t = 0; t < things; t++) {
                s.owner[t] = owners.get(t);
                for (int p = 0; p < people; p++) {
                    s.worth[p][t] = worths.get(t).get(p);
                }
            }
            for (int p = 0; p < people; p++) {
                for (int q = 0; q < people; q++) {
                    s.sees[p][q] = p != q && (hedges.isEmpty() || hedges.contains(p + "-" + q));
                }
            }
            return s;
        }
    }

    private String tape = "";
    private int faultPlace = -1;
    private Rules rules;
    private State now;
    private List<State> acts = new ArrayList<>();
    private List<Sight> seen = new ArrayList<>();
    private int[] status = new int[3];
    private boolean imaged;
    private State imageNow;
    private List<State> imageActs;
    private List<Sight> imageSeen;
    private int[] imageStatus;

    public Plain() {
        Parser p = new Parser("");
        rules = p.rules;
        now = p.first();
    }

    private int people() {
        return now.worth.length;
    }

    private int things() {
        return now.owner.length;
    }

    // ---- how a DAY goes ----

    private int look(State s, int p, int t) {
        return s.owner[t] == p ? s.worth[p][t] : Math.max(0, s.worth[p][t] - s.run[t]);
    }

    private int howMany(State s, int p) {
        int n = 0;
        for (int o : s.owner) {
            n += o == p ? 1 : 0;
        }
        return n;
    }

    private boolean wants(State s, int p, int t, Set<Integer> hush) {
        int owner = s.owner[t];
        if (owner == p || !s.sees[p][owner] || hush.contains(p)) {
            return false;
        }
        if (rules.wants == null) {
            return look(s, p, t) >= 5;
        }
        Map<String, Integer> facts = new HashMap<>();
        facts.put("run", s.run[t]);
        facts.put("day", s.day);
        facts.put("look", look(s, p, t));
        facts.put("bold", rules.bold.get(p));
        facts.put("own", howMany(s, p));
        facts.put("theirs", howMany(s, owner));
        return rules.wants.value(facts) > 0;
    }

    private Set<Integer> wanters(State s, int t, Set<Integer> hush) {
        Set<Integer> who = new TreeSet<>();
        for (int p = 0; p < people(); p++) {
            if (wants(s, p, t, hush)) {
                who.add(p);
            }
        }
        return who;
    }

    private int taker(State s, int t, Set<Integer> hush) {
        int best = -1;
        for (int p : wanters(s, t, hush)) {
            if (best < 0 || look(s, p, t) > look(s, best, t)) {
                best = p;
            }
        }
        return best;
    }

    private Set<Integer> day(State s, Set<Integer> hush) {
        Set<Integer> taken = new TreeSet<>();
        for (int t = 0; t < things(); t++) {
            int who = taker(s, t, hush);
            if (who >= 0) {
                s.owner[t] = who;
                s.run[t] = 0;
                taken.add(t);
            }
        }
        for (int t = 0; t < things(); t++) {
            int wanted = wanters(s, t, hush).size();
            int more = wanted > 0 ? 1 : 0;
            if (rules.runs != null) {
                Map<String, Integer> facts = new HashMap<>();
                facts.put("run", s.run[t]);
                facts.put("day", s.day);
                facts.put("worth", s.worth[s.owner[t]][t]);
                facts.put("wanted", wanted);
                more = rules.runs.value(facts);
            }
            more = more < 0 ? 0 : more > 3 ? 3 : more;
            if (rules.firm.get(t)) {
                more = more / 2;
            }
            s.run[t] = Math.min(9, s.run[t] + more);
        }
        s.day++;
        return taken;
    }

    private Set<Integer> day(State s) {
        return day(s, Set.of());
    }

    private State behind(State from, int days) {
        State s = from.copy();
        for (int i = 0; i < days; i++) {
            day(s);
        }
        return s;
    }

    private int wealth(State s, int p) {
        int sum = 0;
        for (int t = 0; t < things(); t++) {
            sum += s.owner[t] == p ? s.worth[p][t] : 0;
        }
        return sum;
    }

    private static int bits(Set<Integer> set) {
        int bits = 0;
        for (int i : set) {
            bits += 1 << i;
        }
        return bits;
    }

    // ---- refusals ----

    private void knowPerson(int p) {
        if (p < 0 || p >= people()) {
            throw new NoSuchElementException();
        }
    }

    private void knowThing(int t) {
        if (t < 0 || t >= things()) {
            throw new NoSuchElementException();
        }
    }

    private static void knowWhat(int what, int most) {
        if (what < 0 || what > most) {
            throw new NoSuchElementException();
        }
    }

    private static void within(int n, int least, int most) {
        if (n < least || n > most) {
            throw new IllegalArgumentException();
        }
    }

    // ---- the face ----

    public int feed(int a, int b, int c, int d, int e) {
        if (tape.length() > 680) {
            return -1;
        }
        for (int n : new int[] {a, b, c, d, e}) {
            tape += "" + (char) (n >> 24 & 255) + (char) (n >> 16 & 255) + (char) (n >> 8 & 255) + (char) (n & 255);
        }
        return tape.length();
    }

    public int province(int n) {
        if (n < 0 || n > tape.length()) {
            throw new IllegalArgumentException();
        }
        Parser parser = new Parser(tape.substring(0, n));
        tape = "";
        try {
            parser.province();
        } catch (Fault f) {
            faultPlace = f.place;
            status[0]++;
            return f.code;
        }
        faultPlace = -1;
        rules = parser.rules;
        now = parser.first();
        acts.clear();
        seen.clear();
        imaged = false;
        return 0;
    }

    public int fault() {
        return faultPlace;
    }

    public int count(int what) {
        switch (what) {
            case 0: return people();
            case 1: return things();
            case 2: return now.day;
            case 3: return safe();
            case 4: return couplesOfEnvy(false);
            case 5: return swaps().size();
            case 6: return swaps().isEmpty() ? -1 : swaps().get(0);
            case 7: return couplesOfEnvy(true) == 0 ? 1 : 0;
            case 8: return parts();
            case 9: return hedges();
            case 10: return runOfAll(now);
            case 11: return acts.size();
            case 12: return seen.size();
            case 13: return tape.length();
            case 14: return status[0];
            case 15: return status[1];
            case 16: return status[2];
            default: throw new NoSuchElementException();
        }
    }

    private int safe() {
        int bits = 0;
        for (int t = 0; t < things(); t++) {
            bits += wanters(now, t, Set.of()).isEmpty() ? 1 << t : 0;
        }
        return bits;
    }

    private int couplesOfEnvy(boolean whoSeeOneAnother) {
        int n = 0;
        for (int p = 0; p < people(); p++) {
            for (int q = 0; q < people(); q++) {
                n += p != q && envies(p, q) && (!whoSeeOneAnother || now.sees[p][q]) ? 1 : 0;
            }
        }
        return n;
    }

    private List<Integer> swaps() {
        List<Integer> all = new ArrayList<>();
        for (int t = 0; t < things(); t++) {
            for (int u = t + 1; u < things(); u++) {
                int p = now.owner[t];
                int q = now.owner[u];
                if (p != q && look(now, p, u) > now.worth[p][t] && look(now, q, t) > now.worth[q][u]) {
                    all.add(100 * t + u);
                }
            }
        }
        return all;
    }

    private int hedges() {
        int n = 0;
        for (int p = 0; p < people(); p++) {
            for (int q = 0; q < p; q++) {
                n += now.sees[p][q] ? 1 : 0;
            }
        }
        return n;
    }

    private int parts() {
        int n = 0;
        for (int p = 0; p < people(); p++) {
            boolean first = true;
            for (int q = 0; q < p; q++) {
                first &= distance(q, p, Set.of()) < 0;
            }
            n += first ? 1 : 0;
        }
        return n;
    }

    private int runOfAll(State s) {
        int n = 0;
        for (int r : s.run) {
            n += r;
        }
        return n;
    }

    public int person(int person, int what) {
        knowPerson(person);
        knowWhat(what, 4);
        Set<Integer> set = new TreeSet<>();
        switch (what) {
            case 0:
                return rules.bold.get(person);
            case 1:
                return bits(thingsOf(now, person));
            case 2:
                return wealth(now, person);
            case 3:
                for (int q = 0; q < people(); q++) {
                    if (now.sees[person][q]) {
                        set.add(q);
                    }
                }
                return bits(set);
            default:
                for (int t = 0; t < things(); t++) {
                    if (wants(now, person, t, Set.of())) {
                        set.add(t);
                    }
                }
                return bits(set);
        }
    }

    private Set<Integer> thingsOf(State s, int person) {
        Set<Integer> set = new TreeSet<>();
        for (int t = 0; t < things(); t++) {
            if (s.owner[t] == person) {
                set.add(t);
            }
        }
        return set;
    }

    public int thing(int thing, int what) {
        knowThing(thing);
        knowWhat(what, 5);
        switch (what) {
            case 0: return now.owner[thing];
            case 1: return now.run[thing];
            case 2: return bits(wanters(now, thing, Set.of()));
            case 3: return taker(now, thing, Set.of());
            case 4: return rules.firm.get(thing) ? 1 : 0;
            default:
                State s = now.copy();
                while (s.run[thing] <= 9) {
                    if (wanters(s, thing, Set.of()).isEmpty()) {
                        return s.run[thing] - now.run[thing];
                    }
                    s.run[thing]++;
                }
                return -1;
        }
    }

    public int look(int person, int thing, int what) {
        knowPerson(person);
        knowThing(thing);
        knowWhat(what, 1);
        return what == 0 ? now.worth[person][thing] : look(now, person, thing);
    }

    private int refused(int what) {
        status[what]++;
        return -1;
    }

    private void act() {
        acts.add(now.copy());
        if (acts.size() > 40) {
            acts.remove(0);
        }
    }

    public int days(int many) {
        if (many < 1 || many > 20 || now.day > 999 - many) {
            return refused(1);
        }
        act();
        now = behind(now, many);
        return now.day;
    }

    public int ask(int person, int thing) {
        knowPerson(person);
        knowThing(thing);
        if (!wants(now, person, thing, Set.of())) {
            return refused(1);
        }
        act();
        int was = now.owner[thing];
        now.owner[thing] = person;
        now.run[thing] = 0;
        return was;
    }

    public int spoil(int thing) {
        knowThing(thing);
        if (now.run[thing] == 9) {
            return refused(1);
        }
        act();
        return ++now.run[thing];
    }

    public int mend(int thing) {
        knowThing(thing);
        if (now.run[thing] == 0) {
            return refused(1);
        }
        act();
        int was = now.run[thing];
        now.run[thing] = 0;
        return was;
    }

    public int give(int thing, int person) {
        knowThing(thing);
        knowPerson(person);
        int was = now.owner[thing];
        if (was == person) {
            return refused(1);
        }
        act();
        now.owner[thing] = person;
        return was;
    }

    public int taste(int person, int thing, int worth) {
        knowPerson(person);
        knowThing(thing);
        int was = now.worth[person][thing];
        if (worth < 0 || worth > 9 || was == worth) {
            return refused(1);
        }
        act();
        now.worth[person][thing] = worth;
        return was;
    }

    public boolean hedge(int person, int other, boolean is) {
        knowPerson(person);
        knowPerson(other);
        if (person == other || now.sees[person][other] == is) {
            refused(1);
            return false;
        }
        act();
        now.sees[person][other] = is;
        now.sees[other][person] = is;
        return true;
    }

    public int undo() {
        if (acts.isEmpty()) {
            return -1;
        }
        now = acts.remove(acts.size() - 1).copy();
        return acts.size();
    }

    public int then(int thing, int days, int what) {
        knowThing(thing);
        knowWhat(what, 2);
        within(days, 0, 60);
        State s = behind(now, days);
        return what == 0 ? s.owner[thing] : what == 1 ? s.run[thing] : wanters(s, thing, Set.of()).size();
    }

    public int has(int person, int days, int what) {
        knowPerson(person);
        knowWhat(what, 1);
        within(days, 0, 60);
        State s = behind(now, days);
        return what == 0 ? howMany(s, person) : wealth(s, person);
    }

    private int kept(State from, int thing) {
        State s = from.copy();
        for (int d = 1; d <= 60; d++) {
            if (day(s).contains(thing)) {
                return d;
            }
        }
        return -1;
    }

    public int kept(int thing) {
        knowThing(thing);
        return kept(now, thing);
    }

    public int held(int person, int thing, int days) {
        knowPerson(person);
        knowThing(thing);
        within(days, 1, 60);
        int n = 0;
        for (int d = 1; d <= days; d++) {
            n += behind(now, d).owner[thing] == person ? 1 : 0;
        }
        return n;
    }

    private int[] takenIn(int days) {
        int[] taken = new int[things()];
        State s = now.copy();
        for (int d = 0; d < days; d++) {
            for (int t : day(s)) {
                taken[t]++;
            }
        }
        return taken;
    }

    public int taken(int thing, int days) {
        knowThing(thing);
        within(days, 0, 60);
        return takenIn(days)[thing];
    }

    public int later(int days, int what) {
        knowWhat(what, 3);
        within(days, 0, 60);
        int[] taken = takenIn(days);
        State s = behind(now, days);
        int all = 0;
        int most = -1;
        for (int t = 0; t < things(); t++) {
            all += taken[t];
            if (taken[t] > 0 && (most < 0 || taken[t] > taken[most])) {
                most = t;
            }
        }
        if (what < 2) {
            return what == 0 ? all : most;
        }
        int rich = people() == 0 ? -1 : 0;
        Set<Integer> bare = new TreeSet<>();
        for (int p = 0; p < people(); p++) {
            if (wealth(s, p) > wealth(s, rich)) {
                rich = p;
            }
            if (thingsOf(s, p).isEmpty()) {
                bare.add(p);
            }
        }
        return what == 2 ? rich : bits(bare);
    }

    public int rests(int what) {
        knowWhat(what, 1);
        State s = now.copy();
        int last = 0;
        int round = -1;
        boolean other = false;
        for (int d = 1; d <= 60; d++) {
            last = day(s).isEmpty() ? last : d;
            boolean same = java.util.Arrays.equals(s.owner, now.owner);
            if (round < 0 && other && same) {
                round = d;
            }
            other |= !same;
        }
        return what == 1 ? round : last == 60 ? -1 : last;
    }

    public boolean envies(int person, int other) {
        knowPerson(person);
        knowPerson(other);
        int theirs = 0;
        for (int t : thingsOf(now, other)) {
            theirs += look(now, person, t);
        }
        return person != other && theirs > wealth(now, person);
    }

    /** The best row of gifts (things by person, 99 for none) from this person on: its sum ahead of it. */
    private List<Integer> share(int person, int used, int nones, Map<Integer, List<Integer>> known) {
        if (person == people()) {
            return nones == 0 ? List.of(0) : null;
        }
        int key = person << 16 | used;
        if (known.containsKey(key)) {
            return known.get(key);
        }
        List<Integer> best = null;
        for (int t = 0; t <= things(); t++) {
            boolean none = t == things();
            if (none ? nones == 0 : (used >> t & 1) == 1) {
                continue;
            }
            List<Integer> rest = share(person + 1, none ? used : used | 1 << t, none ? nones - 1 : nones, known);
            if (rest == null) {
                continue;
            }
            int sum = rest.get(0) + (none ? 0 : now.worth[person][t]);
            if (best == null || sum > best.get(0)) {
                best = new ArrayList<>(rest);
                best.set(0, sum);
                best.add(1, none ? -1 : t);
            }
        }
        known.put(key, best);
        return best;
    }

    public int each(int person) {
        if (person != -1) {
            knowPerson(person);
        }
        List<Integer> row = share(0, 0, Math.max(0, people() - things()), new HashMap<>());
        return row.get(person + 1);
    }

    private int distance(int from, int to, Set<Integer> without) {
        Set<Integer> reached = new HashSet<>(Set.of(from));
        for (int d = 0; d < 9; d++) {
            if (reached.contains(to)) {
                return d;
            }
            for (int p : List.copyOf(reached)) {
                for (int q = 0; q < people(); q++) {
                    if (now.sees[p][q] && !without.contains(q)) {
                        reached.add(q);
                    }
                }
            }
        }
        return -1;
    }

    public int far(int person, int other) {
        knowPerson(person);
        knowPerson(other);
        return distance(person, other, Set.of());
    }

    public int away(int person, int other) {
        knowPerson(person);
        knowPerson(other);
        if (person == other || now.sees[person][other]) {
            return -1;
        }
        for (int size = 0; size < 8; size++) {
            for (int bits = 0; bits < 1 << people(); bits++) {
                Set<Integer> gone = new TreeSet<>();
                for (int p = 0; p < people(); p++) {
                    if ((bits >> p & 1) == 1) {
                        gone.add(p);
                    }
                }
                if (gone.size() == size && !gone.contains(person) && !gone.contains(other)
                    && distance(person, other, gone) < 0) {
                    return bits;
                }
            }
        }
        throw new IllegalStateException();
    }

    public int toAsk(int person, int days) {
        knowPerson(person);
        within(days, 1, 60);
        int best = -1;
        int most = wealth(behind(now, days), person);
        for (int t = 0; t < things(); t++) {
            if (wants(now, person, t, Set.of())) {
                State s = now.copy();
                s.owner[t] = person;
                s.run[t] = 0;
                int w = wealth(behind(s, days), person);
                if (w > most) {
                    most = w;
                    best = t;
                }
            }
        }
        return best;
    }

    public int toGive(int thing) {
        knowThing(thing);
        int best = -1;
        int soonest = kept(now, thing) < 0 ? 61 : kept(now, thing);
        for (int p = 0; p < people(); p++) {
            State s = now.copy();
            s.owner[thing] = p;
            int d = kept(s, thing);
            if (p != now.owner[thing] && d > 0 && d < soonest) {
                soonest = d;
                best = p;
            }
        }
        return best;
    }

    public int see(int thing, int days, int person) {
        knowThing(thing);
        knowPerson(person);
        if (seen.size() == 8 || days < 0 || days > 20) {
            return refused(2);
        }
        seen.add(new Sight(thing, days, person));
        return seen.size();
    }

    private boolean fits(State from) {
        for (Sight s : seen) {
            if (behind(from, s.days).owner[s.thing] != s.person) {
                return false;
            }
        }
        return true;
    }

    /** By what is fitting: 1000 by the PERSON, 10 by the THING, and WORTH. */
    private List<Integer> fitting() {
        List<Integer> all = new ArrayList<>();
        for (int p = 0; p < people(); p++) {
            for (int t = 0; t < things(); t++) {
                for (int w = 0; w < 10; w++) {
                    State s = now.copy();
                    s.worth[p][t] = w;
                    if (now.worth[p][t] != w && fits(s)) {
                        all.add(1000 * p + 10 * t + w);
                    }
                }
            }
        }
        return all;
    }

    public int tastes(int what) {
        knowWhat(what, 2);
        if (what == 2) {
            return fits(now) ? 1 : 0;
        }
        List<Integer> all = fitting();
        return what == 0 ? all.size() : all.isEmpty() ? -1 : all.get(0);
    }

    public int next(int what) {
        knowWhat(what, 1);
        List<Set<Integer>> owners = new ArrayList<>();
        for (int t = 0; t < things(); t++) {
            owners.add(new HashSet<>());
        }
        for (int taste : fitting()) {
            State s = now.copy();
            s.worth[taste / 1000][taste % 1000 / 10] = taste % 10;
            s = behind(s, 5);
            for (int t = 0; t < things(); t++) {
                owners.get(t).add(s.owner[t]);
            }
        }
        int best = -1;
        int most = 0;
        for (int t = 0; t < things(); t++) {
            if (owners.get(t).size() > most) {
                most = owners.get(t).size();
                best = t;
            }
        }
        return what == 0 ? best : most;
    }

    public void forget() {
        seen.clear();
    }

    private Set<Integer> everybody() {
        Set<Integer> all = new HashSet<>();
        for (int p = 0; p < people(); p++) {
            all.add(p);
        }
        return all;
    }

    private int shy(State s, int thing, int days, int tenths) {
        if (days == 0) {
            return s.owner[thing] == now.owner[thing] ? 1 : 0;
        }
        State quiet = s.copy();
        State loud = s.copy();
        day(quiet, everybody());
        day(loud);
        return tenths * shy(quiet, thing, days - 1, tenths) + (10 - tenths) * shy(loud, thing, days - 1, tenths);
    }

    public int shy(int thing, int days, int tenths) {
        knowThing(thing);
        within(days, 1, 5);
        within(tenths, 0, 10);
        return shy(now, thing, days, tenths);
    }

    private int gain(int person, int other, int mine, int theirs) {
        State s = now.copy();
        Set<Integer> hush = new HashSet<>();
        if (mine == 1) {
            hush.add(person);
        }
        if (theirs == 1) {
            hush.add(other);
        }
        day(s, hush);
        return wealth(behind(s, 3), person) + 2 * mine;
    }

    public int game(int person, int other, int what) {
        knowPerson(person);
        knowPerson(other);
        knowWhat(what, 1);
        if (person == other) {
            throw new IllegalArgumentException();
        }
        List<Integer> resting = new ArrayList<>();
        for (int a = 0; a < 2; a++) {
            for (int b = 0; b < 2; b++) {
                if (gain(person, other, 1 - a, b) <= gain(person, other, a, b)
                    && gain(other, person, 1 - b, a) <= gain(other, person, b, a)) {
                    resting.add(10 * a + b);
                }
            }
        }
        return what == 0 ? resting.size() : resting.isEmpty() ? -1 : resting.get(0);
    }

    private int seed;

    private int draw(int n) {
        seed = seed * 1103515245 + 12345;
        return (seed / 65536 - (seed < 0 && seed % 65536 != 0 ? 1 : 0) & 0x7fff) % n;
    }

    public int years(int firstSeed, int n, int what) {
        knowWhat(what, 2);
        within(n, 0, 60);
        seed = firstSeed;
        State s = now.copy();
        int taken = 0;
        for (int d = 0; d < n; d++) {
            int die = draw(6);
            if (things() > 0 && die < 3) {
                int t = draw(things());
                if (die == 0) {
                    int p = draw(people());
                    s.worth[p][t] = draw(10);
                }
                if (die == 1) {
                    s.run[t] = 0;
                }
                if (die == 2) {
                    s.owner[t] = draw(people());
                }
            }
            taken += day(s).size();
        }
        int bare = 0;
        for (int p = 0; p < people(); p++) {
            bare += thingsOf(s, p).isEmpty() ? 1 : 0;
        }
        return what == 0 ? taken : what == 1 ? bare : runOfAll(s);
    }

    public void image() {
        imaged = true;
        imageNow = now.copy();
        imageActs = new ArrayList<>(acts);
        imageSeen = new ArrayList<>(seen);
        imageStatus = status.clone();
    }

    public boolean restore() {
        if (!imaged) {
            return false;
        }
        now = imageNow.copy();
        acts = new ArrayList<>(imageActs);
        seen = new ArrayList<>(imageSeen);
        status = imageStatus.clone();
        return true;
    }
}
