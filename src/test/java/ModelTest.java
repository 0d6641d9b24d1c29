import java.math.BigInteger;
import java.util.ArrayList;
import java.util.Arrays;
import java.util.Collections;
import java.util.Comparator;
import java.util.List;
import java.util.Random;
import java.util.TreeMap;
import java.util.TreeSet;
import java.util.function.LongUnaryOperator;

/**
 * Random runs of calls on the office and on a slow model of the document, which keeps what was
 * told as a list with years, reads texts sign by sign, and reckons with big numbers.
 */
public final class ModelTest {
    private static int wrong = 0;
    private static final TreeMap<String, int[]> SEEN = new TreeMap<>();

    public static void main(String[] args) {
        int runs = args.length > 0 ? Integer.parseInt(args[0]) : 3000;
        for (int seed = 1; seed <= runs && wrong < 10; seed++) {
            new Run(seed).go();
        }
        for (String name : SEEN.keySet()) {
            int[] seen = SEEN.get(name);
            // A run of random calls proves nothing of a call that it never made with both outcomes.
            if (seen[0] == 0 || (seen[1] == 0 && !name.equals("falseOnes"))) {
                wrong++;
                System.out.println(name + ": " + seen[0] + " answered, " + seen[1] + " refused");
            }
        }
        System.out.println(wrong == 0 ? "all answers are as the model's" : wrong + " wrong");
        if (wrong != 0) {
            System.exit(1);
        }
    }

    /** One run: the same calls to both, told in full when an answer differs. */
    private static final class Run {
        final int seed;
        final Random random;
        final HopeOffice office = new HopeOffice();
        final Model model = new Model();
        final List<String> told = new ArrayList<>();
        boolean differs;

        Run(int seed) {
            this.seed = seed;
            this.random = new Random(seed * 7919L);
        }

        int r(int n) { return random.nextInt(n); }
        int between(int a, int b) { return a + random.nextInt(b - a + 1); }
        boolean rarely() { return r(25) == 0; }
        int taker() {
            if (model.settlements.isEmpty() || r(5) == 0) return who();
            List<Integer> some = new ArrayList<>(model.namedIn(model.settlements.get(r(model.settlements.size())), model.now));
            return some.isEmpty() ? who() : some.get(r(some.size()));
        }
        int who() { return rarely() ? between(-2, 17) : model.people.isEmpty() ? 0 : r(model.people.size()); }
        int fund() { return rarely() ? between(-1, 10) : model.settlements.isEmpty() ? 0 : r(model.settlements.size()); }
        int deal() { return rarely() ? between(-1, 40) : model.sales.isEmpty() ? 0 : r(model.sales.size()); }
        int year() { return rarely() ? between(1690, 2002) : Math.max(1700, model.now - r(r(3) == 0 ? 8 : 2)); }

        void check(String name, String call, long got, long want) {
            int[] seen = SEEN.computeIfAbsent(name, k -> new int[2]);
            boolean refused = want <= -1 || ((name.equals("now") || name.equals("dies") || name.equals("table")
                || name.equals("number") || name.equals("notice") || name.equals("papers")) && want == 0);
            seen[refused ? 1 : 0]++;
            told.add(call + " = " + got);
            if (got != want) {
                wrong++;
                differs = true;
                System.out.println("seed " + seed + ": " + call + " answered " + got + ", due is " + want);
                System.out.println("  behind " + told);
            }
        }

        /** No more is promised of an object than the answers to its first 512 calls. */
        boolean goesOn() { return told.size() < 512 && !differs; }

        void go() {
            begin();
            for (int i = 0; i < 400 && told.size() < 380 && goesOn(); i++) {
                step();
            }
            int funds = model.settlements.size();
            int from = funds == 0 ? 0 : r(funds);
            for (int i = 0; i < funds; i++) {
                int s = (from + i) % funds;
                Person tenant = model.people.get(model.settlements.get(s).tenant);
                payAll(s, tenant.death < 0 || r(2) == 0 ? model.now : tenant.deathTold);
            }
        }

        void payAll(int s, int t) {
            for (int o = 0; o < model.people.size() && goesOn(); o++) {
                check("gain", "gain(" + s + "," + o + "," + t + ")", office.gain(s, o, t), model.gain(s, o, t));
                for (int x = 0; x < model.people.size() && model.gain(s, o, t) > 0 && goesOn(); x++) {
                    check("paid", "paid(" + s + "," + o + "," + x + "," + t + ")", office.paid(s, o, x, t), model.paid(s, o, x, t));
                }
            }
        }

        void begin() {
            int persons = between(2, 12);
            for (int i = 0; i < persons; i++) {
                person();
            }
            for (int t = 0; t < 4; t++) {
                int most = between(1, 200);
                int rows = between(2, 11);
                for (int i = 0; i < rows; i++) {
                    most = Math.max(0, most - r(1 + most / 3));
                    table(t, i, most);
                }
            }
            for (int i = 0; i < 3; i++) {
                settle();
            }
            act();
        }

        void person() {
            int born = rarely() ? between(1590, 2000) : model.now - r(r(2) == 0 ? 30 : 90);
            int parent = r(2) == 0 ? -1 : rarely() ? between(-3, 17) : r(Math.max(1, model.people.size()));
            check("person", "person(" + born + "," + parent + ")", office.person(born, parent), model.person(born, parent));
        }

        void table(int t, int i, int n) {
            check("table", "table(" + t + "," + i + "," + n + ")", office.table(t, i, n) ? 1 : 0, model.table(t, i, n) ? 1 : 0);
        }

        void feedText(String text) {
            int at = 0;
            while (at < text.length() || r(40) == 0) {
                int[] f = new int[5];
                for (int i = 0; i < 20; i++) {
                    int sign = at + i < text.length() ? text.charAt(at + i) : ' ';
                    f[i / 4] |= sign << (24 - 8 * (i % 4));
                }
                at += 20;
                check("feed", "feed(" + Arrays.toString(f) + ")", office.feed(f[0], f[1], f[2], f[3], f[4]),
                    model.feed(f[0], f[1], f[2], f[3], f[4]));
            }
        }

        void settle() {
            int tenant = rarely() ? who() : r(Math.max(1, Math.min(3, model.people.size())));
            Writer w = new Writer(random, model.people.size(), r(12) == 0 ? ' ' : (char) ('a' + tenant));
            String text = w.settlement();
            if (r(4) == 0) {
                text = w.spoil(text);
            }
            if (text.length() > 100 && r(10) != 0) {
                text = text.substring(0, 100);
            }
            feedText(text);
            int n = rarely() ? between(-1, 102) : text.length();
            int money = rarely() ? between(-1, 1) : r(3) == 0 ? between(99990, 100001) : r(2) == 0 ? between(1, 30) : between(1, 5000);
            int t = rarely() ? between(-1, 4) : r(4);
            check("settle", "settle(" + money + "," + tenant + "," + t + "," + n + " " + text + ")",
                office.settle(money, tenant, t, n), model.settle(money, tenant, t, n));
        }

        void act() {
            Writer w = new Writer(random, 16, ' ');
            String text = r(2) == 0 ? w.act() : w.plainAct();
            if (r(4) == 0) {
                text = w.spoil(text);
            }
            if (text.length() > 60 && r(10) != 0) {
                text = text.substring(0, 60);
            }
            feedText(text);
            int n = rarely() ? between(-1, 62) : text.length();
            check("act", "act(" + n + " " + text + ")", office.act(n), model.act(n));
        }

        void step() {
            switch (r(30)) {
                case 0: {
                    int y = rarely() ? between(1690, 2003) : model.now + (r(3) == 0 ? r(4) : 0);
                    check("now", "now(" + y + ")", office.now(y) ? 1 : 0, model.now(y) ? 1 : 0);
                    break;
                }
                case 1: {
                    if (r(3) == 0) {
                        person();
                    }
                    break;
                }
                case 2: {
                    if (r(3) != 0) {
                        break;
                    }
                    int o = r(2) == 0 ? who() : r(3);
                    int y = rarely() ? between(1600, 2000) : model.now - r(4);
                    check("dies", "dies(" + o + "," + y + ")", office.dies(o, y) ? 1 : 0, model.dies(o, y) ? 1 : 0);
                    break;
                }
                case 3: table(between(-1, 4), between(-1, 11), r(4) == 0 ? between(-1, 201) : model.tables[r(4)][r(12)]); break;
                case 4: {
                    int t = between(-1, 4);
                    int age = r(4) == 0 ? between(-1, 401) : between(0, 112);
                    check("lives", "lives(" + t + "," + age + ")", office.lives(t, age), model.lives(t, age));
                    break;
                }
                case 5: {
                    int what = between(-1, 2);
                    int n = r(4) == 0 ? between(-1, 52) : between(0, 12);
                    check("number", "number(" + what + "," + n + ")", office.number(what, n) ? 1 : 0, model.number(what, n) ? 1 : 0);
                    break;
                }
                case 6: {
                    int k = between(-2, r(3) == 0 ? 402 : 20);
                    check("discount", "discount(" + k + ")", office.discount(k), model.discount(k));
                    break;
                }
                case 7: {
                    if (r(3) == 0) {
                        settle();
                    }
                    break;
                }
                case 8: {
                    int s = fund();
                    int t = year();
                    check("named", "named(" + s + "," + t + ")", office.named(s, t), model.named(s, t));
                    break;
                }
                case 9: case 10: {
                    int s = fund();
                    int set = rarely() ? random.nextInt() : r(1 << model.people.size());
                    int o = taker();
                    check("falls", "falls(" + s + "," + set + "," + o + ")", office.falls(s, set, o), model.falls(s, set, o));
                    break;
                }
                case 11: case 12: {
                    int s = fund();
                    int o = taker();
                    int t = year();
                    int y = rarely() ? between(1690, 2010) : t + r(r(2) == 0 ? 2 : 30);
                    int what = rarely() ? between(-1, 3) : r(2);
                    check("chance", "chance(" + s + "," + o + "," + t + "," + y + "," + what + ")",
                        office.chance(s, o, t, y, what), model.chance(s, o, t, y, what));
                    break;
                }
                case 13: case 14: {
                    int s = fund();
                    int o = taker();
                    int t = year();
                    int y = rarely() ? between(1690, 2010) : t + r(r(2) == 0 ? 2 : 30);
                    check("worth", "worth(" + s + "," + o + "," + t + "," + y + ")", office.worth(s, o, t, y), model.worth(s, o, t, y));
                    break;
                }
                default: stepOn();
            }
        }

        void stepOn() {
            switch (r(15)) {
                case 0: case 1: {
                    int o = taker();
                    int s = fund();
                    int parts = rarely() ? between(-1, 1001) : between(1, r(2) == 0 ? 400 : 1000);
                    int b = who();
                    int price = rarely() ? between(-1, 100002) : r(3) == 0 ? between(0, 5000) : between(0, 60);
                    boolean advised = random.nextBoolean();
                    check("sale", "sale(" + o + "," + s + "," + parts + "," + b + "," + price + "," + advised + ")",
                        office.sale(o, s, parts, b, price, advised), model.sale(o, s, parts, b, price, advised));
                    break;
                }
                case 2: {
                    int i = deal();
                    int minute = rarely() ? between(527030, 527050) : r(30) - 1;
                    check("notice", "notice(" + i + "," + minute + ")", office.notice(i, minute) ? 1 : 0, model.notice(i, minute) ? 1 : 0);
                    break;
                }
                case 3: {
                    int o = taker();
                    int s = fund();
                    int b = who();
                    int sum = rarely() ? between(-1, 100002) : between(1, 300);
                    check("charge", "charge(" + o + "," + s + "," + b + "," + sum + ")", office.charge(o, s, b, sum), model.charge(o, s, b, sum));
                    break;
                }
                case 4: {
                    if (r(2) == 0) {
                        act();
                    }
                    break;
                }
                case 5: {
                    int i = deal();
                    check("hard", "hard(" + i + ")", office.hard(i), model.hard(i));
                    break;
                }
                case 6: {
                    int i = deal();
                    check("undo", "undo(" + i + ")", office.undo(i), model.undo(i));
                    break;
                }
                case 7: {
                    int o = taker();
                    int s = fund();
                    int parts = rarely() ? between(-1, 1001) : between(1, 1000);
                    boolean advised = random.nextBoolean();
                    if (r(4) == 0) {
                        check("least", "least(" + o + "," + s + "," + parts + "," + advised + ")",
                            office.least(o, s, parts, advised), model.least(o, s, parts, advised));
                    }
                    break;
                }
                case 8: {
                    int s = fund();
                    int o = who();
                    int sum = rarely() ? between(-1, 100002) : between(1, 100000);
                    check("cover", "cover(" + s + "," + o + "," + sum + ")", office.cover(s, o, sum), model.cover(s, o, sum));
                    break;
                }
                case 9: {
                    int s = fund();
                    int o = taker();
                    int t = year();
                    check("gain", "gain(" + s + "," + o + "," + t + ")", office.gain(s, o, t), model.gain(s, o, t));
                    break;
                }
                case 10: {
                    int s = fund();
                    int o = taker();
                    int x = r(3) == 0 ? o : who();
                    int t = year();
                    check("paid", "paid(" + s + "," + o + "," + x + "," + t + ")", office.paid(s, o, x, t), model.paid(s, o, x, t));
                    break;
                }
                case 11: {
                    int b = who();
                    int what = rarely() ? between(-1, 5) : r(4);
                    check("holds", "holds(" + b + "," + what + ")", office.holds(b, what), model.holds(b, what));
                    break;
                }
                case 12: {
                    int o = who();
                    int y = rarely() ? between(-2, 2001) : model.now - r(r(2) == 0 ? 5 : 60);
                    check("papers", "papers(" + o + "," + y + ")", office.papers(o, y) ? 1 : 0, model.papers(o, y) ? 1 : 0);
                    check("falseOnes", "falseOnes()", office.falseOnes(), model.falseOnes());
                    break;
                }
                case 13: {
                    int i = deal();
                    int what = between(-1, 9);
                    check("look", "look(" + i + "," + what + ")", office.look(i, what), model.look(i, what));
                    break;
                }
                default: {
                    int what = between(-1, 57);
                    check("count", "count(" + what + ")", office.count(what), model.count(what));
                }
            }
        }
    }

    /** Writes texts, right ones mostly. */
    private static final class Writer {
        final Random random;
        final int persons;
        final char shunned;
        final String few;

        Writer(Random random, int persons, char shunned) {
            this.random = random;
            this.persons = Math.max(1, persons);
            this.shunned = shunned;
            // Texts about a few alone are reckoned, and bring those few something.
            this.few = r(6) == 0 ? "" : "" + any() + any() + any();
        }

        char any() {
            char c = (char) ('a' + (r(15) == 0 ? r(16) : r(persons)));
            return c == shunned && c != 'p' ? (char) (c + 1) : c;
        }

        String plainAct() {
            String[] kinds = {"p*2<w", "w>p+" + r(20), "(1-v)*w>p+a", "p*1000<w*t*" + (1 + r(3)), "p*p<w*w", "w*3-p*4>" + r(50),
                "p*" + r(1000000) + "*" + r(1000000) + "*p*p<w", "w+1>0", "(p-" + r(99) + ")*(p-" + r(999) + ")>0"};
            return kinds[r(kinds.length)];
        }

        int r(int n) { return random.nextInt(n); }
        char letter() { return few.isEmpty() || r(12) == 0 ? any() : few.charAt(r(few.length())); }
        String who() { return r(3) == 0 ? "*" + letter() : "" + letter(); }

        String settlement() {
            StringBuilder text = new StringBuilder();
            int clauses = r(12) == 0 ? 8 + r(2) : 1 + r(4);
            for (int i = 0; i < clauses; i++) {
                text.append(i > 0 ? ";" : "");
                int takers = r(15) == 0 ? 4 + r(2) : 1 + r(3);
                for (int j = 0; j < takers; j++) {
                    text.append(j > 0 ? "," : "").append(who());
                    if (r(2) == 0) {
                        text.append('/').append(2 + r(8));
                    }
                }
                if (r(3) != 0) {
                    text.append('(').append(condition(r(8) == 0 ? 4 + r(4) : r(3))).append(')');
                }
            }
            return text.toString();
        }

        String condition(int deep) {
            StringBuilder text = new StringBuilder(piece(deep));
            for (int i = r(3); i > 0; i--) {
                text.append(r(2) == 0 ? '|' : '&').append(piece(deep > 3 ? 0 : deep));
            }
            return text.toString();
        }

        String piece(int deep) {
            if (deep > 0 && r(8) != 0) {
                return r(2) == 0 ? "!" + piece(deep - 1) : "(" + condition(deep - 1) + ")";
            }
            if (r(4) == 0) {
                return "#" + "<>=".charAt(r(3)) + (r(10) == 0 ? r(100) : r(5));
            }
            return who();
        }

        String act() {
            return sum(2) + (r(2) == 0 ? "<" : ">") + sum(2);
        }

        String sum(int deep) {
            StringBuilder text = new StringBuilder(product(deep));
            for (int i = r(3); i > 0; i--) {
                text.append(r(2) == 0 ? '+' : '-').append(product(deep));
            }
            return text.toString();
        }

        String product(int deep) {
            StringBuilder text = new StringBuilder(factor(deep));
            for (int i = r(r(8) == 0 ? 6 : 2); i > 0; i--) {
                text.append('*').append(factor(deep));
            }
            return text.toString();
        }

        String factor(int deep) {
            if (r(30) == 0) {
                int open = 1 + r(8);
                return "(".repeat(open) + "p" + ")".repeat(open);
            }
            if (deep > 0 && r(4) == 0) {
                return "(" + sum(deep - 1) + ")";
            }
            if (r(2) == 0) {
                return "" + (r(20) == 0 ? r(9999999) : r(3) == 0 ? r(1000000) : r(100));
            }
            return "" + "ppwwavt".charAt(r(7));
        }

        String spoil(String text) {
            StringBuilder spoilt = new StringBuilder(text);
            int at = r(text.length());
            String signs = "abp*;,/(|&!#<>=019+-)q A" + (char) 233;
            switch (r(3)) {
                case 0: spoilt.deleteCharAt(at); break;
                case 1: spoilt.setCharAt(at, signs.charAt(r(signs.length()))); break;
                default: spoilt.insert(at, signs.charAt(r(signs.length())));
            }
            return spoilt.length() == 0 ? "b" : spoilt.toString();
        }
    }

    private static final class Person { int born; int parent; int told; int death = -1; int deathTold; }
    private static final class Sale {
        int o; int s; int parts; int buyer; int price; boolean advised; int year; int noticeYear = -1; int minute = -1; int undone = -1; int number;
    }
    private static final class Charge { int o; int s; int b; int sum; int told; }
    private static final class Fund { int money; int tenant; int table; String text; }

    /** A text is refused at a place. */
    private static final class Fault extends RuntimeException {
        private static final long serialVersionUID = 1;
        final int code;
        Fault(int number, int place) { this.code = -1000 * number - place; }
    }

    /** The document, told again slowly. */
    private static final class Model {
        int now = 1700;
        final List<Person> people = new ArrayList<>();
        final List<Fund> settlements = new ArrayList<>();
        final List<Sale> sales = new ArrayList<>();
        final List<Charge> charges = new ArrayList<>();
        final List<int[]> paperList = new ArrayList<>();
        final int[][] tables = new int[4][12];
        int interest = 5;
        int duty = 0;
        String tape = "";
        String law = null;

        boolean now(int year) {
            if (year < now || year > 1999) return false;
            now = year;
            return true;
        }

        boolean isPerson(int o) { return o >= 0 && o < people.size(); }
        boolean isFund(int s) { return s >= 0 && s < settlements.size(); }
        boolean isSale(int i) { return i >= 0 && i < sales.size(); }
        boolean isYear(int t) { return t >= 1700 && t <= 1999; }

        int person(int born, int parent) {
            if (people.size() == 16 || born < 1600 || born > now) return -1;
            if (parent != -1 && (!isPerson(parent) || people.get(parent).born > born)) return -1;
            Person p = new Person();
            p.born = born;
            p.parent = parent;
            p.told = now;
            people.add(p);
            return people.size() - 1;
        }

        boolean dies(int o, int year) {
            if (!isPerson(o) || people.get(o).death >= 0 || year > now || year < people.get(o).born) return false;
            people.get(o).death = year;
            people.get(o).deathTold = now;
            return true;
        }

        boolean table(int t, int i, int n) {
            if (t < 0 || t > 3 || i < 0 || i > 10 || n < 0 || n > 200) return false;
            int[] row = tables[t].clone();
            row[i] = n;
            for (int k = 1; k < 12; k++) {
                if (row[k] > row[k - 1]) return false;
            }
            tables[t] = row;
            return true;
        }

        int lives(int t, int age) {
            if (t < 0 || t > 3 || age < 0 || age > 400) return -1;
            return at(t, age);
        }

        int at(int t, int age) {
            if (age > 110) return 0;
            int i = age / 10;
            int since = age - 10 * i;
            int next = i == 11 ? 0 : tables[t][i + 1];
            return tables[t][i] - (int) Math.floor((tables[t][i] - next) * since / 10.0 + 1e-9);
        }

        boolean number(int what, int n) {
            if (what == 0 && n >= 0 && n <= 20) { interest = n; return true; }
            if (what == 1 && n >= 0 && n <= 50) { duty = n; return true; }
            return false;
        }

        int discount(int k) {
            if (k < 0 || k > 400) return -1;
            return k == 0 ? 1000000 : discount(k - 1) * 100 / (100 + interest);
        }

        int feed(int... five) {
            if (tape.length() + 20 > 100) return -1;
            for (int x : five) {
                for (byte b : BigInteger.valueOf(x & 0xffffffffL).or(BigInteger.ONE.shiftLeft(40)).toByteArray()) {
                    tape += (char) (b & 255);
                }
                tape = tape.substring(0, tape.length() - 6) + tape.substring(tape.length() - 4);
            }
            return tape.length();
        }

        int settle(int money, int tenant, int table, int n) {
            if (money < 1 || money > 100000 || !isPerson(tenant) || table < 0 || table > 3) return -1;
            if (n < 1 || n > 100 || n > tape.length() || settlements.size() == 10) return -1;
            String text = tape.substring(0, n);
            tape = "";
            try {
                new Signs(text, (char) ('a' + tenant)).settlement();
            } catch (Fault fault) {
                return fault.code;
            }
            Fund f = new Fund();
            f.money = money;
            f.tenant = tenant;
            f.table = table;
            f.text = text;
            settlements.add(f);
            return settlements.size() - 1;
        }

        boolean there(int o, int t) { return isPerson(o) && people.get(o).told <= t; }
        boolean dead(int o, int t) { return people.get(o).death >= 0 && people.get(o).deathTold <= t; }

        List<Integer> children(int parent, int t) {
            List<Integer> all = new ArrayList<>();
            for (int o = 0; o < people.size(); o++) {
                if (people.get(o).parent == parent && there(o, t)) all.add(o);
            }
            return all;
        }

        TreeSet<Integer> namedIn(Fund f, int t) {
            TreeSet<Integer> set = new TreeSet<>();
            for (int i = 0; i < f.text.length(); i++) {
                int o = f.text.charAt(i) - 'a';
                if (o < 0 || o > 15) continue;
                if (i > 0 && f.text.charAt(i - 1) == '*') {
                    set.addAll(children(o, t));
                } else if (there(o, t)) {
                    set.add(o);
                }
            }
            set.remove(f.tenant);
            return set;
        }

        int named(int s, int t) {
            return !isFund(s) || !isYear(t) ? -1 : namedIn(settlements.get(s), t).size();
        }

        int[] fall(Fund f, int t, TreeSet<Integer> alive) {
            int[] get = new int[16];
            for (String clause : f.text.split(";")) {
                int open = clause.indexOf('(');
                if (open >= 0 && !either(clause.substring(open + 1, clause.length() - 1), t, alive)) continue;
                int rest = f.money;
                for (String share : (open < 0 ? clause : clause.substring(0, open)).split(",")) {
                    int part = f.money / (share.indexOf('/') < 0 ? 1 : share.charAt(share.length() - 1) - '0');
                    List<Integer> takers = new ArrayList<>();
                    if (share.charAt(0) == '*') {
                        takers.addAll(children(share.charAt(1) - 'a', t));
                    } else {
                        takers.add(share.charAt(0) - 'a');
                    }
                    takers.retainAll(alive);
                    for (int o : takers) {
                        int sum = Math.min(rest, part / takers.size());
                        get[o] += sum;
                        rest -= sum;
                    }
                }
                return get;
            }
            return get;
        }

        List<String> split(String text, char sign) {
            List<String> all = new ArrayList<>();
            int deep = 0;
            int from = 0;
            for (int i = 0; i < text.length(); i++) {
                char c = text.charAt(i);
                deep += c == '(' ? 1 : c == ')' ? -1 : 0;
                if (c == sign && deep == 0) {
                    all.add(text.substring(from, i));
                    from = i + 1;
                }
            }
            all.add(text.substring(from));
            return all;
        }

        boolean either(String text, int t, TreeSet<Integer> alive) {
            for (String part : split(text, '|')) {
                boolean all = true;
                for (String piece : split(part, '&')) {
                    all = all && piece(piece, t, alive);
                }
                if (all) return true;
            }
            return false;
        }

        boolean piece(String p, int t, TreeSet<Integer> alive) {
            char c = p.charAt(0);
            if (c == '!') return !piece(p.substring(1), t, alive);
            if (c == '(') return either(p.substring(1, p.length() - 1), t, alive);
            if (c == '*') return !Collections.disjoint(children(p.charAt(1) - 'a', t), alive);
            if (c == '#') {
                int n = Integer.parseInt(p.substring(2));
                char than = p.charAt(1);
                return than == '<' ? alive.size() < n : than == '>' ? alive.size() > n : alive.size() == n;
            }
            return alive.contains(c - 'a');
        }

        int falls(int s, int set, int o) {
            if (!isFund(s) || !isPerson(o)) return -1;
            TreeSet<Integer> alive = new TreeSet<>();
            for (int i = 0; i < 32; i++) {
                if ((set >> i & 1) == 1) {
                    if (!isPerson(i)) return -1;
                    alive.add(i);
                }
            }
            alive.retainAll(namedIn(settlements.get(s), now));
            return fall(settlements.get(s), now, alive)[o];
        }

        /** Hopeful weight, the whole, worth; null: not reckoned. */
        BigInteger[] reckon(Fund f, int o, int t, int y) {
            if (!there(f.tenant, t) || dead(f.tenant, t)) return null;
            List<Integer> living = new ArrayList<>();
            for (int p : namedIn(f, t)) {
                if (!dead(p, t)) living.add(p);
            }
            if (living.size() > 4) return null;
            BigInteger whole = BigInteger.valueOf(at(f.table, y - people.get(f.tenant).born));
            for (int p : living) {
                whole = whole.multiply(BigInteger.valueOf(at(f.table, y - people.get(p).born)));
            }
            if (whole.signum() == 0) return null;
            BigInteger hope = BigInteger.ZERO;
            BigInteger sum = BigInteger.ZERO;
            for (int k = 0; k <= 130; k++) {
                int age = y - people.get(f.tenant).born;
                BigInteger dying = BigInteger.valueOf(at(f.table, age + k) - at(f.table, age + k + 1));
                BigInteger weighed = BigInteger.ZERO;
                for (int set = 0; dying.signum() != 0 && set < 1 << living.size(); set++) {
                    BigInteger weight = dying;
                    TreeSet<Integer> alive = new TreeSet<>();
                    for (int i = 0; i < living.size(); i++) {
                        int his = y - people.get(living.get(i)).born;
                        int then = at(f.table, his + k + 1);
                        if ((set >> i & 1) == 1) alive.add(living.get(i));
                        weight = weight.multiply(BigInteger.valueOf((set >> i & 1) == 1 ? then : at(f.table, his) - then));
                    }
                    int get = fall(f, t, alive)[o];
                    if (get > 0) hope = hope.add(weight);
                    weighed = weighed.add(weight.multiply(BigInteger.valueOf(get)));
                }
                sum = sum.add(weighed.divide(whole).multiply(BigInteger.valueOf(discount(k + 1))).divide(BigInteger.valueOf(1000000)));
            }
            return new BigInteger[] {hope, whole, sum};
        }

        BigInteger[] asked(int s, int o, int t, int y) {
            if (!isFund(s) || !isPerson(o) || !isYear(t) || y < t || y > 1999) return null;
            return reckon(settlements.get(s), o, t, y);
        }

        long chance(int s, int o, int t, int y, int what) {
            BigInteger[] all = what == 0 || what == 1 ? asked(s, o, t, y) : null;
            return all == null ? -1 : all[what].longValueExact();
        }

        long worth(int s, int o, int t, int y) {
            BigInteger[] all = asked(s, o, t, y);
            return all == null ? -1 : all[2].longValueExact();
        }

        int sale(int o, int s, int parts, int buyer, int price, boolean advised) {
            if (!isPerson(o) || !isFund(s) || !isPerson(buyer) || o == buyer || sales.size() == 40) return -1;
            if (parts < 1 || parts > 1000 || price < 0 || price > 100000 || dead(settlements.get(s).tenant, now)) return -1;
            Sale x = new Sale();
            x.o = o;
            x.s = s;
            x.parts = parts;
            x.buyer = buyer;
            x.price = price;
            x.advised = advised;
            x.year = now;
            x.number = sales.size();
            sales.add(x);
            return x.number;
        }

        boolean notice(int i, int minute) {
            if (!isSale(i) || sales.get(i).noticeYear >= 0 || minute < 0 || minute > 527039) return false;
            sales.get(i).noticeYear = now;
            sales.get(i).minute = minute;
            return true;
        }

        int charge(int o, int s, int b, int sum) {
            if (!isPerson(o) || !isFund(s) || !isPerson(b) || o == b || sum < 1 || sum > 100000 || charges.size() == 20) return -1;
            Charge c = new Charge();
            c.o = o;
            c.s = s;
            c.b = b;
            c.sum = sum;
            c.told = now;
            charges.add(c);
            return charges.size() - 1;
        }

        int act(int n) {
            if (n < 1 || n > 60 || n > tape.length()) return -1;
            String text = tape.substring(0, n);
            tape = "";
            try {
                new Signs(text, ' ').act();
            } catch (Fault fault) {
                return fault.code;
            }
            law = text;
            return 0;
        }

        /** What a price is held against, or null if none of this sale is hard. */
        LongUnaryOperator[] sides(int o, Fund f, int parts, boolean advised, int year) {
            BigInteger[] all = law == null ? null : reckon(f, o, year, year);
            if (all == null) return null;
            long w = all[2].longValueExact() * parts / 1000;
            long[] given = {w, year - people.get(o).born, advised ? 1 : 0, parts};
            int at = Math.max(law.indexOf('<'), law.indexOf('>'));
            LongUnaryOperator left = expression(law.substring(0, at), given);
            LongUnaryOperator right = expression(law.substring(at + 1), given);
            return law.charAt(at) == '<' ? new LongUnaryOperator[] {left, right} : new LongUnaryOperator[] {right, left};
        }

        LongUnaryOperator expression(String e, long[] given) {
            for (String signs : new String[] {"+-", "*"}) {
                int deep = 0;
                for (int i = e.length() - 1; i >= 0; i--) {
                    char c = e.charAt(i);
                    deep += c == ')' ? 1 : c == '(' ? -1 : 0;
                    if (deep == 0 && signs.indexOf(c) >= 0) {
                        LongUnaryOperator a = expression(e.substring(0, i), given);
                        LongUnaryOperator b = expression(e.substring(i + 1), given);
                        return c == '+' ? p -> a.applyAsLong(p) + b.applyAsLong(p)
                            : c == '-' ? p -> a.applyAsLong(p) - b.applyAsLong(p)
                            : p -> a.applyAsLong(p) * b.applyAsLong(p);
                    }
                }
            }
            char c = e.charAt(0);
            if (c == '(') return expression(e.substring(1, e.length() - 1), given);
            if (c == 'p') return p -> p;
            int at = "wavt".indexOf(c);
            long value = at >= 0 ? given[at] : Long.parseLong(e);
            return p -> value;
        }

        boolean isHard(Sale x) {
            LongUnaryOperator[] two = sides(x.o, settlements.get(x.s), x.parts, x.advised, x.year);
            return two != null && two[0].applyAsLong(x.price) < two[1].applyAsLong(x.price);
        }

        int hard(int i) { return !isSale(i) ? -1 : isHard(sales.get(i)) ? 1 : 0; }

        long undo(int i) {
            if (!isSale(i)) return -1;
            Sale x = sales.get(i);
            if (x.undone >= 0 || dead(settlements.get(x.s).tenant, now) || !isHard(x)) return -1;
            x.undone = now;
            BigInteger back = BigInteger.valueOf(x.price);
            for (int y = x.year; y < now; y++) {
                back = back.multiply(BigInteger.valueOf(100 + interest)).divide(BigInteger.valueOf(100));
            }
            return back.min(BigInteger.TEN.pow(12)).longValueExact();
        }

        int least(int o, int s, int parts, boolean advised) {
            if (!isPerson(o) || !isFund(s) || parts < 1 || parts > 1000) return -1;
            LongUnaryOperator[] two = sides(o, settlements.get(s), parts, advised, now);
            for (int p = 0; p <= 100000; p++) {
                if (two == null || two[0].applyAsLong(p) >= two[1].applyAsLong(p)) return p;
            }
            return -1;
        }

        long cover(int s, int o, int sum) {
            if (!isFund(s) || !isPerson(o) || sum < 1 || sum > 100000) return -1;
            Fund f = settlements.get(s);
            if (f.tenant == o || dead(o, now) || dead(f.tenant, now)) return -1;
            int a = now - people.get(o).born;
            int b = now - people.get(f.tenant).born;
            BigInteger both = BigInteger.valueOf(at(f.table, a)).multiply(BigInteger.valueOf(at(f.table, b)));
            if (both.signum() == 0) return -1;
            BigInteger all = BigInteger.ZERO;
            for (int k = 0; k < 200; k++) {
                BigInteger x = BigInteger.valueOf(sum).multiply(BigInteger.valueOf(at(f.table, a + k) - at(f.table, a + k + 1)))
                    .multiply(BigInteger.valueOf(at(f.table, b + k))).divide(both);
                all = all.add(x.multiply(BigInteger.valueOf(discount(k + 1))).divide(BigInteger.valueOf(1000000)));
            }
            return all.longValueExact();
        }

        int gain(int s, int o, int t) {
            if (!isFund(s) || !isPerson(o) || !isYear(t) || !dead(settlements.get(s).tenant, t)) return -1;
            Fund f = settlements.get(s);
            int year = people.get(f.tenant).death;
            TreeSet<Integer> alive = namedIn(f, t);
            alive.removeIf(p -> people.get(p).born > year || (dead(p, t) && people.get(p).death <= year));
            return fall(f, t, alive)[o];
        }

        /** The sales of what one has in a settlement, in the order in which they are paid on t. */
        List<Sale> ranked(int o, int s, int t) {
            List<Sale> all = new ArrayList<>();
            for (Sale x : sales) {
                if (x.o == o && x.s == s && x.undone < 0) all.add(x);
            }
            all.sort(Comparator.comparingInt((Sale x) -> x.noticeYear >= 0 && x.noticeYear <= t ? 0 : 1)
                .thenComparingInt(x -> x.noticeYear >= 0 && x.noticeYear <= t ? x.noticeYear : 0)
                .thenComparingInt(x -> x.noticeYear >= 0 && x.noticeYear <= t ? x.minute : 0)
                .thenComparingInt(x -> x.number));
            return all;
        }

        int paid(int s, int o, int x, int t) {
            int sum = gain(s, o, t);
            if (sum < 0 || !isPerson(x)) return -1;
            int[] get = new int[16];
            sum -= sum * duty / 100;
            for (Charge c : charges) {
                if (c.o == o && c.s == s && c.told <= t) {
                    int part = Math.min(sum, c.sum);
                    get[c.b] += part;
                    sum -= part;
                }
            }
            get[o] += sum;
            int left = 1000;
            for (Sale y : ranked(o, s, t)) {
                int parts = Math.min(left, y.parts);
                left -= parts;
                get[y.buyer] += sum * parts / 1000;
                get[o] -= sum * parts / 1000;
            }
            return get[x];
        }

        int holds(int b, int what) {
            if (!isPerson(b) || what < 0 || what > 3) return -1;
            List<Sale> held = new ArrayList<>();
            TreeSet<Integer> funds = new TreeSet<>();
            int parts = 0;
            for (Sale x : sales) {
                if (x.buyer == b && x.undone < 0 && !dead(settlements.get(x.s).tenant, now)) {
                    held.add(x);
                    funds.add(x.s);
                    parts += x.parts;
                }
            }
            if (what < 2) return what == 0 ? held.size() : parts;
            TreeSet<Integer> named = new TreeSet<>();
            for (int s : funds) named.addAll(namedIn(settlements.get(s), now));
            named.removeIf(p -> dead(p, now));
            for (int s : funds) named.remove(settlements.get(s).tenant);
            if (named.size() > 8) return -1;
            TreeMap<Integer, Integer> ways = new TreeMap<>();
            ways(new ArrayList<>(named), new TreeSet<>(), held, funds, ways);
            return what == 2 ? ways.firstKey() : ways.firstEntry().getValue();
        }

        void ways(List<Integer> open, TreeSet<Integer> alive, List<Sale> held, TreeSet<Integer> funds, TreeMap<Integer, Integer> ways) {
            if (!open.isEmpty()) {
                ways(open.subList(1, open.size()), alive, held, funds, ways);
                alive.add(open.get(0));
                ways(open.subList(1, open.size()), alive, held, funds, ways);
                alive.remove(open.get(0));
                return;
            }
            int sum = 0;
            for (int s : funds) {
                TreeSet<Integer> here = new TreeSet<>(alive);
                here.retainAll(namedIn(settlements.get(s), now));
                int[] get = fall(settlements.get(s), now, here);
                for (int o = 0; o < people.size(); o++) {
                    int left = 1000;
                    for (Sale x : get[o] == 0 ? new ArrayList<Sale>() : ranked(o, s, now)) {
                        int parts = Math.min(left, x.parts);
                        left -= parts;
                        sum += held.contains(x) ? get[o] * parts / 1000 : 0;
                    }
                }
            }
            ways.merge(sum, 1, Integer::sum);
        }

        boolean papers(int o, int year) {
            if (!isPerson(o) || year < 0 || year > now || paperList.size() == 100) return false;
            paperList.add(new int[] {o, year});
            return true;
        }

        int falseOnes() {
            int set = 0;
            for (int[] paper : paperList) {
                Person p = people.get(paper[0]);
                if (paper[1] < p.born || (p.death >= 0 && paper[1] > p.death)) set |= 1 << paper[0];
            }
            return set;
        }

        int look(int i, int what) {
            if (!isSale(i) || what < 0 || what > 8) return -1;
            Sale x = sales.get(i);
            return new int[] {x.o, x.s, x.parts, x.buyer, x.price, x.year, x.noticeYear, x.minute, x.undone}[what];
        }

        int count(int what) {
            int[] first = {now, people.size(), settlements.size(), sales.size(), charges.size(), paperList.size(), tape.length(),
                law == null ? 0 : 1, interest, duty};
            if (what >= 0 && what < first.length) return first[what];
            if (isFund(what - 20)) return settlements.get(what - 20).text.split(";").length;
            return isPerson(what - 40) ? people.get(what - 40).death : -1;
        }
    }

    /** Goes through a text sign by sign, knowing only what may come next and what is open. */
    private static final class Signs {
        final String text;
        final char tenant;
        final List<Character> open = new ArrayList<>();
        int place;

        Signs(String text, char tenant) {
            this.text = text;
            this.tenant = tenant;
        }

        char sign() { return place < text.length() ? text.charAt(place) : 0; }
        boolean isLetter(char c) { return c >= 'a' && c <= 'p'; }
        boolean isDigit(char c) { return c >= '0' && c <= '9'; }
        void need(boolean stands) { if (!stands) throw new Fault(1, place); }

        void settlement() {
            String state = "taker";
            int clauses = 1;
            int takers = 1;
            boolean inPiece = false;
            for (; place < text.length(); place++) {
                char c = sign();
                switch (state) {
                    case "taker":
                        need(c == '*' || isLetter(c));
                        if (clauses == 9) throw new Fault(3, place);
                        if (takers == 5) throw new Fault(4, place);
                        if (c == tenant) throw new Fault(2, place);
                        inPiece = false;
                        state = c == '*' ? "star" : "behind taker";
                        break;
                    case "star":
                        need(isLetter(c));
                        state = inPiece ? ended() : "behind taker";
                        break;
                    case "behind taker": case "behind part":
                        need(",(;".indexOf(c) >= 0 || (c == '/' && state.equals("behind taker")));
                        if (c == '/') {
                            state = "part";
                        } else if (c == '(') {
                            open.add('(');
                            state = "piece";
                        } else {
                            takers = c == ',' ? takers + 1 : 1;
                            clauses += c == ';' ? 1 : 0;
                            state = "taker";
                        }
                        break;
                    case "part":
                        need(c >= '2' && c <= '9');
                        state = "behind part";
                        break;
                    case "piece":
                        need("!(*#".indexOf(c) >= 0 || isLetter(c));
                        if (c == tenant) throw new Fault(2, place);
                        if ((c == '!' || c == '(') && open.size() == 6) throw new Fault(5, place);
                        inPiece = true;
                        if (c == '!' || c == '(') {
                            open.add(c);
                        } else {
                            state = c == '*' ? "star" : c == '#' ? "than" : ended();
                        }
                        break;
                    case "than":
                        need("<>=".indexOf(c) >= 0);
                        state = "digit";
                        break;
                    case "digit":
                        need(isDigit(c));
                        state = "digit or on";
                        ended();
                        break;
                    case "digit or on": case "on":
                        if (isDigit(c) && state.equals("digit or on")) {
                            state = "on";
                            break;
                        }
                        need("&|)".indexOf(c) >= 0);
                        state = "piece";
                        if (c == ')') {
                            open.remove(open.size() - 1);
                            state = open.isEmpty() ? "behind clause" : ended();
                        }
                        break;
                    default:
                        need(c == ';');
                        clauses++;
                        takers = 1;
                        state = "taker";
                }
            }
            need(state.startsWith("behind"));
        }

        String ended() {
            while (!open.isEmpty() && open.get(open.size() - 1) == '!') {
                open.remove(open.size() - 1);
            }
            return "on";
        }

        void act() {
            boolean factor = true;
            boolean compared = false;
            int digits = 0;
            for (; place < text.length(); place++) {
                char c = sign();
                if (factor) {
                    need(c == '(' || isDigit(c) || "pwavt".indexOf(c) >= 0);
                    if (c == '(') {
                        if (open.size() == 6) throw new Fault(5, place);
                        open.add(c);
                        continue;
                    }
                    digits = isDigit(c) ? 1 : 0;
                    factor = false;
                    continue;
                }
                if (isDigit(c) && digits > 0) {
                    digits++;
                    if (digits == 7) throw new Fault(2, place);
                    continue;
                }
                digits = 0;
                if (c == ')') {
                    need(!open.isEmpty());
                    open.remove(0);
                    continue;
                }
                boolean than = (c == '<' || c == '>') && open.isEmpty() && !compared;
                need(than || "+-*".indexOf(c) >= 0);
                compared = compared || than;
                factor = true;
            }
            need(!factor && compared && open.isEmpty());
        }
    }
}
