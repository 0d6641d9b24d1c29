import java.util.Random;

/** Calls with any arguments in any state: none throws, and one that is refused changes nothing. */
public final class WildCallsTest {
    private static int wrong = 0;
    private static final int[] EDGES = {Integer.MIN_VALUE, -1001, -2, -1, 0, 1, 2, 3, 7, 8, 9, 10, 11, 15, 16, 20, 21, 39, 40, 41, 60,
        61, 100, 101, 110, 111, 200, 201, 400, 401, 1000, 1001, 1600, 1699, 1700, 1701, 1702, 1999, 2000, 65535, 65536, 100000, 100001,
        527039, 527040, 0x40000000, Integer.MAX_VALUE};
    private static final String SIGNS = "abcd*,;/29(|&!#<>=10)p+-wavt";

    public static void main(String[] args) {
        for (int seed = 1; seed <= 400 && wrong == 0; seed++) {
            run(seed);
        }
        System.out.println(wrong == 0 ? "no wild call threw or left a trace" : wrong + " wrong");
        if (wrong != 0) {
            System.exit(1);
        }
    }

    private static void run(int seed) {
        Random random = new Random(seed * 31L);
        HopeOffice x = new HopeOffice();
        HopeOffice twin = new HopeOffice();
        for (int i = 0; i < 512 && wrong == 0; i++) {
            int what = random.nextInt(28);
            int[] a = new int[6];
            for (int j = 0; j < 6; j++) {
                a[j] = argument(random, what);
            }
            long before = trace(x);
            long answer = 0;
            try {
                answer = call(x, what, a);
            } catch (RuntimeException | StackOverflowError e) {
                wrong++;
                System.out.println("seed " + seed + ": call " + what + " threw " + e);
            }
            boolean refused = answer == -1 || (answer == 0 && (what == 0 || what == 2 || what == 3 || what == 5 || what == 14 || what == 24));
            if (refused && before != trace(x)) {
                wrong++;
                System.out.println("seed " + seed + ": call " + what + " was refused and left a trace");
            }
            if (answer != call(twin, what, a) || trace(x) != trace(twin)) {
                wrong++;
                System.out.println("seed " + seed + ": call " + what + " answers a twin otherwise");
            }
        }
    }

    private static int argument(Random random, int what) {
        if (what == 7 && random.nextInt(8) != 0) {
            int four = 0;
            for (int i = 0; i < 4; i++) {
                four = four << 8 | SIGNS.charAt(random.nextInt(SIGNS.length()));
            }
            return four;
        }
        switch (random.nextInt(5)) {
            case 0: return random.nextInt();
            case 1: return 1690 + random.nextInt(20);
            case 2: return random.nextInt(24) - 1;
            case 3: return random.nextInt(4);
            default: return EDGES[random.nextInt(EDGES.length)];
        }
    }

    private static long call(HopeOffice x, int what, int[] a) {
        boolean yes = (a[5] & 1) == 1;
        switch (what) {
            case 0: return x.now(a[0]) ? 1 : 0;
            case 1: return x.person(a[0], a[1]);
            case 2: return x.dies(a[0], a[1]) ? 1 : 0;
            case 3: return x.table(a[0], a[1], a[2]) ? 1 : 0;
            case 4: return x.lives(a[0], a[1]);
            case 5: return x.number(a[0], a[1]) ? 1 : 0;
            case 6: return x.discount(a[0]);
            case 7: return x.feed(a[0], a[1], a[2], a[3], a[4]);
            case 8: return x.settle(a[0], a[1], a[2], a[3]);
            case 9: return x.named(a[0], a[1]);
            case 10: return x.falls(a[0], a[1], a[2]);
            case 11: return x.chance(a[0], a[1], a[2], a[3], a[4]);
            case 12: return x.worth(a[0], a[1], a[2], a[3]);
            case 13: return x.sale(a[0], a[1], a[2], a[3], a[4], yes);
            case 14: return x.notice(a[0], a[1]) ? 1 : 0;
            case 15: return x.charge(a[0], a[1], a[2], a[3]);
            case 16: return x.act(a[0]);
            case 17: return x.hard(a[0]);
            case 18: return x.undo(a[0]);
            case 19: return x.least(a[0], a[1], a[2], yes);
            case 20: return x.cover(a[0], a[1], a[2]);
            case 21: return x.gain(a[0], a[1], a[2]);
            case 22: return x.paid(a[0], a[1], a[2], a[3]);
            case 23: return x.holds(a[0], a[1]);
            case 24: return x.papers(a[0], a[1]) ? 1 : 0;
            case 25: return x.falseOnes();
            case 26: return x.look(a[0], a[1]);
            default: return x.count(a[0]);
        }
    }

    /** All that can be seen of an object without changing it. */
    private static long trace(HopeOffice x) {
        long sum = x.falseOnes();
        for (int i = 0; i < 60; i++) {
            sum = sum * 31 + x.count(i);
        }
        for (int i = 0; i < x.count(3); i++) {
            for (int what = 0; what < 9; what++) {
                sum = sum * 31 + x.look(i, what);
            }
        }
        for (int t = 0; t < 4; t++) {
            for (int age = 0; age < 120; age += 10) {
                sum = sum * 31 + x.lives(t, age);
            }
        }
        for (int s = 0; s < x.count(2); s++) {
            sum = sum * 31 + x.named(s, x.count(0));
            for (int o = 0; o < x.count(1); o++) {
                sum = sum * 31 + x.falls(s, (1 << x.count(1)) - 1, o);
            }
        }
        return sum;
    }
}
