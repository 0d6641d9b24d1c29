import java.util.ArrayList;
import java.util.Arrays;
import java.util.List;
import java.util.Random;

/** Calls with any arguments in any state: none throws, and one that is refused changes nothing. */
public final class WildCallsTest {
    private static final int WILD_CALLS = 200;
    /** The calls that answer true or false. */
    private static final String YES_OR_NO = " 0 2 3 5 14 24 ";
    private static int wrong = 0;
    private static final int[] EDGES = {Integer.MIN_VALUE, -1001, -2, -1, 0, 1, 2, 3, 7, 8, 9, 10, 11, 15, 16, 20, 21, 39, 40, 41, 60,
        61, 100, 101, 110, 111, 200, 201, 400, 401, 1000, 1001, 1600, 1699, 1700, 1701, 1702, 1999, 2000, 65535, 65536, 100000, 100001,
        527039, 527040, 0x40000000, Integer.MAX_VALUE};
    private static final String SIGNS = "abcd*,;/29(|&!#<>=10)p+-wavt";

    public static void main(String[] args) {
        for (int seed = 1; seed <= 2000 && wrong == 0; seed++) {
            run(seed);
        }
        System.out.println(wrong == 0 ? "no wild call threw or left a trace" : wrong + " wrong");
        if (wrong != 0) {
            System.exit(1);
        }
    }

    /**
     * One object gets all calls, one only those that were not refused, one all of them once more:
     * what they answer, and what can be seen of them at last, is the same.
     */
    private static void run(int seed) {
        Random random = new Random(seed * 31L);
        HopeOffice all = begun(seed);
        HopeOffice taken = begun(seed);
        HopeOffice twin = begun(seed);
        for (int i = 0; i < WILD_CALLS && wrong == 0; i++) {
            int what = random.nextInt(28);
            int[] a = new int[6];
            for (int j = 0; j < 6; j++) {
                a[j] = argument(random, what);
            }
            String told = "seed " + seed + ": call " + what + " " + Arrays.toString(a);
            try {
                long answer = call(all, what, a);
                boolean refused = answer == -1 || (answer == 0 && YES_OR_NO.indexOf(" " + what + " ") >= 0);
                need(refused || answer == call(taken, what, a), told + " answers otherwise without the refused ones");
                need(answer == call(twin, what, a), told + " answers a twin otherwise");
            } catch (RuntimeException | StackOverflowError e) {
                need(false, told + " threw " + e);
            }
        }
        List<Long> seen = trace(all);
        need(seen.equals(trace(taken)), "seed " + seed + ": a refused call left a trace");
        need(seen.equals(trace(twin)), "seed " + seed + ": a twin looks otherwise");
    }

    private static void need(boolean stands, String what) {
        if (!stands) {
            wrong++;
            System.out.println(what);
        }
    }

    /** A new object, or (by an odd seed) one that knows something of all there is. */
    private static HopeOffice begun(int seed) {
        HopeOffice x = new HopeOffice();
        if (seed % 2 == 0) {
            return x;
        }
        for (int i = 0; i < 7; i++) {
            x.table(0, i, 90 - 13 * i);
            x.person(1640 + 8 * i, i < 5 ? -1 : i - 3);
        }
        // The texts "b(!c);c/2,*d" and "*c;b", the act "p*2<w".
        x.feed(0x62282163, 0x293b632f, 0x322c2a64, 0, 0);
        x.settle(1000, 0, 0, 12);
        x.feed(0x2a633b62, 0, 0, 0, 0);
        x.settle(77, 1, 0, 4);
        x.feed(0x702a323c, 0x77000000, 0, 0, 0);
        x.act(5);
        for (int i = 0; i < 6; i++) {
            x.sale(2 + i % 4, i % 2, 150 * (i + 1), i / 4, 10 * i, i < 3);
            x.charge(2 + i % 4, i % 2, i / 4, 10 + i);
        }
        x.notice(3, 60);
        x.papers(1, 1701 - seed % 40);
        if (seed % 4 == 1) {
            x.dies(0, 1690);
        }
        return x;
    }

    private static int argument(Random random, int what) {
        if (what == 7 && random.nextInt(8) != 0) {
            int four = 0;
            for (int i = 0; i < 4; i++) {
                four = four << 8 | SIGNS.charAt(random.nextInt(SIGNS.length()));
            }
            return four;
        }
        switch (random.nextInt(5)) {
            case 0: return random.nextInt();
            case 1: return 1690 + random.nextInt(20);
            case 2: return random.nextInt(24) - 1;
            case 3: return random.nextInt(4);
            default: return EDGES[random.nextInt(EDGES.length)];
        }
    }

    private static long call(HopeOffice x, int what, int[] a) {
        boolean yes = (a[5] & 1) == 1;
        switch (what) {
            case 0: return x.now(a[0]) ? 1 : 0;
            case 1: return x.person(a[0], a[1]);
            case 2: return x.dies(a[0], a[1]) ? 1 : 0;
            case 3: return x.table(a[0], a[1], a[2]) ? 1 : 0;
            case 4: return x.lives(a[0], a[1]);
            case 5: return x.number(a[0], a[1]) ? 1 : 0;
            case 6: return x.discount(a[0]);
            case 7: return x.feed(a[0], a[1], a[2], a[3], a[4]);
            case 8: return x.settle(a[0], a[1], a[2], a[3]);
            case 9: return x.named(a[0], a[1]);
            case 10: return x.falls(a[0], a[1], a[2]);
            case 11: return x.chance(a[0], a[1], a[2], a[3], a[4]);
            case 12: return x.worth(a[0], a[1], a[2], a[3]);
            case 13: return x.sale(a[0], a[1], a[2], a[3], a[4], yes);
            case 14: return x.notice(a[0], a[1]) ? 1 : 0;
            case 15: return x.charge(a[0], a[1], a[2], a[3]);
            case 16: return x.act(a[0]);
            case 17: return x.hard(a[0]);
            case 18: return x.undo(a[0]);
            case 19: return x.least(a[0], a[1], a[2], yes);
            case 20: return x.cover(a[0], a[1], a[2]);
            case 21: return x.gain(a[0], a[1], a[2]);
            case 22: return x.paid(a[0], a[1], a[2], a[3]);
            case 23: return x.holds(a[0], a[1]);
            case 24: return x.papers(a[0], a[1]) ? 1 : 0;
            case 25: return x.falseOnes();
            case 26: return x.look(a[0], a[1]);
            default: return x.count(a[0]);
        }
    }

    /** What can be seen of an object by some 250 calls. */
    private static List<Long> trace(HopeOffice x) {
        List<Long> seen = new ArrayList<>();
        seen.add((long) x.falseOnes());
        for (int i = 0; i < 60; i++) {
            seen.add((long) x.count(i));
        }
        int sales = x.count(3);
        for (int i = Math.max(0, sales - 8); i < sales; i++) {
            for (int what = 0; what < 9; what++) {
                seen.add((long) x.look(i, what));
            }
        }
        for (int i = 0; i < 44; i++) {
            seen.add((long) x.lives(i % 4, i / 4 * 10));
        }
        int persons = x.count(1);
        for (int s = 0; s < Math.min(2, x.count(2)); s++) {
            seen.add((long) x.named(s, x.count(0)));
            for (int o = 0; o < Math.min(8, persons); o++) {
                seen.add((long) x.falls(s, (1 << persons) - 1, o));
                seen.add((long) x.paid(s, o, 0, 1999));
            }
        }
        seen.add((long) x.settle(1, 0, 0, x.count(6)));
        return seen;
    }
}
