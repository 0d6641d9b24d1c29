import java.io.IOException;
import java.nio.file.Files;
import java.nio.file.Path;
import java.util.ArrayList;
import java.util.List;
import java.util.function.Predicate;
import java.util.function.Supplier;
import java.util.function.ToLongFunction;

/**
 * What the tests of boundaries share. They go through the document sentence by sentence, wherever it names
 * one: too small, too large, empty, full, round the end of the numbers, refused. Each group of calls stands
 * behind the words that it is about, and no object is asked more often than 512 times.
 */
abstract class Bounds {
    static final int NONE = HopeOffice.NONE;
    static final int[] FAR = {Integer.MIN_VALUE, Integer.MIN_VALUE + 1, -1000, -2, 1 << 16, 1 << 30, Integer.MAX_VALUE};
    private static final String DOCUMENT = document();
    private static final int[] TESTS = new int[30];
    private static int wrong = 0;
    private static int promise = 0;
    private static String sentence = "";

    private static String document() {
        Path page = Path.of("../shared/DOC.md");
        try {
            return Files.exists(page) ? Files.readString(page).replaceAll("\\s+", " ") : "";
        } catch (IOException e) {
            return "";
        }
    }

    /** Ends the test of some promises, by 1 if an answer was not as due. */
    static void end(int... promises) {
        for (int i : promises) {
            promise = i;
            sentence = "has a test";
            due("tests of it", TESTS[i] > 0, true);
        }
        System.out.println(wrong == 0 ? "all boundaries hold" : wrong + " answers are not as due");
        if (wrong != 0) {
            System.exit(1);
        }
    }

    /** What follows is about a promise, and about these words of the document. */
    static void says(int number, String words) {
        promise = number;
        sentence = words;
        if (!DOCUMENT.isEmpty() && !DOCUMENT.contains(words)) {
            wrong++;
            System.out.println("promise " + promise + ": the document doesn't say \"" + words + "\"");
        }
    }

    static void due(String call, long got, long want) {
        TESTS[promise]++;
        if (got != want) {
            wrong++;
            System.out.println("promise " + promise + " (" + sentence + "): " + call + " answered " + got + ", due is " + want);
        }
    }

    static void due(String call, boolean got, boolean want) {
        due(call, got ? 1 : 0, want ? 1 : 0);
    }

    /** A call that is answered by NONE, and leaves all as it was. */
    static void none(Supplier<HopeOffice> scene, String call, ToLongFunction<HopeOffice> asked) {
        HopeOffice x = scene.get();
        due(call, asked.applyAsLong(x), NONE);
        same(call, x, scene.get());
    }

    /** A call that is answered by false, and leaves all as it was. */
    static void no(Supplier<HopeOffice> scene, String call, Predicate<HopeOffice> asked) {
        HopeOffice x = scene.get();
        due(call, asked.test(x), false);
        same(call, x, scene.get());
    }

    static void same(String call, HopeOffice x, HopeOffice fresh) {
        List<Long> seen = trace(x);
        List<Long> want = trace(fresh);
        due("a trace of " + call + ", at " + firstDifference(seen, want), seen.equals(want), true);
    }

    static int firstDifference(List<Long> a, List<Long> b) {
        int i = 0;
        while (i < a.size() && i < b.size() && a.get(i).equals(b.get(i))) {
            i++;
        }
        return i;
    }

    /** What can be seen of an object by some 250 calls; the last of them uses up its tape. */
    static List<Long> trace(HopeOffice x) {
        List<Long> seen = new ArrayList<>();
        for (int i = 0; i < 60; i++) {
            seen.add((long) x.count(i));
        }
        for (int i = Math.max(0, x.count(3) - 4); i < x.count(3); i++) {
            for (int what = 0; what < 9; what++) {
                seen.add((long) x.look(i, what));
            }
            seen.add((long) x.hard(i));
        }
        for (int i = 0; i < 44; i++) {
            seen.add((long) x.lives(i % 4, i / 4 * 10));
        }
        seen.add((long) x.discount(3));
        seen.add((long) x.falseOnes());
        for (int s = 0; s < Math.min(2, x.count(2)); s++) {
            seen.add((long) x.named(s, 1700));
            seen.add((long) x.named(s, x.count(0)));
            for (int o = 0; o < Math.min(5, x.count(1)); o++) {
                seen.add((long) x.falls(s, (1 << x.count(1)) - 1, o));
                seen.add(x.worth(s, o, x.count(0), x.count(0)));
                seen.add((long) x.holds(o, 1));
                seen.add((long) x.holds(o, 3));
                seen.add((long) x.gain(s, o, x.count(0)));
                seen.add((long) x.paid(s, 2, o, x.count(0)));
            }
        }
        // The place of its first fault tells what is on the tape.
        seen.add((long) x.settle(1, 0, 0, x.count(6)));
        return seen;
    }

    /** Feeds a text with blanks behind it; what the last feed answered. */
    static int feed(HopeOffice x, String text) {
        int answer = 0;
        for (int at = 0; at < text.length(); at += 20) {
            int[] five = new int[5];
            for (int i = 0; i < 20; i++) {
                int sign = at + i < text.length() ? text.charAt(at + i) : ' ';
                five[i / 4] |= sign << (24 - 8 * (i % 4));
            }
            answer = x.feed(five[0], five[1], five[2], five[3], five[4]);
        }
        return answer;
    }

    /** Empties the tape: one byte is never an act. */
    static void drain(HopeOffice x) {
        if (x.count(6) > 0) {
            x.act(1);
        }
    }

    static int settle(HopeOffice x, int fund, int tenant, String text) {
        drain(x);
        feed(x, text);
        return x.settle(fund, tenant, 0, text.length());
    }

    static int act(HopeOffice x, String text) {
        drain(x);
        feed(x, text);
        return x.act(text.length());
    }

    /** Nobody knows anybody; each was born in 1670. */
    static HopeOffice people(int many) {
        HopeOffice x = new HopeOffice();
        for (int i = 0; i < many; i++) {
            x.person(1670, NONE);
        }
        return x;
    }

    /** LIVES 4 to 24, 3 to 29, 2 to 34, 1 to 39; no interest; a is 36, b and c are 26, d is 50, e (of d) is 10. */
    static HopeOffice five() {
        HopeOffice x = new HopeOffice();
        x.number(0, 0);
        x.table(0, 0, 4);
        x.table(0, 1, 4);
        x.table(0, 2, 4);
        x.table(0, 3, 2);
        x.person(1664, NONE);
        x.person(1674, NONE);
        x.person(1674, NONE);
        x.person(1650, NONE);
        x.person(1690, 3);
        return x;
    }

    /** Something of all there is: five persons, two settlements, an act, two sales, a charge, a paper, a tape. */
    static HopeOffice village() {
        HopeOffice x = five();
        settle(x, 100, 0, "b(!c);c");
        settle(x, 60, 3, "*d,c/2");
        act(x, "p*2<w");
        x.sale(2, 0, 500, 1, 10, true);
        x.sale(2, 0, 400, 3, 40, false);
        x.notice(1, 50);
        x.charge(2, 0, 3, 10);
        x.papers(0, 1700);
        feed(x, "c,*d/2(b&#>1)");
        return x;
    }

    /** The village when its first settlement fell, in 1703 as told in 1705. */
    static HopeOffice fallen() {
        HopeOffice x = village();
        x.now(1705);
        x.dies(0, 1703);
        return x;
    }

    /** Ten settlements are there. */
    static HopeOffice tenFunds() {
        HopeOffice x = five();
        for (int i = 0; i < 10; i++) {
            settle(x, 10 + i, 0, "b;c;*d;b".substring(0, i < 8 ? 8 : 1));
        }
        feed(x, "c");
        return x;
    }

    /** The five, and f to i of ten years; a is the TENANT of a FUND of 100 by a text. */
    static HopeOffice nine(String text) {
        HopeOffice x = five();
        for (int i = 5; i < 9; i++) {
            x.person(1690, NONE);
        }
        due("settle " + text, settle(x, 100, 0, text), 0);
        return x;
    }

    /** LIVES 10 to 100, then one less each year, 0 at 110; a and b were born in 1700, c in 1600; no interest. */
    static HopeOffice newborns() {
        HopeOffice x = new HopeOffice();
        x.number(0, 0);
        for (int i = 0; i <= 10; i++) {
            x.table(0, i, 10);
        }
        x.person(1700, NONE);
        x.person(1700, NONE);
        x.person(1600, NONE);
        settle(x, 100, 0, "b");
        settle(x, 100, 2, "a");
        return x;
    }

    static HopeOffice fortySales() {
        HopeOffice x = five();
        settle(x, 100, 0, "c");
        for (int i = 0; i < 40; i++) {
            x.sale(2, 0, 25, 1 + i % 2 * 2, i, i % 3 == 0);
        }
        return x;
    }

    /** A FUND for c with SALES of thousandths to b (0, 2, ..) and d (1, 3, ..); a is alive. */
    static HopeOffice sold(int fund, int... parts) {
        HopeOffice x = five();
        settle(x, fund, 0, "c");
        for (int i = 0; i < parts.length; i++) {
            x.sale(2, 0, parts[i], i % 2 == 0 ? 1 : 3, 0, true);
        }
        return x;
    }
}
