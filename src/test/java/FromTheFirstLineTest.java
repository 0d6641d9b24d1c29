import java.io.IOException;
import java.nio.file.DirectoryStream;
import java.nio.file.Files;
import java.nio.file.Path;
import java.util.regex.Matcher;
import java.util.regex.Pattern;

/**
 * The document once more, from its first line: the sentences that name no boundary, each with answers that
 * were reckoned by hand. At last all tests of boundaries together must have quoted every sentence of it.
 */
public final class FromTheFirstLineTest extends Bounds {
    private static final Pattern QUOTED = Pattern.compile("says\\((\\d+),\\s*\"((?:[^\"\\\\]|\\\\.)*)\"");
    /** What joins two quoted pieces is no sentence of its own. */
    private static final int MOST_LEFT_OUT = 12;

    public static void main(String[] args) throws IOException {
        whoIsTold();
        whatIsKnown();
        howItFalls();
        whatBranchesWeigh();
        whatIsSold();
        whatIsHard();
        whatIsUndone();
        whatCoverCosts();
        whatIsPaid();
        whatIsHeld();
        whatARefusalLeaves();
        theWholeDocument();
        end(3, 5, 10, 11, 12, 13, 14, 15, 17, 19, 20, 21, 22, 23, 24, 25);
    }

    private static void whoIsTold() {
        says(3, "perhaps of a PERSON as its parent, as told at NOW;");
        HopeOffice x = five();
        settle(x, 12, 0, "*b(!*e);*e");
        due("nobody's child", x.person(1695, NONE), 5);
        due("nobody has it", x.falls(0, 63, 5), 0);
        due("b's child", x.person(1695, 1), 6);
        due("b's child has all", x.falls(0, 127, 6), 12);
        due("a child's child", x.person(1700, 4), 7);
        due("it goes ahead", x.falls(0, 255, 7), 12);
        due("it is no child of its grandparent", x.falls(0, 64 + 128, 6), 0);
        says(3, "A PERSON, born in a YEAR,");
        x.now(1702);
        due("born two years ago", x.person(1700, 1), 8);
        due("told now, it was not there on 1701", x.named(0, 1701), 2);
        due("it is on 1702", x.named(0, 1702), 3);
    }

    /** b(!c);c of a FUND of 100, with a as the TENANT; c died in 1701, as told in 1702. */
    private static HopeOffice mourning() {
        HopeOffice x = five();
        settle(x, 100, 0, "b(!c);c");
        x.now(1702);
        x.dies(2, 1701);
        return x;
    }

    private static void whatIsKnown() {
        says(13, "KNOWN on a YEAR t is what was told by t.");
        HopeOffice x = mourning();
        // a has one life to 39: it ends in the year k 1 of 1702, when b and c have 2 of 3 lives left.
        due("THE WHOLE on 1701", x.chance(0, 1, 1701, 1702, 1), 9);
        due("b's chance on 1701", x.chance(0, 1, 1701, 1702, 0), 2);
        due("c's chance on 1701", x.chance(0, 2, 1701, 1702, 0), 6);
        due("THE WHOLE on 1702", x.chance(0, 1, 1702, 1702, 1), 3);
        due("b's chance on 1702", x.chance(0, 1, 1702, 1702, 0), 2);
        due("c's chance on 1702", x.chance(0, 2, 1702, 1702, 0), 0);
        due("b's WORTH on 1701", x.worth(0, 1, 1701, 1702), 22);
        due("b's WORTH on 1702", x.worth(0, 1, 1702, 1702), 66);
        says(11, "NAMED in a SETTLEMENT as KNOWN on t");
        HopeOffice y = five();
        settle(y, 6, 0, "*d,f");
        y.now(1703);
        y.person(1690, 3);
        y.now(1705);
        y.person(1690, 3);
        y.dies(4, 1690);
        due("e", y.named(0, 1702), 1);
        due("e and f", y.named(0, 1703), 2);
        due("e and f", y.named(0, 1704), 2);
        due("e, f and g", y.named(0, 1705), 3);
    }

    private static void howItFalls() {
        says(5, "TABLES 0 to 3:");
        HopeOffice tables = new HopeOffice();
        for (int t = 0; t < 4; t++) {
            due("table " + t, tables.table(t, 0, 10 * t + 10), true);
        }
        for (int t = 0; t < 4; t++) {
            due("lives of " + t, tables.lives(t, 7), 3 * t + 3);
        }
        says(12, "THE FALL, some of the NAMED being alive:");
        HopeOffice x = five();
        settle(x, 60, 0, "b/2,*d/3(#=2&e);c(b|!*d);e/4");
        due("b and e", x.falls(0, 2 + 16, 1), 30);
        due("b and e", x.falls(0, 2 + 16, 4), 20);
        due("b and e: c has nothing", x.falls(0, 2 + 16, 2), 0);
        due("b, c and e: the second CLAUSE", x.falls(0, 2 + 4 + 16, 2), 60);
        due("c and e: the first gives to e alone", x.falls(0, 4 + 16, 4), 20);
        due("c and e: c has nothing", x.falls(0, 4 + 16, 2), 0);
        due("e alone: the third", x.falls(0, 16, 4), 15);
        due("c alone: the second", x.falls(0, 4, 2), 60);
        due("b alone: the second, whose taker is dead", x.falls(0, 2, 1), 0);
        says(12, "a PIECE: !PIECE, (C),");
        HopeOffice y = five();
        settle(y, 60, 0, "b(!(c|!*d)&!!b);b/2");
        due("b and e", y.falls(0, 2 + 16, 1), 60);
        due("b, c and e", y.falls(0, 2 + 4 + 16, 1), 30);
        due("b alone", y.falls(0, 2, 1), 30);
    }

    /** c(!a);a/2 of a FUND of 40, with b as the TENANT. */
    private static HopeOffice branches() {
        HopeOffice x = five();
        settle(x, 40, 1, "c(!a);a/2");
        return x;
    }

    private static void whatBranchesWeigh() {
        says(13, "CHANCES as KNOWN on t in a YEAR y (t or later):");
        HopeOffice x = branches();
        // b dies in the years k 3, 8 and 13, one life each; c has 2, 1 and 0 lives then, and a none.
        due("THE WHOLE: 3 lives of b, 3 of c, 1 of a", x.chance(0, 2, 1700, 1700, 1), 9);
        due("c: 1 times 2, and 1 times 1", x.chance(0, 2, 1700, 1700, 0), 3);
        due("a", x.chance(0, 0, 1700, 1700, 0), 0);
        says(13, "of each who is not KNOWN to be dead:");
        HopeOffice dead = branches();
        dead.dies(0, 1700);
        due("a's life is not in THE WHOLE", dead.chance(0, 2, 1700, 1700, 1), 9);
        dead.dies(2, 1700);
        due("nor are c's", dead.chance(0, 2, 1700, 1700, 1), 3);
        says(13, "each NAMED one not KNOWN to be dead is alive then: LIVES at AGE and k and 1; or dead: HAS less these; who is KNOWN to be dead is dead.");
        HopeOffice y = five();
        settle(y, 100, 1, "e(!c);c");
        // c is dead in the years k 3, 8, 13 by 1, 2 and 3 of 3 lives; e has 4 of 4 till k 13, when it is 24.
        due("e's", y.chance(0, 4, 1700, 1700, 0), 4 + 8 + 12);
        due("c's", y.chance(0, 2, 1700, 1700, 0), 8 + 4);
        y.dies(2, 1700);
        due("c is KNOWN to be dead: e has all", y.chance(0, 4, 1700, 1700, 0), 12);
        says(13, "A BRANCH is a k and who is alive; its WEIGHT the product of these numbers; THE WHOLE the product of all HAS (the TENANT's too).");
        HopeOffice z = five();
        settle(z, 100, 4, "b,c");
        // e dies from its 25th year on (k 14, 19, 24, 29), when b and c are 41 and older.
        due("THE WHOLE: 4 times 3 times 3", z.chance(0, 1, 1700, 1700, 1), 36);
        due("b can't outlive e", z.chance(0, 1, 1700, 1700, 0), 0);
        z.table(0, 4, 2);
        // Now two lives stay till 44 and one till 49: b is 41 and 46 at e's first two deaths, c may be alive or not.
        due("1 times 2 times 3, and 1 times 1 times 3", z.chance(0, 1, 1700, 1700, 0), 6 + 3);
        // c has something if b is dead: 1 times 1 times 2, and 1 times 2 times 1.
        due("c's", z.chance(0, 2, 1700, 1700, 0), 2 + 2);
        says(14, "WORTH of a PERSON's hope in a SETTLEMENT as KNOWN on t in y: year by year, from k 0 on: of all BRANCHES of that k WEIGHT times what THE FALL gives them,");
        due("80 through 9, and 40 through 9", x.worth(0, 2, 1700, 1700), 8 + 4);
        x.number(0, 10);
        // DISCOUNTS of 4 and 9 years: 683011 and 424094.
        due("8 by 683011, 4 by 424094", x.worth(0, 2, 1700, 1700), 5 + 1);
        // In 1703 b and c are 29: b dies in the years k 0, 5, 10, c has 2, 1 and 0 then; a is 39.
        due("in 1703: 8 by 909090, 4 by 564472", x.worth(0, 2, 1700, 1703), 7 + 2);
    }

    private static void whatIsSold() {
        says(15, "SALES 0 to 39, told at NOW: a PERSON, a SETTLEMENT,");
        HopeOffice x = village();
        x.now(1701);
        due("a third", x.sale(4, 1, 7, 0, 9, false), 2);
        due("told in", x.look(2, 5), 1701);
        due("the seller", x.look(2, 0), 4);
        due("the SETTLEMENT", x.look(2, 1), 1);
        says(17, "A CHARGE for PERSON b on what PERSON o has in SETTLEMENT s: its number;");
        due("a second CHARGE", x.charge(2, 0, 4, 30), 1);
        due("a third", x.charge(2, 1, 4, 30), 2);
        says(17, "paid ahead of all SALES, in order.");
        x.dies(0, 1701);
        due("d: 10, and 400 thousandths of what is left of 100", x.paid(0, 2, 3, 1701), 10 + 24);
        due("e: 30", x.paid(0, 2, 4, 1701), 30);
        due("b: 500 thousandths", x.paid(0, 2, 1, 1701), 30);
        due("c: the rest", x.paid(0, 2, 2, 1701), 6);
        HopeOffice y = sold(100, 1000);
        y.charge(2, 0, 4, 70);
        y.charge(2, 0, 3, 70);
        y.charge(2, 0, 4, 70);
        y.dies(0, 1700);
        due("the first CHARGE", y.paid(0, 2, 4, 1700), 70);
        due("the second, as far as it reaches", y.paid(0, 2, 3, 1700), 30);
        due("the SALE", y.paid(0, 2, 1, 1700), 0);
    }

    private static void whatIsHard() {
        says(19, "a SALE is HARD if it holds.");
        HopeOffice x = village();
        due("20 is less than 33", x.hard(0), 1);
        due("80 is not less than 26", x.hard(1), 0);
        act(x, "p>w");
        due("10 is not more than 33", x.hard(0), 0);
        due("40 is more than 26", x.hard(1), 1);
        says(19, "(WORTH then, as KNOWN in the YEAR of the SALE,");
        HopeOffice y = five();
        settle(y, 100, 0, "b(!c);c");
        y.sale(1, 0, 1000, 3, 0, true);
        y.now(1702);
        y.dies(2, 1701);
        y.sale(1, 0, 1000, 3, 0, true);
        act(y, "w>21");
        due("22 in 1700", y.hard(0), 1);
        act(y, "w>22");
        due("and no more, though c is dead", y.hard(0), 0);
        due("66 in 1702", y.hard(1), 1);
        act(y, "w>66");
        due("and no more", y.hard(1), 0);
        act(y, "a>26");
        due("b is 26 in 1700", y.hard(0), 0);
        due("b is 28 in 1702", y.hard(1), 1);
        says(21, "THE LEAST PRICE of thousandths of a hope, ADVISED or not, if sold now:");
        act(y, "w-v*6>p*2");
        due("33 times 2 is not less than 66", y.least(1, 0, 1000, false), 33);
        due("30 times 2 is not less than 60", y.least(1, 0, 1000, true), 30);
        due("of 33, not ADVISED", y.least(1, 0, 500, false), 17);
        due("of 33, ADVISED", y.least(1, 0, 500, true), 14);
        due("of one who is dead", y.least(2, 0, 1000, false), 0);
    }

    private static void whatIsUndone() {
        says(20, "A HARD SALE can be UNDONE, while the TENANT is not KNOWN to be dead: it is none from then on; BACK goes the PRICE with INTEREST:");
        HopeOffice x = sold(100, 600, 600);
        act(x, "p<1");
        x.number(0, 20);
        due("d holds what is left", x.holds(3, 1), 600);
        due("the first goes BACK", x.undo(0), 0);
        due("b holds none", x.holds(1, 0), 0);
        x.dies(0, 1700);
        due("b has nothing", x.paid(0, 2, 1, 1700), 0);
        due("d has its 600 thousandths", x.paid(0, 2, 3, 1700), 60);
        due("c has the rest", x.paid(0, 2, 2, 1700), 40);
        due("the second stays", x.undo(1), NONE);
        HopeOffice y = village();
        act(y, "p<11");
        y.now(1703);
        y.number(0, 15);
        due("10, 11, 12, 13", y.undo(0), 13);
        due("undone in", y.look(0, 8), 1703);
    }

    private static void whatCoverCosts() {
        says(22, "what it costs now that a SUM be paid");
        HopeOffice x = branches();
        // a dies in the year k 3, when all of b's lives are there.
        due("a dies ahead of b", x.cover(0, 0, 1000), 1000);
        x.number(0, 10);
        due("by 683011", x.cover(0, 0, 1000), 683);
        says(22, "year by year, from k 0 on: SUM times (LIVES of the PERSON at AGE and k less at AGE and k and 1) times LIVES of the TENANT at AGE and k,");
        // c dies in the years k 3, 8, 13, when b has 3, 2 and 1 of 3 lives: 333, 222 and 111 of 1000.
        due("333 by 683011, 222 by 424094, 111 by 263327", x.cover(0, 2, 1000), 227 + 94 + 29);
        x.now(1703);
        // c and b are 29 now: the same in the years k 0, 5, 10.
        due("333 by 909090, 222 by 564472, 111 by 350490", x.cover(0, 2, 1000), 302 + 125 + 38);
    }

    private static void whatIsPaid() {
        says(23, "WHEN IT FALLS: the TENANT of a SETTLEMENT is KNOWN to be dead. GAIN of a PERSON as KNOWN on t: by THE FALL with those NAMED who were");
        HopeOffice x = mourning();
        x.now(1704);
        x.dies(0, 1700);
        due("it did not fall on 1703", x.gain(0, 1, 1703), NONE);
        due("c died behind the TENANT", x.gain(0, 2, 1704), 100);
        due("b has nothing", x.gain(0, 1, 1704), 0);
        HopeOffice same = mourning();
        same.dies(0, 1701);
        due("c died with the TENANT", same.gain(0, 2, 1702), 0);
        due("b has it", same.gain(0, 1, 1702), 100);
        says(24, "What PERSON x is paid of GAIN of PERSON o in SETTLEMENT s as KNOWN on t");
        HopeOffice y = sold(100, 1000, 1000);
        y.dies(0, 1700);
        y.now(1701);
        y.notice(1, 5);
        y.now(1702);
        y.charge(2, 0, 4, 30);
        y.now(1703);
        y.dies(2, 1700);
        paidOn(y, 1700, 100, 0, 0);
        paidOn(y, 1701, 0, 100, 0);
        paidOn(y, 1702, 0, 70, 30);
        paidOn(y, 1703, 0, 0, 0);
        says(24, "what is left then is parted:");
        HopeOffice z = sold(1000, 250, 333);
        z.number(1, 10);
        z.charge(2, 0, 4, 95);
        z.dies(0, 1700);
        // 1000 less 100 less 95 are 805: 201.25 and 268.065 of it.
        due("b", z.paid(0, 2, 1, 1700), 201);
        due("d", z.paid(0, 2, 3, 1700), 268);
        due("e", z.paid(0, 2, 4, 1700), 95);
        due("c", z.paid(0, 2, 2, 1700), 336);
    }

    private static void paidOn(HopeOffice x, int t, int toB, int toD, int toE) {
        due("b on " + t, x.paid(0, 2, 1, t), toB);
        due("d on " + t, x.paid(0, 2, 3, t), toD);
        due("e on " + t, x.paid(0, 2, 4, t), toE);
        due("c on " + t, x.paid(0, 2, 2, t), 0);
    }

    private static void whatIsHeld() {
        says(25, "HOLDS of a buyer, now:");
        HopeOffice x = village();
        x.sale(4, 1, 1000, 1, 3, true);
        due("b's SALES", x.holds(1, 0), 2);
        says(25, "HOLDS of buyer b, what 0 how many SALES, 1 thousandths together,");
        due("b's thousandths", x.holds(1, 1), 1500);
        due("d's SALES", x.holds(3, 0), 1);
        due("d's thousandths", x.holds(3, 1), 400);
        says(25, "AT THE WORST: if all those TENANTS died this year:");
        // Of b, c and e all ways are open: b has something if c is alive (of the first) or e is (of the second).
        due("nothing, at the worst", x.holds(1, 2), 0);
        says(25, ", the least that all these SALES would bring the buyer together");
        due("c and e dead, b alive or not", x.holds(1, 3), 2);
        says(25, "; and how many of the ways bring it.");
        due("c dead, b alive or not", x.holds(3, 3), 2);
        x.dies(1, 1700);
        due("b is KNOWN to be dead", x.holds(3, 3), 1);
        x.dies(2, 1700);
        due("nobody of the first can be alive", x.holds(3, 3), 1);
    }

    private static void whatARefusalLeaves() {
        says(10, "A call that is refused (NONE, false) changes nothing but the tape, where it is told. The constants:");
        HopeOffice x = village();
        due("too much", feed(x, "b".repeat(100)), NONE);
        due("what did fit stays", x.count(6), 100);
        due("its first byte is still a c", x.settle(5, 1, 0, 1), 2);
        due("by which c has all", x.falls(2, 4, 2), 5);
        due("the tape is used up", x.count(6), 0);
        feed(x, "p<w)");
        due("a FAULT", x.act(4), -1003);
        due("the tape is used up by it", x.count(6), 0);
        due("the ACT before stays", x.hard(0), 1);
        due("NONE", NONE, -1);
    }

    /** Every sentence from the Terms on stands behind a says(), but for the heads of the promises. */
    private static void theWholeDocument() throws IOException {
        Path page = Path.of("../shared/DOC.md");
        Path tests = Path.of("src/test/java");
        if (!Files.exists(page) || !Files.isDirectory(tests)) {
            return;
        }
        String text = Files.readString(page).replaceAll("\\s+", " ");
        int from = Math.max(0, text.indexOf("## Terms"));
        int to = text.indexOf("## Not promised");
        text = text.substring(from, to < 0 ? text.length() : to);
        boolean[] quoted = new boolean[text.length()];
        try (DirectoryStream<Path> files = Files.newDirectoryStream(tests, "*Test.java")) {
            for (Path file : files) {
                for (Matcher m = QUOTED.matcher(Files.readString(file)); m.find();) {
                    mark(text, m.group(2).replace("\\\"", "\"").replace("\\\\", "\\"), quoted);
                }
            }
        }
        for (Matcher m = Pattern.compile("## Promise \\d+: [A-Za-z ]+`[^`]*`:|## Terms|```(text)?|==== \\d\\.").matcher(text); m.find();) {
            mark(text, m.group(), quoted);
        }
        says(1, "HopeOffice");
        int begin = 0;
        for (int i = 0; i <= text.length(); i++) {
            if (i == text.length() || quoted[i]) {
                String left = text.substring(begin, i).trim();
                due("a test of \"" + left + "\"", left.length() > MOST_LEFT_OUT, false);
                begin = i + 1;
            }
        }
    }

    private static void mark(String text, String words, boolean[] quoted) {
        for (int at = text.indexOf(words); at >= 0; at = text.indexOf(words, at + 1)) {
            for (int i = at; i < at + words.length(); i++) {
                quoted[i] = true;
            }
        }
    }
}
