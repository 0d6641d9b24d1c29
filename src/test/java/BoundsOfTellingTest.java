import java.util.function.Supplier;

/** The boundaries of what is told: years, persons, tables, numbers and the tape. */
public final class BoundsOfTellingTest extends Bounds {
    public static void main(String[] args) {
        theNewObject();
        theYears();
        thePersons();
        theDead();
        theTables();
        theLives();
        theNumbers();
        theDiscounts();
        theTape();
        end(1, 2, 3, 4, 5, 6, 7, 8, 9);
    }

    private static void theNewObject() {
        says(1, "The YEAR 1700; no PERSONS, SETTLEMENTS.");
        HopeOffice x = new HopeOffice();
        due("NOW", x.count(0), 1700);
        for (int what = 1; what < 8; what++) {
            due("count(" + what + ")", x.count(what), 0);
        }
        Supplier<HopeOffice> empty = HopeOffice::new;
        no(empty, "dies", o -> o.dies(0, 1700));
        none(empty, "settle", o -> o.settle(1, 0, 0, 1));
        none(empty, "named", o -> o.named(0, 1700));
        none(empty, "falls", o -> o.falls(0, 0, 0));
        none(empty, "chance", o -> o.chance(0, 0, 1700, 1700, 1));
        none(empty, "worth", o -> o.worth(0, 0, 1700, 1700));
        none(empty, "sale", o -> o.sale(0, 0, 1, 1, 0, true));
        no(empty, "notice", o -> o.notice(0, 0));
        none(empty, "charge", o -> o.charge(0, 0, 1, 1));
        none(empty, "act", o -> o.act(1));
        none(empty, "hard", o -> o.hard(0));
        none(empty, "undo", o -> o.undo(0));
        none(empty, "least", o -> o.least(0, 0, 1, true));
        none(empty, "cover", o -> o.cover(0, 0, 1));
        none(empty, "gain", o -> o.gain(0, 0, 1700));
        none(empty, "paid", o -> o.paid(0, 0, 0, 1700));
        none(empty, "holds", o -> o.holds(0, 0));
        no(empty, "papers", o -> o.papers(0, 1700));
        none(empty, "look", o -> o.look(0, 0));
        due("falseOnes", x.falseOnes(), 0);
        says(1, "LIVES at the AGES 0, 10, .. 110: twelve numbers (200 at most, none above the one ahead of it; 0 at first;");
        for (int t = 0; t < 4; t++) {
            for (int age = 0; age <= 110; age += 5) {
                due("lives(" + t + ", " + age + ")", x.lives(t, age), 0);
            }
        }
        says(1, "INTEREST is 0 to 20 hundredths a year (5 at first).");
        due("INTEREST", x.count(8), 5);
        due("discount(1)", x.discount(1), 952380);
        says(1, "DUTY (hundredths told, 0 to 50; 0 at first)");
        due("DUTY", x.count(9), 0);
        says(1, "All memory is the office's own.");
        HopeOffice other = village();
        due("one's persons", other.count(1), 5);
        due("another's persons", x.count(1), 0);
        due("another's settlements", x.count(2), 0);
        due("another's tape", x.count(6), 0);
        due("another's lives", x.lives(0, 0), 0);
        due("another's interest", x.count(8), 5);
        says(1, "`NONE = -1`: There is none.");
        due("NONE", HopeOffice.NONE, -1);
    }

    private static void theYears() {
        says(2, "NOW is a YEAR (1700 at first, to 1999), never back.");
        HopeOffice x = new HopeOffice();
        due("the same year", x.now(1700), true);
        due("the next", x.now(1701), true);
        due("that again", x.now(1701), true);
        due("NOW", x.count(0), 1701);
        due("the last", x.now(1999), true);
        due("that again", x.now(1999), true);
        due("NOW", x.count(0), 1999);
        says(2, "NOW is a YEAR: true; false: no such one, it is past.");
        no(Bounds::village, "now(1699)", o -> o.now(1699));
        no(Bounds::village, "now(2000)", o -> o.now(2000));
        no(Bounds::fallen, "now(1704) in 1705", o -> o.now(1704));
        no(Bounds::fallen, "now(1700) in 1705", o -> o.now(1700));
        for (int year : FAR) {
            no(Bounds::village, "now(" + year + ")", o -> o.now(year));
        }
        Supplier<HopeOffice> last = () -> {
            HopeOffice o = village();
            o.now(1999);
            return o;
        };
        no(last, "now(1998) in 1999", o -> o.now(1998));
        no(last, "now(2000) in 1999", o -> o.now(2000));
    }

    private static void thePersons() {
        says(3, "each born in a YEAR (1600 to NOW)");
        HopeOffice x = new HopeOffice();
        due("born in 1600", x.person(1600, NONE), 0);
        due("born in 1700", x.person(1700, NONE), 1);
        none(Bounds::village, "born in 1599", o -> o.person(1599, NONE));
        none(Bounds::village, "born in 1701", o -> o.person(1701, NONE));
        for (int year : FAR) {
            none(Bounds::village, "born in " + year, o -> o.person(year, NONE));
        }
        x.now(1705);
        due("born in the new NOW", x.person(1705, NONE), 2);
        due("born behind it", x.person(1706, NONE), NONE);
        x.now(1999);
        due("born in the last year", x.person(1999, NONE), 3);
        due("born behind it", x.person(2000, NONE), NONE);
        says(3, "of a parent (NONE: nobody that is here): the number; NONE: no such ones,");
        due("of the last person", x.person(1999, 3), 4);
        none(Bounds::village, "of the next, that is itself", o -> o.person(1700, 5));
        none(Bounds::village, "of 16", o -> o.person(1700, 16));
        for (int parent : FAR) {
            none(Bounds::village, "of " + parent, o -> o.person(1700, parent));
        }
        says(3, "ahead of its parent's birth, 16 are there.");
        none(Bounds::village, "born a year ahead of the parent", o -> o.person(1689, 4));
        due("born in the parent's year", village().person(1690, 4), 5);
        says(3, "PERSONS 0 to 15 are the letters a to p");
        HopeOffice y = new HopeOffice();
        for (int i = 0; i < 16; i++) {
            due("person", y.person(1700, i - 1), i);
        }
        due("PERSONS", y.count(1), 16);
        due("a seventeenth", y.person(1700, NONE), NONE);
        due("a seventeenth of 15", y.person(1700, 15), NONE);
        due("PERSONS", y.count(1), 16);
        none(() -> people(16), "a seventeenth", o -> o.person(1670, 0));
        settle(y, 7, 0, "p");
        due("the letter p is PERSON 15", y.falls(0, 1 << 15, 15), 7);
        settle(y, 7, 15, "a");
        due("the letter a is PERSON 0", y.falls(1, 1, 0), 7);
    }

    private static void theDead() {
        says(4, "each may be told dead at NOW, in a YEAR (not behind NOW, nor ahead of that of birth).");
        due("dead in the year of birth", village().dies(4, 1690), true);
        due("dead in this year", village().dies(4, 1700), true);
        no(Bounds::village, "a year ahead of birth", o -> o.dies(4, 1689));
        no(Bounds::village, "a year behind NOW", o -> o.dies(4, 1701));
        for (int year : FAR) {
            no(Bounds::village, "dead in " + year, o -> o.dies(4, year));
        }
        HopeOffice x = new HopeOffice();
        x.person(1600, NONE);
        x.person(1700, NONE);
        due("dead in 1600", x.dies(0, 1600), true);
        due("the YEAR of death", x.count(40), 1600);
        due("born and dead in this year", x.dies(1, 1700), true);
        x.now(1999);
        x.person(1999, NONE);
        due("dead in the last year", x.dies(2, 1999), true);
        due("the YEAR of death", x.count(42), 1999);
        says(4, "PERSON o is dead since a YEAR: true; false: no such ones, it is told.");
        no(Bounds::village, "of the next", o -> o.dies(5, 1700));
        no(Bounds::village, "of -1", o -> o.dies(-1, 1700));
        no(Bounds::village, "of 16", o -> o.dies(16, 1700));
        for (int who : FAR) {
            no(Bounds::village, "of " + who, o -> o.dies(who, 1700));
        }
        no(Bounds::fallen, "told again in the same year", o -> o.dies(0, 1703));
        no(Bounds::fallen, "told again in another", o -> o.dies(0, 1704));
        HopeOffice full = people(16);
        due("the sixteenth", full.dies(15, 1700), true);
        due("the YEAR of death", full.count(55), 1700);
        due("the sixteenth again", full.dies(15, 1700), false);
    }

    private static void theTables() {
        says(5, "LIVES of TABLE t at AGE 10 i (i 0 to 10) are n");
        HopeOffice x = new HopeOffice();
        for (int t = 0; t < 4; t++) {
            for (int i = 0; i <= 10; i++) {
                due("table(" + t + ", " + i + ")", x.table(t, i, 150 - 10 * i - t), true);
            }
        }
        for (int t = 0; t < 4; t++) {
            for (int i = 0; i <= 10; i++) {
                due("lives of " + t + " at " + 10 * i, x.lives(t, 10 * i), 150 - 10 * i - t);
            }
        }
        no(Bounds::village, "row -1", o -> o.table(0, -1, 4));
        no(Bounds::village, "row -1 of a table behind another", o -> o.table(1, -1, 0));
        says(5, "that at 110 is 0");
        no(Bounds::village, "row 11", o -> o.table(0, 11, 0));
        no(Bounds::village, "row 12", o -> o.table(0, 12, 0));
        no(Bounds::village, "row 11 of the last", o -> o.table(3, 11, 0));
        says(5, "true; false: no such ones, above that ahead of it, below that behind it.");
        no(Bounds::village, "table -1", o -> o.table(-1, 0, 0));
        no(Bounds::village, "table 4", o -> o.table(4, 0, 0));
        for (int far : FAR) {
            no(Bounds::village, "table " + far, o -> o.table(far, 0, 0));
            no(Bounds::village, "row " + far, o -> o.table(0, far, 0));
            no(Bounds::village, "number " + far, o -> o.table(1, 0, far));
        }
        no(Bounds::village, "one above that ahead", o -> o.table(0, 3, 5));
        no(Bounds::village, "one above that ahead, in row 1", o -> o.table(1, 1, 1));
        no(Bounds::village, "one below that behind", o -> o.table(0, 2, 1));
        no(Bounds::village, "one below that behind, in row 0", o -> o.table(0, 0, 3));
        due("as that ahead", village().table(0, 3, 4), true);
        due("as that behind", village().table(0, 2, 2), true);
        HopeOffice y = new HopeOffice();
        for (int i = 0; i <= 10; i++) {
            y.table(2, i, 9);
        }
        due("the last row down to 0", y.table(2, 10, 0), true);
        due("the row ahead of it down to 0", y.table(2, 9, 0), true);
        due("the last row above it", y.table(2, 10, 1), false);
        due("the last row as it", y.table(2, 10, 0), true);
        says(5, "twelve numbers (200 at most,");
        due("200", new HopeOffice().table(0, 0, 200), true);
        no(Bounds::village, "201", o -> o.table(1, 0, 201));
        no(Bounds::village, "201 again", o -> o.table(0, 0, 201));
        no(Bounds::village, "-1", o -> o.table(1, 10, -1));
        due("0", new HopeOffice().table(0, 0, 0), true);
    }

    private static void theLives() {
        HopeOffice x = new HopeOffice();
        int[] rows = {200, 199, 189, 180, 178, 100, 99, 90, 87, 11, 9};
        for (int i = 0; i < rows.length; i++) {
            x.table(3, i, rows[i]);
        }
        says(6, "LIVES of TABLE t at an AGE (0 to 400); NONE: no such ones.");
        due("at 0", x.lives(3, 0), 200);
        due("at 400", x.lives(3, 400), 0);
        none(Bounds::village, "at -1", o -> o.lives(0, -1));
        none(Bounds::village, "at 401", o -> o.lives(0, 401));
        none(Bounds::village, "of -1", o -> o.lives(-1, 0));
        none(Bounds::village, "of 4", o -> o.lives(4, 0));
        for (int far : FAR) {
            none(Bounds::village, "at " + far, o -> o.lives(0, far));
            none(Bounds::village, "of " + far, o -> o.lives(far, 0));
        }
        says(6, "between two: the first less (the difference times the years since, through 10, rounded down); above 110: 0.");
        due("a difference of 1 at the 9th year", x.lives(3, 9), 200);
        due("a row itself", x.lives(3, 10), 199);
        due("a difference of 10", x.lives(3, 11), 198);
        due("a difference of 9 at the 1st year", x.lives(3, 21), 189);
        due("a difference of 9 at the 2nd year", x.lives(3, 22), 188);
        due("a difference of 9 at the 9th year", x.lives(3, 29), 181);
        due("a difference of 2 at the 4th year", x.lives(3, 34), 180);
        due("a difference of 2 at the 5th year", x.lives(3, 35), 179);
        due("a difference of 78 at the 9th year", x.lives(3, 49), 108);
        due("the last row itself", x.lives(3, 100), 9);
        due("9 to 0 at the 1st year", x.lives(3, 101), 9);
        due("9 to 0 at the 9th year", x.lives(3, 109), 1);
        due("at 110", x.lives(3, 110), 0);
        due("at 111", x.lives(3, 111), 0);
        due("at 119", x.lives(3, 119), 0);
        due("at 120", x.lives(3, 120), 0);
        due("another table's", x.lives(2, 0), 0);
        due("the one above has none of it", x.lives(2, 109), 0);
    }

    private static void theNumbers() {
        says(7, "What 0 INTEREST (0 to 20), 1 DUTY (0 to 50), is n: true; false: no such ones.");
        for (int n : new int[] {20, 0, 19, 1}) {
            HopeOffice x = village();
            due("INTEREST " + n, x.number(0, n), true);
            due("INTEREST", x.count(8), n);
            due("DUTY stays", x.count(9), 0);
        }
        for (int n : new int[] {50, 0, 49, 1}) {
            HopeOffice x = village();
            x.number(1, 7);
            due("DUTY " + n, x.number(1, n), true);
            due("DUTY", x.count(9), n);
            due("INTEREST stays", x.count(8), 0);
        }
        no(Bounds::village, "INTEREST 21", o -> o.number(0, 21));
        no(Bounds::village, "INTEREST 50", o -> o.number(0, 50));
        no(Bounds::village, "INTEREST -1", o -> o.number(0, -1));
        no(Bounds::village, "DUTY 51", o -> o.number(1, 51));
        no(Bounds::village, "DUTY -1", o -> o.number(1, -1));
        no(Bounds::village, "what 2", o -> o.number(2, 1));
        no(Bounds::village, "what -1", o -> o.number(-1, 1));
        for (int far : FAR) {
            no(Bounds::village, "what " + far, o -> o.number(far, 1));
            no(Bounds::village, "INTEREST " + far, o -> o.number(0, far));
            no(Bounds::village, "DUTY " + far, o -> o.number(1, far));
        }
    }

    private static void theDiscounts() {
        says(8, "DISCOUNT of k years (0 to 400); NONE: no such ones.");
        HopeOffice x = new HopeOffice();
        due("of 0", x.discount(0), 1000000);
        due("of 400", x.discount(400), 0);
        none(Bounds::village, "of -1", o -> o.discount(-1));
        none(Bounds::village, "of 401", o -> o.discount(401));
        for (int far : FAR) {
            none(Bounds::village, "of " + far, o -> o.discount(far));
        }
        says(8, "DISCOUNT of k years: 1000000, k times made 100 of it through (100 and INTEREST), rounded down.");
        for (int interest = 0; interest <= 20; interest++) {
            x.number(0, interest);
            int part = 1000000;
            for (int k = 0; k <= 20; k++) {
                due("of " + k + " by " + interest, x.discount(k), part);
                part = part * 100 / (100 + interest);
            }
        }
        HopeOffice y = new HopeOffice();
        due("each year is rounded", y.discount(3), 863836);
        y.number(0, 0);
        due("of 400 without INTEREST", y.discount(400), 1000000);
        y.number(0, 1);
        due("of 400 by 1", y.discount(400), 18638);
        y.number(0, 20);
        due("of 75 by 20", y.discount(75), 0);
    }

    private static void theTape() {
        says(9, "Twenty bytes come behind the tape, the highest of each int first: how many it has; NONE if that would be more than 100.");
        HopeOffice x = people(2);
        for (int bytes = 20; bytes <= 100; bytes += 20) {
            due("feed", feed(x, "b"), bytes);
            due("bytes", x.count(6), bytes);
        }
        due("a sixth time", x.feed(0, 0, 0, 0, 0), NONE);
        due("bytes", x.count(6), 100);
        Supplier<HopeOffice> full = () -> {
            HopeOffice o = village();
            o.settle(1, 0, 0, 1);
            feed(o, "c;" + "b,c/2;".repeat(5) + "*d(#<3&!(b|*c));".repeat(2) + "b;b;b;b;b;b;b;b;b;b;b;b;b;b;b;b;b;b;");
            return o;
        };
        due("a full tape", full.get().count(6), 100);
        none(full, "feed to a full tape", o -> o.feed(0x62626262, 0x62626262, 0x62626262, 0x62626262, 0x62626262));
        none(full, "feed of bytes that are 0", o -> o.feed(0, 0, 0, 0, 0));
        HopeOffice y = people(2);
        y.feed(0x2a612862, 0x7c232930, 0, -1, 0x80818283);
        due("each int's highest byte is the first", y.settle(1, 0, 0, 20), -1006);
        due("the tape is empty", y.count(6), 0);
        y.feed(0x62000000, 0, 0, 0, 0);
        due("from its begin again", y.settle(1, 0, 0, 1), 0);
        y.feed(0xe2000000, 0, 0, 0, 0);
        due("a byte above 127", y.settle(1, 0, 0, 1), -1000);
        y.feed(0x622c622c, 0x622c6228, 0x627c627c, 0x627c627c, 0x627c627c);
        due("behind the twenty", y.feed(0x62290000, 0, 0, 0, 0), 40);
        due("a text over two feeds", y.settle(1, 0, 0, 22), 1);
        due("a feed of -1", y.feed(-1, -1, -1, -1, -1), 20);
        due("bytes 255", y.settle(1, 0, 0, 20), -1000);
    }
}
