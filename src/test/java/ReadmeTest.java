import java.io.IOException;
import java.nio.file.Files;
import java.nio.file.Path;

/** The example of README.md: each call answers what the page says behind it; run from the project's root. */
public final class ReadmeTest {
    private static int wrong = 0;
    private static String page = "";

    private static void due(String call, Object got, Object want) {
        if (!String.valueOf(got).equals(String.valueOf(want))) {
            wrong++;
            System.out.println(call + " answered " + got + ", due is " + want);
        }
        boolean told = page.lines().anyMatch(line -> line.contains(call + ";") && line.contains("// " + want));
        if (!told) {
            wrong++;
            System.out.println("README.md doesn't say that " + call + " answers " + want);
        }
    }

    public static void main(String[] args) throws IOException {
        page = Files.readString(Path.of("README.md"));
        HopeOffice office = new HopeOffice();
        for (int i = 0; i <= 10; i++) {
            office.table(0, i, 100 - 10 * i);
        }
        int a = office.person(1650, HopeOffice.NONE);
        int b = office.person(1675, a);
        int c = office.person(1680, HopeOffice.NONE);
        due("int a = office.person(1650, HopeOffice.NONE)", a, 0);
        due("int b = office.person(1675, a)", b, 1);
        due("int c = office.person(1680, HopeOffice.NONE)", c, 2);
        due("office.feed(0x62286229, 0, 0, 0, 0)", office.feed(0x62286229, 0, 0, 0, 0), 20);
        int s = office.settle(1000, a, 0, 4);
        due("int s = office.settle(1000, a, 0, 4)", s, 0);
        due("office.falls(s, 1 << b, b)", office.falls(s, 1 << b, b), 1000);
        due("office.worth(s, b, 1700, 1700)", office.worth(s, b, 1700, 1700), 251);
        due("office.feed(0x702A323C, 0x77000000, 0, 0, 0)", office.feed(0x702A323C, 0x77000000, 0, 0, 0), 20);
        due("office.act(5)", office.act(5), 0);
        due("office.least(b, s, 500, true)", office.least(b, s, 500, true), 63);
        due("office.sale(b, s, 500, c, 60, true)", office.sale(b, s, 500, c, 60, true), 0);
        due("office.sale(b, s, 400, c, 200, true)", office.sale(b, s, 400, c, 200, true), 1);
        due("office.hard(0)", office.hard(0), 1);
        due("office.undo(0)", office.undo(0), 60);
        due("office.notice(1, 600)", office.notice(1, 600), true);
        due("office.now(1710)", office.now(1710), true);
        due("office.dies(a, 1709)", office.dies(a, 1709), true);
        due("office.gain(s, b, 1710)", office.gain(s, b, 1710), 1000);
        due("office.paid(s, b, c, 1710)", office.paid(s, b, c, 1710), 400);
        due("office.paid(s, b, b, 1710)", office.paid(s, b, b, 1710), 600);
        System.out.println(wrong == 0 ? "the example is right" : wrong + " wrong");
        if (wrong != 0) {
            System.exit(1);
        }
    }
}
