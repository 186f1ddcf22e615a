/** Rolls told by a text (promise 9): what is read, where the faults are, what stays. */
public final class ReadTest {
    private static int wrong = 0;
    private static int asked = 0;

    public static void main(String[] args) {
        whatIsRead();
        whatAReadRollReplaces();
        words();
        numbers();
        cells();
        endings();
        oddBytes();
        longTexts();
        System.out.println(asked + " asked, " + wrong + " not as due");
        if (wrong != 0) {
            System.exit(1);
        }
    }

    private static void due(String what, long got, long want) {
        asked++;
        if (got != want) {
            wrong++;
            System.out.println(what + " answered " + got + ", due is " + want);
        }
    }

    private static int told(ScrapedRoll x, String text) {
        x.clear();
        for (int k = 0; k < text.length(); k++) {
            x.type(text.charAt(k));
        }
        return x.read();
    }

    private static void items(String text, int want) {
        due("\"" + text + "\"", told(new ScrapedRoll(), text), want);
    }

    /** A fault's place, and that all stays. */
    private static void fault(String text, int place) {
        ScrapedRoll x = new ScrapedRoll();
        x.years(3);
        x.write(2, 0, 0, 1);
        x.seen(2, 0, 0, 0);
        due("\"" + text + "\"", told(x, text), -10 - place);
        due("layers stay, \"" + text + "\"", x.count(0), 1);
        due("the year stays, \"" + text + "\"", x.count(1), 3);
        due("seen stays, \"" + text + "\"", x.count(4), 1);
        due("what may be undone stays, \"" + text + "\"", x.count(5), 2);
        due("the text stays, \"" + text + "\"", x.count(6), text.length());
        due("it is no refusal, \"" + text + "\"", x.status(0) + x.status(1) + x.status(2), 0);
    }

    private static void whatIsRead() {
        ScrapedRoll x = new ScrapedRoll();
        due("all items", told(x, "roll;write 5 4 3 1;years 12;rub 5;write 5 0 2 0;"), 5);
        int[][] want = {{4, 3, 1, 0, 12}, {0, 2, 0, 12, -1}};
        for (int i = 0; i < 2; i++) {
            for (int what = 0; what <= 4; what++) {
                due("layer " + i + ", " + what, x.of(5, i, what), want[i][what]);
            }
        }
        due("layers", x.count(0), 2);
        due("year", x.count(1), 12);
        due("again the same", x.read(), 5);
        due("layers", x.count(0), 2);
        items("roll;", 1);
        items("  roll  ;  ", 1);
        items("roll;years1;years 99;years 01;", 4);
        items("roll;write 00 01 02 01;", 2);
        items("roll;write0 0 0 1;rub0;", 3);
    }

    private static void whatAReadRollReplaces() {
        ScrapedRoll x = new ScrapedRoll();
        x.write(0, 0, 0, 1);
        x.years(5);
        x.seen(0, 0, 0, 1);
        x.image(0);
        x.thumbs(0, 0, 1, 1);
        x.rub(1);
        due("read", told(x, "roll;years 2;"), 2);
        due("layers", x.count(0), 0);
        due("year", x.count(1), 2);
        due("seen none", x.count(4), 0);
        due("nothing to undo", x.count(5), 0);
        due("nothing to undo", x.undo(), -3);
        due("the text stays", x.count(6), 13);
        due("the fraction stays", x.part(0), 3);
        due("status stays", x.status(1), 2);
        due("images stay", x.from(0), 1);
        due("the image's layer", x.count(0), 1);
        due("the image's year", x.count(1), 5);
    }

    private static void words() {
        fault("rolls;", 0);
        fault("rol;", 0);
        fault("holl;", 0);
        fault("rollz;", 0);
        fault("rolla;", 0);
        fault("roll;zub 0;", 5);
        fault("roll;yearz 1;", 5);
        fault(" wrote;", 1);
        fault("years 1;", 0);
        fault(";roll;", 0);
        fault("5;", 0);
        fault("roll;roll;", 5);
        fault("roll;years 1; roll;", 14);
        fault("roll;;", 5);
        fault("roll;7;", 5);
        fault("roll roll;", 5);
        fault("roll 1;", 5);
        fault("roll;rubs 0;", 5);
        fault("roll;year 1;", 5);
        fault("roll;writerub", 5);
        fault("roll;years years;", 11);
        fault("roll;years ;", 11);
        fault("roll;years 1 years 1;", 13);
        fault("roll;write 0 0 0 1 1;", 19);
        fault("roll;write 0 0 0;", 16);
        fault("roll;write 0 0 0 rub;", 17);
    }

    private static void numbers() {
        fault("roll;years 0;", 11);
        fault("roll;years 00;", 11);
        fault("roll;years 007;", 11);
        fault("roll;years 100;", 11);
        fault("roll;years 99999999999999999999;", 11);
        fault("roll;years 1 2;", 13);
        fault("roll;write 6 0 0 0;", 11);
        fault("roll;write 0 6 0 0;", 13);
        fault("roll;write 0 0 5 0;", 15);
        fault("roll;write 0 0 0 2;", 17);
        fault("roll;write 001 0 1;", 11);
        fault("roll;write 0 0 0 001;", 17);
        fault("roll;rub 6;", 9);
        fault("roll;write 0 0 0 1;rub 000;", 23);
    }

    private static void cells() {
        fault("roll;rub 0;", 9);
        fault("roll;write 0 0 0 1;write 0 0 0 1;", 25);
        fault("roll;write 0 0 0 1;write  0 9 9 9;", 26);
        fault("roll;write 0 0 0 1;rub 0;rub 0;", 29);
        fault("roll;write 0 0 0 1;rub 1;", 23);
        String four = "roll;";
        for (int k = 0; k < 4; k++) {
            four += "write 1 0 0 0;rub 1;";
        }
        items(four, 9);
        fault(four + "write 1 0 0 0;", four.length() + 6);
        fault(four + "rub 1;", four.length() + 4);
        items(four + "write 2 0 0 0;", 10);
    }

    private static void endings() {
        fault("", 0);
        fault("   ", 3);
        fault("roll", 4);
        fault("roll ", 5);
        fault("roll;rub", 8);
        fault("roll;years 5", 12);
        fault("roll;years 5  ", 14);
        fault("roll;write 0 0", 14);
        fault("roll;write 0 0 0 1", 18);
        fault("roll;ye", 5);
        fault("roll;years 100", 11);
    }

    private static void oddBytes() {
        fault("Roll;", 0);
        fault("roll;Years 1;", 5);
        fault("roll;years -1;", 11);
        fault("roll;years 1\n;", 12);
        fault("roll;years\t1;", 10);
        fault("roll:", 4);
        fault("roll;years 1;\0", 13);
        fault("roll;years 1{;", 12);
        fault("roll;years 1/;", 12);
        fault("roll`;", 4);
        fault((char) 127 + "roll;", 0);
    }

    private static void longTexts() {
        String many = "roll;";
        while (many.length() + 9 <= 150) {
            many += "years 99;";
        }
        ScrapedRoll x = new ScrapedRoll();
        due("years to the last", told(x, many), 17);
        due("years to the last", x.count(1), 999);
        String blanks = many;
        while (blanks.length() < 150) {
            blanks += " ";
        }
        items(blanks, 17);
        String shut = "roll;years 1";
        while (shut.length() < 149) {
            shut += " ";
        }
        items(shut + ";", 2);
        fault(shut + " ", 150);
        fault(shut + "x", 149);
    }
}
