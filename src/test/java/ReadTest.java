/** Rolls told by a text (promise 9): what is read, where the faults are, what stays. */
public final class ReadTest {
    private static int wrong = 0;
    private static int asked = 0;

    public static void main(String[] args) {
        whatIsRead();
        whatAReadRollReplaces();
        words();
        numbers();
        cells();
        endings();
        oddBytes();
        longTexts();
        everyByte();
        everyNumber();
        everyBeginning();
        everyCell();
        fullText();
        yearsOfText();
        blanksBetween();
        System.out.println(asked + " asked, " + wrong + " not as due");
        if (wrong != 0) {
            System.exit(1);
        }
    }

    private static void due(String what, long got, long want) {
        asked++;
        if (got != want) {
            wrong++;
            System.out.println(what + " answered " + got + ", due is " + want);
        }
    }

    private static int told(ScrapedRoll x, String text) {
        x.clear();
        for (int k = 0; k < text.length(); k++) {
            x.type(text.charAt(k));
        }
        return x.read();
    }

    private static void items(String text, int want) {
        due("\"" + text + "\"", told(new ScrapedRoll(), text), want);
    }

    /** A fault's place, and that all stays. */
    private static void fault(String text, int place) {
        ScrapedRoll x = new ScrapedRoll();
        x.years(3);
        x.write(2, 0, 0, 1);
        x.seen(2, 0, 0, 0);
        due("\"" + text + "\"", told(x, text), -10 - place);
        due("layers stay, \"" + text + "\"", x.count(0), 1);
        due("the year stays, \"" + text + "\"", x.count(1), 3);
        due("seen stays, \"" + text + "\"", x.count(4), 1);
        due("what may be undone stays, \"" + text + "\"", x.count(5), 2);
        due("the text stays, \"" + text + "\"", x.count(6), text.length());
        due("it is no refusal, \"" + text + "\"", x.status(0) + x.status(1) + x.status(2), 0);
    }

    private static void whatIsRead() {
        ScrapedRoll x = new ScrapedRoll();
        due("all items", told(x, "roll;write 5 4 3 1;years 12;rub 5;write 5 0 2 0;"), 5);
        int[][] want = {{4, 3, 1, 0, 12}, {0, 2, 0, 12, -1}};
        for (int i = 0; i < 2; i++) {
            for (int what = 0; what <= 4; what++) {
                due("layer " + i + ", " + what, x.of(5, i, what), want[i][what]);
            }
        }
        due("layers", x.count(0), 2);
        due("year", x.count(1), 12);
        due("again the same", x.read(), 5);
        due("layers", x.count(0), 2);
        items("roll;", 1);
        items("  roll  ;  ", 1);
        items("roll;years1;years 99;years 01;", 4);
        items("roll;write 00 01 02 01;", 2);
        items("roll;write0 0 0 1;rub0;", 3);
    }

    private static void whatAReadRollReplaces() {
        ScrapedRoll x = new ScrapedRoll();
        x.write(0, 0, 0, 1);
        x.years(5);
        x.seen(0, 0, 0, 1);
        x.image(0);
        x.thumbs(0, 0, 1, 1);
        x.rub(1);
        due("read", told(x, "roll;years 2;"), 2);
        due("layers", x.count(0), 0);
        due("year", x.count(1), 2);
        due("seen none", x.count(4), 0);
        due("nothing to undo", x.count(5), 0);
        due("nothing to undo", x.undo(), -3);
        due("the text stays", x.count(6), 13);
        due("the fraction stays", x.part(0), 3);
        due("status stays", x.status(1), 2);
        due("images stay", x.from(0), 1);
        due("the image's layer", x.count(0), 1);
        due("the image's year", x.count(1), 5);
    }

    private static void words() {
        fault("rolls;", 0);
        fault("rol;", 0);
        fault("holl;", 0);
        fault("rollz;", 0);
        fault("rolla;", 0);
        fault("roll;zub 0;", 5);
        fault("roll;yearz 1;", 5);
        fault(" wrote;", 1);
        fault("years 1;", 0);
        fault(";roll;", 0);
        fault("5;", 0);
        fault("roll;roll;", 5);
        fault("roll;years 1; roll;", 14);
        fault("roll;;", 5);
        fault("roll;7;", 5);
        fault("roll roll;", 5);
        fault("roll 1;", 5);
        fault("roll;rubs 0;", 5);
        fault("roll;year 1;", 5);
        fault("roll;writerub", 5);
        fault("roll;years years;", 11);
        fault("roll;years ;", 11);
        fault("roll;years 1 years 1;", 13);
        fault("roll;write 0 0 0 1 1;", 19);
        fault("roll;write 0 0 0;", 16);
        fault("roll;write 0 0 0 rub;", 17);
    }

    private static void numbers() {
        fault("roll;years 0;", 11);
        fault("roll;years 00;", 11);
        fault("roll;years 007;", 11);
        fault("roll;years 100;", 11);
        fault("roll;years 99999999999999999999;", 11);
        fault("roll;years 1 2;", 13);
        fault("roll;write 6 0 0 0;", 11);
        fault("roll;write 0 6 0 0;", 13);
        fault("roll;write 0 0 5 0;", 15);
        fault("roll;write 0 0 0 2;", 17);
        fault("roll;write 001 0 1;", 11);
        fault("roll;write 0 0 0 001;", 17);
        fault("roll;rub 6;", 9);
        fault("roll;write 0 0 0 1;rub 000;", 23);
    }

    private static void cells() {
        fault("roll;rub 0;", 9);
        fault("roll;write 0 0 0 1;write 0 0 0 1;", 25);
        fault("roll;write 0 0 0 1;write  0 9 9 9;", 26);
        fault("roll;write 0 0 0 1;rub 0;rub 0;", 29);
        fault("roll;write 0 0 0 1;rub 1;", 23);
        String four = "roll;";
        for (int k = 0; k < 4; k++) {
            four += "write 1 0 0 0;rub 1;";
        }
        items(four, 9);
        fault(four + "write 1 0 0 0;", four.length() + 6);
        fault(four + "rub 1;", four.length() + 4);
        items(four + "write 2 0 0 0;", 10);
    }

    private static void endings() {
        fault("", 0);
        fault("   ", 3);
        fault("roll", 4);
        fault("roll ", 5);
        fault("roll;rub", 8);
        fault("roll;years 5", 12);
        fault("roll;years 5  ", 14);
        fault("roll;write 0 0", 14);
        fault("roll;write 0 0 0 1", 18);
        fault("roll;ye", 5);
        fault("roll;years 100", 11);
    }

    private static void oddBytes() {
        fault("Roll;", 0);
        fault("roll;Years 1;", 5);
        fault("roll;years -1;", 11);
        fault("roll;years 1\n;", 12);
        fault("roll;years\t1;", 10);
        fault("roll:", 4);
        fault("roll;years 1;\0", 13);
        fault("roll;years 1{;", 12);
        fault("roll;years 1/;", 12);
        fault("roll`;", 4);
        fault((char) 127 + "roll;", 0);
    }

    private static void longTexts() {
        String many = "roll;";
        while (many.length() + 9 <= 150) {
            many += "years 99;";
        }
        ScrapedRoll x = new ScrapedRoll();
        due("years to the last", told(x, many), 17);
        due("years to the last", x.count(1), 999);
        String blanks = many;
        while (blanks.length() < 150) {
            blanks += " ";
        }
        items(blanks, 17);
        String shut = "roll;years 1";
        while (shut.length() < 149) {
            shut += " ";
        }
        items(shut + ";", 2);
        fault(shut + " ", 150);
        fault(shut + "x", 149);
    }

    private static boolean letter(int b) {
        return b >= 'a' && b <= 'z';
    }

    private static boolean figure(int b) {
        return b >= '0' && b <= '9';
    }

    /** "a byte that begins none": each of the 128 at each kind of place. */
    private static void everyByte() {
        for (int b = 0; b < 128; b++) {
            String at = String.valueOf((char) b);
            if (b == ' ') {
                items(at + "roll;", 1);
                items("roll;" + at, 1);
                items("roll;years 5" + at + ";", 2);
                items("roll;years" + at + "5;", 2);
                fault("ro" + at + "ll;", 0);
                continue;
            }
            fault(at + "roll;", 0);
            fault("ro" + at + "ll;", 0);
            fault("roll;" + at, 5);
            fault("roll;" + at + ";", 5);
            fault("roll" + at, letter(b) ? 0 : b == ';' ? 5 : 4, b == ';');
            fault("roll;years " + at + ";", 11, b > '0' && b <= '9');
            fault("roll;years 5" + at + ";", b == ';' ? 13 : 12, figure(b));
            fault("roll;years" + at + "5;", letter(b) ? 5 : 10, b >= '0' && b <= '9');
        }
    }

    /** A fault, but where the text can be read. */
    private static void fault(String text, int place, boolean isRead) {
        if (isRead) {
            due("\"" + text + "\" is read", told(new ScrapedRoll(), text) > 0 ? 1 : 0, 1);
        } else {
            fault(text, place);
        }
    }

    /** "a number not as told": each of 0 to 99, of one or two figures, and some of three. */
    private static void everyNumber() {
        for (int n = 0; n <= 120; n++) {
            for (String form : new String[] {"%d", "%02d", "%03d", "%04d"}) {
                String told = String.format(form, n);
                boolean number = told.length() <= 2;
                fault("roll;years " + told + ";", 11, number && n >= 1 && n <= 99);
                fault("roll;write " + told + " 0 0 0;", 11, number && n <= 5);
                fault("roll;write 5 " + told + " 4 1;", 13, number && n <= 5);
                fault("roll;write 0 5 " + told + " 0;", 15, number && n <= 4);
                fault("roll;write 0 0 0 " + told + ";", 17, number && n <= 1);
                fault("roll;write 3 0 0 1;rub " + told + ";", 23, number && n == 3);
            }
        }
    }

    /** "the TEXT's length, if it ends too early": each beginning of a text. */
    private static void everyBeginning() {
        String text = " roll ;  write 0 1 2 1 ;years 12; rub 0;";
        String[] tokens = {"roll", ";", "write", "0", "1", "2", "1", ";", "years", "12", ";", "rub", "0", ";"};
        int place = 0;
        int items = 0;
        for (String token : tokens) {
            int start = text.indexOf(token, place);
            // blanks behind the token ahead of this one
            for (int length = place; length <= start; length++) {
                String cut = text.substring(0, length);
                if (items > 0 && cut.trim().endsWith(";")) {
                    items(cut, items);
                } else {
                    fault(cut, length);
                }
            }
            for (int length = start + 1; length < start + token.length(); length++) {
                // a cut word is none, a cut number is one
                fault(text.substring(0, length), letter(token.charAt(0)) ? start : length);
            }
            place = start + token.length();
            items += token.equals(";") ? 1 : 0;
        }
        items(text, 4);
    }

    /** "a CELL over which can not be WRITTEN (4 LAYERS, too), whose topmost LAYER can not be RUBBED". */
    private static void everyCell() {
        for (int c = 0; c < 6; c++) {
            fault("roll;rub " + c + ";", 9);
            fault("roll;write " + c + " 0 0 0;write " + c + " 0 0 0;", 25);
            fault("roll;write " + c + " 0 0 0;rub " + c + ";rub " + c + ";", 29);
            items("roll;write " + c + " 0 0 0;rub " + c + ";write " + c + " 0 0 0;", 4);
            String three = "roll;";
            for (int k = 0; k < 3; k++) {
                three += "write " + c + " 0 0 0;rub " + c + ";";
            }
            String four = three + "write " + c + " 0 0 0;";
            items(four, 8);
            fault(four + "write " + c + " 0 0 0;", four.length() + 6);
            items(four + "rub " + c + ";", 9);
            fault(four + "rub " + c + ";write " + c + ";", four.length() + 12);
        }
        // the first token that can not stand there: the cell, though its numbers are wrong as well
        fault("roll;write 0 0 0 0;write 0 6 5 2;", 25);
        fault("roll;rub 0 0;", 9);
        // ahead of the cell nothing is read: one that was written in the real roll does not count
        ScrapedRoll x = new ScrapedRoll();
        x.write(0, 0, 0, 0);
        due("the roll that is read begins empty", told(x, "roll;rub 0;"), -19);
        due("the roll that is read begins empty", told(x, "roll;write 0 1 1 1;"), 2);
        due("it took the other's place", x.layers(0), 1);
        due("it took the other's place", x.of(0, 0, 0), 1);
    }

    /** "(150 bytes at most)": a text of just so many, and the byte that finds no place. */
    private static void fullText() {
        String full = "roll;";
        for (int k = 0; k < 18; k++) {
            full += "years 2;";
        }
        due("the length", full.length(), 149);
        ScrapedRoll x = new ScrapedRoll();
        due("19 items", told(x, full), 19);
        due("149 bytes", x.count(6), 149);
        due("the last byte", x.type(' '), 150);
        due("19 items", x.read(), 19);
        due("no place", x.type(';'), -4);
        due("what found no place is not read", x.read(), 19);
        due("year 36", x.count(1), 36);
        x.clear();
        due("an empty one", x.read(), -10);
        due("all stays", x.count(1), 36);
        fault(full.substring(0, 148) + "  ", 150);
        // words and numbers that end with the last byte
        String blanks = " ".repeat(150);
        fault(blanks, 150);
        fault(blanks.substring(4) + "roll", 150);
        fault(blanks.substring(5) + "rolls", 145);
        items(blanks.substring(5) + "roll;", 1);
        fault("roll;" + blanks.substring(10) + "years", 150);
        fault("roll;" + blanks.substring(9) + "year", 146);
        fault("roll;years" + blanks.substring(12) + "99", 150);
        fault("roll;years" + blanks.substring(13) + "100", 147);
        fault("roll;years 99" + blanks.substring(13), 150);
        items("roll;years 99" + blanks.substring(14) + ";", 2);
    }

    /** Years in a text end at 999 like others, and what stands then is as if it had been done. */
    private static void yearsOfText() {
        String text = "roll;";
        for (int k = 0; k < 11; k++) {
            text += "years 99;";
        }
        ScrapedRoll x = new ScrapedRoll();
        due("eleven times 99", told(x, text + "write 0 0 0 1;rub 0;"), 14);
        due("999 at most", x.count(1), 999);
        due("written", x.of(0, 0, 3), 999);
        due("rubbed", x.of(0, 0, 4), 999);
        due("read again", x.read(), 14);
        due("999 at most", x.count(1), 999);
        due("layers", x.count(0), 1);
    }

    /** "blanks (32) between": as many as there are, and none where tokens can be told apart without. */
    private static void blanksBetween() {
        items("      roll   ;     write    0    5   4    1    ;   rub  0  ;  ", 3);
        items("roll;write0 5 4 1;rub0;years99;", 4);
        fault("roll;write 0541;", 11);
        fault("roll;write 05 41;", 14);
        fault("roll;write 0 5 41;", 15);
        items("roll;write 00 05 04 01;rub 00;", 3);
        fault("roll;writ e 0 5 4 1;", 5);
        fault("roll;years 1 0;", 13);
        fault("ro ll;", 0);
    }
}
