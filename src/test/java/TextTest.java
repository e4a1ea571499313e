/** Promises 15 and 16: ports read from texts, and their faults. */
public final class TextTest {
    private static final Due T = new Due("TextTest");

    public static void main(String[] args) {
        goodTexts();
        sorts();
        ontoWhatThereIs();
        refusals();
        wordFaults();
        numberFaults();
        endFaults();
        room();
        nothingIsTold();
        T.end();
    }

    private static void good(SeatsToTheReluctant x, String text, int items) {
        Due.write(x, 0, text);
        T.due("15: port of '" + text + "'", x.port(0), items);
        T.due("16: fault of '" + text + "'", x.fault(), -1);
    }

    private static void bad(SeatsToTheReluctant x, String text, int place) {
        Due.write(x, 0, text);
        int refused = x.status(16);
        T.due("15: port of '" + text + "'", x.port(0), -6);
        T.due("16: fault of '" + text + "'", x.fault(), place);
        T.due("15: counted, '" + text + "'", x.status(16), refused + 1);
    }

    private static void bad(String text, int place) {
        bad(new SeatsToTheReluctant(), text, place);
    }

    private static void goodTexts() {
        SeatsToTheReluctant x = new SeatsToTheReluctant();
        good(x, "fence 0", 1);
        good(x, "fence 48;fence 07;fence 7", 3);
        T.due("15: status(1)", x.status(1), 3);
        good(x, "open 7;open 7;open 24", 3);
        T.due("15: status(1)", x.status(1), 2);
        good(x, "seats 1", 1);
        T.due("15: status(2)", x.status(2), 1);
        good(x, "seats 04;scent 00", 2);
        T.due("15: status(2)", x.status(2), 4);
        T.due("15: status(3)", x.status(3), 0);
        good(x, "scent 40", 1);
        T.due("15: status(3)", x.status(3), 40);
        good(x, "person 6 9 20 4 24;person 0 0 0 1 9", 2);
        int[] clerk = {6, 9, 20, 4, 24, 0};
        int[] person = {0, 0, 0, 1, 9, 0};
        for (int what = 0; what < 6; what++) {
            T.due("15: personOf(0, " + what + ")", x.personOf(0, what), clerk[what]);
            T.due("15: personOf(1, " + what + ")", x.personOf(1, what), person[what]);
        }
        good(x, "open 9", 1);
        T.due("15: status(0)", x.status(0), 2);
        good(x, "open 0;person 1 1 1 1 0;person 1 1 1 1 00", 3);
        T.due("15: squareOf(0, 1)", x.squareOf(0, 1), 12);
    }

    private static void sorts() {
        for (int sort = 0; sort < 4; sort++) {
            SeatsToTheReluctant x = new SeatsToTheReluctant();
            String text = "seats 3";
            x.row(5, sort, text.length());
            for (int i = 0; i < text.length(); i++) {
                x.set(5, i, 0x7777777700000000L * (sort == 3 ? 1 : 0) + text.charAt(i));
            }
            T.due("15: port of sort " + sort, x.port(5), 1);
            T.due("15: status(2)", x.status(2), 3);
            x.set(5, 0, 's' + 256);
            T.due("15: another letter, but for bytes", x.port(5), sort == 0 ? 1 : -6);
            T.due("16: its place", x.fault(), sort == 0 ? -1 : 0);
        }
    }

    private static void ontoWhatThereIs() {
        SeatsToTheReluctant x = new SeatsToTheReluctant();
        x.person(0, 0, 0, 1, 10);
        x.fence(11, true);
        good(x, "open 11;person 1 1 1 1 11;fence 12", 3);
        T.due("15: status(0)", x.status(0), 2);
        T.due("15: status(1)", x.status(1), 1);
        bad(x, "person 1 1 1 1 12", 15);
        bad(x, "fence 11", 6);
        bad(x, "fence 10", 6);
        bad(x, "fence 13;person 1 1 1 1 13", 24);
        bad(x, "person 1 1 1 1 13;fence 13", 24);
        good(x, "open 10;open 12", 2);
        T.due("15: status(1)", x.status(1), 0);
    }

    private static void refusals() {
        SeatsToTheReluctant x = new SeatsToTheReluctant();
        x.person(0, 0, 0, 1, 0);
        x.show(1, 0);
        bad(x, "x", 0);
        T.due("15: port(8)", x.port(8), -1);
        T.due("15: port(-1)", x.port(-1), -1);
        T.due("15: port(1)", x.port(1), -2);
        T.due("15: port(2)", x.port(2), -3);
        T.due("16: these came to no row", x.fault(), 0);
        good(x, "open 0", 1);
        T.due("15: port(2)", x.port(2), -3);
        T.due("16: still none", x.fault(), -1);
    }

    private static void wordFaults() {
        String[] words = {"fence", "open", "person", "seats", "scent"};
        for (String word : words) {
            for (int i = 1; i <= word.length(); i++) {
                bad(word.substring(0, i), i);
                bad(word.substring(0, i) + "!", i);
                bad("open 0;" + word.substring(0, i) + "!", i + 7);
            }
        }
        bad("", 0);
        bad(" open 1", 0);
        bad("Open 1", 0);
        bad("sxats 1", 1);
        bad("sceats 1", 3);
        bad("open1", 4);
        bad("open  1", 5);
        bad("open 1 ", 6);
        bad("open 1; open 2", 7);
        bad("open 1;;open 2", 7);
        bad("open 1,open 2", 6);
        bad("person 0 1  1 1 1", 11);
        bad("person 0 1;1 1 1", 10);
        bad("person 0 1 1 1 1 1", 16);
        bad("open -1", 5);
    }

    private static void numberFaults() {
        bad("fence 24", 6);
        bad("fence 024", 8);
        bad("fence 24x", 6);
        bad("fence 49", 6);
        bad("fence 99x", 6);
        bad("fence 100", 8);
        bad("open 49", 5);
        bad("open 480", 7);
        bad("open 012", 7);
        bad("seats 0", 6);
        bad("seats 5", 6);
        bad("seats 00", 6);
        bad("seats 10", 6);
        bad("seats 100", 6);
        bad("seats 5x", 6);
        bad("seats 4x", 7);
        bad("scent 41", 6);
        bad("scent 400", 8);
        bad("person 7 9 9 1 9", 7);
        bad("person 10 9 9 1 9", 7);
        bad("person 6 10 9 1 9", 9);
        bad("person 6 9 21 1 9", 11);
        bad("person 6 9 9 0 9", 13);
        bad("person 6 9 9 5 9", 13);
        bad("person 6 9 9 1 49", 15);
        bad("person 6 9 20 1 480", 18);
        bad("person 7", 7);
        bad("seats 9;", 6);
    }

    private static void endFaults() {
        bad("open 1;", 7);
        bad("open ", 5);
        bad("person 0", 8);
        bad("person 0 ", 9);
        bad("person 0 1 2", 12);
        bad("person 0 1 2 3 ", 15);
        SeatsToTheReluctant x = new SeatsToTheReluctant();
        x.row(0, 0, 160);
        T.due("15: a row of 0", x.port(0), -6);
        T.due("16: a row of 0", x.fault(), 0);
        // 23 items, of which the last is longer, fill the longest row.
        StringBuilder text = new StringBuilder();
        for (int i = 0; i < 21; i++) {
            text.append("open 1;");
        }
        text.append("open 2;fence 3");
        while (text.length() > 160) {
            text.delete(0, 7);
        }
        int items = text.toString().split(";").length;
        good(new SeatsToTheReluctant(), text.toString(), items);
        StringBuilder full = new StringBuilder("seats 1;");
        while (full.length() < 152) {
            full.append("seats 1;");
        }
        full.append("scent 10");
        T.due("15: the longest text", full.length(), 160);
        good(new SeatsToTheReluctant(), full.toString(), 20);
        full.setCharAt(159, ';');
        bad(full.toString(), 160);
    }

    private static void room() {
        SeatsToTheReluctant x = new SeatsToTheReluctant();
        for (int p = 0; p < 6; p++) {
            x.person(0, 0, 0, 1, 0);
        }
        bad(x, "person 1 1 1 1 1;person 1 1 1 1 1", 17);
        bad(x, "person 1 1 1 1 1;person", 17);
        bad(x, "person 1 1 1 1 1;person!", 17);
        bad(x, "person 1 1 1 1 1;perso", 22);
        bad(x, "person 1 1 1 1 1;perso!", 22);
        bad(x, "person 1 1 1 1 1;p", 18);
        bad(x, "person 7 1 1 1 1;person", 7);
        T.due("15: still six", x.status(0), 6);
        good(x, "person 1 1 1 1 1;open 9", 2);
        bad(x, "person 1 1 1 1 1", 0);
        bad(x, "open 9;person 9", 7);
        T.due("15: seven", x.status(0), 7);
    }

    private static void nothingIsTold() {
        SeatsToTheReluctant x = new SeatsToTheReluctant();
        bad(x, "fence 1;person 0 0 0 1 9;seats 4;scent 9;open x", 46);
        T.due("15: status(0)", x.status(0), 0);
        T.due("15: status(1)", x.status(1), 0);
        T.due("15: status(2)", x.status(2), 2);
        T.due("15: status(3)", x.status(3), 20);
    }
}
