/** Promises 28 to 30: THE TAPE and texts. */
public final class TextsTest {
    public static void main(String[] args) {
        feed();
        wipe();
        people();
        listAndHints();
        faults();
        placesForPeople();
        bytesThatBeginNoToken();
        nothingHalf();
        Due.end();
    }

    private static void feed() {
        ScandalCounter x = new ScandalCounter();
        for (int v : new int[] {0, -1, 5, Integer.MIN_VALUE, Integer.MAX_VALUE}) {
            Due.due("28: n " + v, x.feed(0, v), Due.BEYOND);
        }
        Due.due("28: the lowest byte", x.feed('z' << 24 | 'z' << 16 | 'z' << 8 | 'l', 1), 1);
        Due.due("28: two of it", x.feed('z' << 24 | 'z' << 16 | 'a' << 8 | 'd', 2), 3);
        Due.due("28: three of it", x.feed('z' << 24 | 'y' << 16 | ';' << 8 | 'd', 3), 6);
        Due.due("28: four of it", x.feed('u' << 24 | 'k' << 16 | 'e' << 8 | ' ', 4), 10);
        Due.due("30: the highest first", x.text(), 2);
        Due.due("30: LADY", x.of(0, 0), Due.LADY);
        Due.due("30: DUKE", x.of(1, 0), Due.DUKE);
        for (int i = 1; i <= 29; i++) {
            Due.due("28: " + i, x.feed(0, 4), 4 * i);
        }
        Due.due("28: 118", x.feed(0, 2), 118);
        Due.due("28: 3 more are too many", x.feed(0, 3), Due.FULL);
        Due.due("28: BEYOND is asked first", x.feed(0, 5), Due.BEYOND);
        Due.due("28: 2 more are not", x.feed(0, 2), 120);
        Due.due("28: 1 more is", x.feed(0, 1), Due.FULL);
        Due.due("28: a finding changes nothing", x.count(5), 120);
    }

    private static void wipe() {
        ScandalCounter x = new ScandalCounter();
        Due.due("29: nothing", x.wipe(), 0);
        Due.feed(x, "lady");
        Due.due("29: 4", x.wipe(), 4);
        Due.due("29: nothing again", x.wipe(), 0);
        Due.due("29: what was there is gone", Due.text(x, "duke"), 1);
        Due.due("29: it began anew", x.of(0, 0), Due.DUKE);
    }

    private static void people() {
        ScandalCounter x = new ScandalCounter();
        Due.due("30: kinds", Due.text(x, "person;lady;duke;clergy;bishop;cowman;young"), 7);
        for (int kind = 0; kind < 7; kind++) {
            Due.due("30: kind " + kind, x.of(kind, 0), kind);
            Due.due("30: build of kind " + kind, x.of(kind, 2), 20);
            Due.due("30: owed of kind " + kind, x.of(kind, 1), 0);
        }
        Due.due("30: THE TAPE is empty then", x.count(5), 0);
        x = new ScandalCounter();
        Due.due("30: all of it", Due.text(x, " lady build 99 owed 9999 bore 9999 ;duke bore 5;young owed 7;duke build 0 bore 1"), 4);
        int[][] due = {{1, 9999, 99, 9999, 0}, {2, 0, 20, 5, 0}, {6, 7, 20, 0, 0}, {2, 0, 0, 1, 0}};
        for (int i = 0; i < 4; i++) {
            for (int what = 0; what < 5; what++) {
                Due.due("30: what " + what + " of " + i, x.of(i, what), due[i][what]);
            }
        }
        Due.due("30: blanks need not be, noughts may", Due.text(x, "cowman build0000099owed00000bore01"), 1);
        Due.due("30: its build", x.of(4, 2), 99);
        Due.due("30: its bore", x.of(4, 3), 1);
    }

    private static void listAndHints() {
        ScandalCounter x = new ScandalCounter();
        Due.due("30: list", Due.text(x, "said 5 7 20 ; said 0 0 0;said 1 2 3;said 1 2 4"), 4);
        Due.due("30: most", x.said(5), 720);
        Due.due("30: item by item", x.said(1), 204);
        Due.due("30: hints", Due.text(x, "hints 9999"), 1);
        Due.due("30: most hints", x.now(3), 9999);
        Due.due("30: the last counts", Due.text(x, "hints 5;lady;hints 0"), 3);
        Due.due("30: least hints", x.now(3), 0);
        x.say(3, 7, 20);
        Due.due("30: nought takes back", Due.text(x, "said 3 0 0"), 1);
        Due.due("30: it is so", x.said(3), 0);
    }

    private static void fault(String text, int fault) {
        ScandalCounter x = new ScandalCounter();
        Due.due("30: \"" + text + "\"", Due.text(x, text), -1 - fault);
        Due.due("30: THE TAPE is empty, \"" + text + "\"", x.count(5), 0);
        Due.due("30: nobody came, \"" + text + "\"", x.count(1), 0);
        Due.due("30: no finding, \"" + text + "\"", x.status(-1), 0);
    }

    private static void faults() {
        fault("", 0);
        fault("   ", 3);
        fault(";", 0);
        fault(" ;", 1);
        fault("5", 0);
        fault("lady;", 5);
        fault("lady; ", 6);
        fault("lady;;", 5);
        fault("lady lady", 5);
        fault("lady 5", 5);
        fault("lady5", 4);
        fault("ladyduke", 0);
        fault("  ladies", 2);
        fault("lad", 0);
        fault("xady", 0);
        fault("laxy", 0);
        fault("ladx", 0);
        fault("ladyz", 0);
        fault("ladya", 0);
        fault("lady build", 10);
        fault("lady build ;", 11);
        fault("lady build 100", 11);
        fault("lady build 99999999999999999999", 11);
        fault("lady build 4294967296", 11);
        fault("lady build x", 11);
        fault("lady build 5 6", 13);
        fault("lady build 5 build 6", 13);
        fault("lady owed 10000", 10);
        fault("lady owed 5 build 5", 12);
        fault("lady bore 10000", 10);
        fault("lady bore 5 owed 5", 12);
        fault("lady told 5", 5);
        fault("build 5", 0);
        fault("said", 4);
        fault("said 6 0 0", 5);
        fault("said 0 8 0", 7);
        fault("said 0 0 21", 9);
        fault("said 0 0", 8);
        fault("said 0 0;", 8);
        fault("said 0 0 0 0", 11);
        fault("said x", 5);
        fault("hints", 5);
        fault("hints 10000", 6);
        fault("hints 1 2", 8);
        fault("hints lady", 6);
        fault("hint 5", 0);
    }

    private static void placesForPeople() {
        ScandalCounter x = Due.county(0, 0, 0, 0, 0, 0);
        Due.due("30: the 9th", Due.text(x, "lady;duke;said 0 0 5; lady build 500"), -1 - 22);
        Due.due("30: none came", x.count(1), 6);
        Due.due("30: the 8th", Due.text(x, "lady;duke"), 2);
        Due.due("30: no more", Due.text(x, "lady"), -1);
        Due.due("30: but for other things", Due.text(x, "hints 4"), 1);
    }

    private static void bytesThatBeginNoToken() {
        for (int b = 0; b < 256; b++) {
            boolean known = b == ' ' || b == ';' || b >= '0' && b <= '9' || b >= 'a' && b <= 'z';
            if (!known) {
                fault("lady  " + (char) b, 6);
                fault("lady" + (char) b + " build 100", 4);
                fault(String.valueOf((char) b), 0);
            }
        }
    }

    private static void nothingHalf() {
        ScandalCounter x = Due.county(Due.DUKE);
        x.say(1, 1, 1);
        Due.due("30: a fault", Due.text(x, "lady build 5;hints 7;said 1 5 5;lady build 100"), -1 - 43);
        Due.due("30: people", x.count(1), 1);
        Due.due("30: hints", x.now(3), 0);
        Due.due("30: list", x.said(1), 101);
        Due.due("30: one who comes later is fresh", x.person(Due.PERSON, 20), 1);
        x.change(1, 1, 55);
        x.image();
        Due.due("30: after what was tried", Due.text(x, "young"), 1);
        Due.due("30: OWED at first", x.of(2, 1), 0);
        x.undo();
        Due.due("30: again", Due.text(x, "young bore 4"), 1);
        Due.due("30: OWED at first again", x.of(2, 1), 0);
        Due.due("30: BORNE", x.of(2, 3), 4);
    }
}
