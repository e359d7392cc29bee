/** The boundary cases of promises 38 to 42: images, counts and status. */
public final class ImagesEdgesTest {
    public static void main(String[] args) {
        nothingKept();
        keptWithNobody();
        keptTwice();
        undoneTwice();
        tornTwice();
        keptIsNoLongerTheCounty();
        everyNumberComesBack();
        tapeAndSheetsStay();
        whoComesBehindAnUndo();
        spotsComeBack();
        statusStays();
        countOutside();
        countOfNothing();
        statusOutside();
        statusOfEachFinding();
        Due.end();
    }

    private static void nothingKept() {
        ScandalCounter x = Due.county(Due.LADY);
        x.go(3);
        Due.due("39: nothing is kept", x.undo(), Due.NONE);
        Due.due("39: NONE changes nothing", x.now(0), 3);
        Due.due("40: nothing was", x.tear(), 0);
        Due.due("40: 0 is no finding", x.status(-1), 1);
        Due.due("39: nor is anything kept now", x.undo(), Due.NONE);
    }

    private static void keptWithNobody() {
        ScandalCounter x = new ScandalCounter();
        Due.due("38: nobody", x.image(), 1);
        x.person(Due.LADY, 9);
        x.go(5);
        Due.due("39: DAY 0 is what it tells", x.undo(), 0);
        Due.due("39: nobody again", x.count(1), 0);
        Due.due("39: there is no such one", x.of(0, 0), Due.BEYOND);
    }

    private static void keptTwice() {
        ScandalCounter x = Due.county(Due.LADY);
        x.change(0, 1, 1);
        x.image();
        x.change(0, 1, 2);
        x.go(1);
        Due.due("38: again", x.image(), 1);
        x.change(0, 1, 3);
        Due.due("39: the latest", x.undo(), 1);
        Due.due("39: OWED of the latest", x.of(0, 1), 1);
        Due.due("40: both are gone at once", x.tear(), 1);
        Due.due("40: nothing more", x.tear(), 0);
        Due.due("39: not the first either", x.undo(), Due.NONE);
    }

    private static void undoneTwice() {
        ScandalCounter x = Due.county(Due.CLERGY);
        x.go(4);
        x.image();
        for (int i = 0; i < 5; i++) {
            x.change(0, 1, 100 + i);
            x.go(60);
            Due.due("39: it stays", x.undo(), 4);
            Due.due("39: OWED", x.of(0, 1), 0);
        }
        Due.due("39: undone at once again", x.undo(), 4);
    }

    private static void tornTwice() {
        ScandalCounter x = Due.county(Due.CLERGY);
        x.image();
        x.change(0, 1, 7);
        Due.due("40: something was", x.tear(), 1);
        Due.due("40: the county stays", x.of(0, 1), 7);
        Due.due("40: nothing was", x.tear(), 0);
        Due.due("39: nothing is", x.undo(), Due.NONE);
        Due.due("39: the county stays", x.of(0, 1), 7);
        x.image();
        Due.due("39: kept anew", x.undo(), 0);
        Due.due("40: something was again", x.tear(), 1);
    }

    private static void keptIsNoLongerTheCounty() {
        ScandalCounter x = Due.county(Due.PERSON, Due.LADY);
        x.image();
        x.undo();
        x.change(0, 0, Due.DUKE);
        x.change(1, 3, 9999);
        x.say(5, 7, 20);
        x.hold(9, 1);
        x.even();
        x.whom(40);
        Due.text(x, "young; hints 3; said 0 1 2");
        Due.due("39: what was kept has not changed with it", x.undo(), 0);
        Due.due("39: KIND", x.of(0, 0), Due.PERSON);
        Due.due("39: BORNE", x.of(1, 3), 0);
        Due.due("39: the last SAYING", x.said(5), 0);
        Due.due("39: the first SAYING", x.said(0), 0);
        Due.due("39: the last SPOT", x.as(9, 0), Due.MISSING);
        Due.due("39: PEOPLE", x.count(1), 2);
        Due.due("39: HINTS", x.count(4), 0);
    }

    private static void everyNumberComesBack() {
        ScandalCounter x = Due.eight(Due.PERSON, 0);
        int[] most = {6, 9999, 99, 9999, 9999};
        for (int i = 0; i < 8; i++) {
            for (int what = 0; what < 5; what++) {
                x.change(i, what, most[what] - i % 2);
            }
        }
        for (int i = 0; i < 6; i++) {
            x.say(i, 7 - i, 20 - i);
        }
        x.seed(Integer.MIN_VALUE);
        x.image();
        for (int i = 0; i < 8; i++) {
            for (int what = 0; what < 5; what++) {
                x.change(i, what, i);
            }
        }
        x.gossip(20);
        x.undo();
        for (int i = 0; i < 8; i++) {
            for (int what = 0; what < 5; what++) {
                Due.due("39: what " + what + " of " + i, x.of(i, what), most[what] - i % 2);
            }
        }
        for (int i = 0; i < 6; i++) {
            Due.due("39: SAYING " + i, x.said(i), 100 * (7 - i) + 20 - i);
        }
        Due.due("39: z", x.count(6), Integer.MIN_VALUE);
        Due.due("39: DAY", x.count(0), 0);
    }

    private static void tapeAndSheetsStay() {
        ScandalCounter x = Due.county(Due.PERSON);
        Due.feed(x, "duke");
        Due.lay(x, 0, 5);
        x.image();
        x.wipe();
        Due.feed(x, "young;young");
        Due.lay(x, 0, 7, 8);
        x.sheet(1, 8, 2);
        x.undo();
        Due.due("38: THE TAPE stays as it is", x.count(5), 11);
        x.change(0, 1, 7);
        Due.due("38: a sheet stays as it is", x.judge(0), 2);
        Due.due("38: another stays too", x.write(1, 1, 0), 1);
        Due.due("30: and is a TEXT", x.text(), 2);
        Due.due("30: of the YOUNG", x.of(1, 0), Due.YOUNG);
        x.sheet(0, 0, 0);
        x.undo();
        Due.due("38: MISSING stays MISSING", x.judge(0), Due.MISSING);
    }

    /** What one was who is undone must not come back with who takes the number. */
    private static void whoComesBehindAnUndo() {
        ScandalCounter x = Due.county(Due.PERSON);
        x.image();
        for (int i = 1; i < 8; i++) {
            x.person(Due.BISHOP, 77);
            x.change(i, 1, 9999);
            x.change(i, 3, 9999);
            x.change(i, 4, 9999);
        }
        x.even();
        x.undo();
        Due.due("4: the number is free again", x.person(Due.YOUNG, 5), 1);
        Due.due("30: the next too", Due.text(x, "lady;duke bore 4"), 2);
        int[][] due = {{Due.YOUNG, 0, 5, 0, 0}, {Due.LADY, 0, 20, 0, 0}, {Due.DUKE, 0, 20, 4, 0}};
        for (int i = 0; i < 3; i++) {
            for (int what = 0; what < 5; what++) {
                Due.due("4: all as at first, what " + what + " of " + (1 + i), x.of(1 + i, what), due[i][what]);
            }
        }
    }

    private static void spotsComeBack() {
        ScandalCounter x = Due.county(Due.PERSON);
        for (int spot = 0; spot < 10; spot++) {
            x.hold(spot, spot % 2 - 1);
        }
        x.image();
        x.person(Due.LADY, 20);
        for (int spot = 0; spot < 10; spot++) {
            x.hold(spot, 1);
        }
        Due.due("41: all hold something", x.count(7), 10);
        x.undo();
        Due.due("41: half of them do", x.count(7), 5);
        for (int spot = 0; spot < 10; spot++) {
            Due.due("39: spot " + spot, x.as(spot, 0), spot % 2 == 0 ? Due.MISSING : 0);
        }
    }

    private static void statusStays() {
        ScandalCounter x = new ScandalCounter();
        x.said(-1);
        x.image();
        x.said(-1);
        x.whom(0);
        x.undo();
        Due.due("42: undo() takes none back", x.status(0), 2);
        Due.due("42: nor the NONE", x.status(3), 1);
        x.tear();
        x.undo();
        Due.due("42: undo()'s own NONE", x.status(3), 2);
        x.image();
        x.undo();
        Due.due("42: all", x.status(-1), 4);
    }

    private static void countOutside() {
        ScandalCounter x = new ScandalCounter();
        for (int what : Due.outside(0, 7)) {
            Due.due("41: what " + what, x.count(what), Due.BEYOND);
        }
        Due.due("41: each was counted", x.status(0), 4);
    }

    private static void countOfNothing() {
        ScandalCounter x = new ScandalCounter();
        x.say(0, 0, 20);
        x.sheet(0, 8, 40);
        x.image();
        int[] due = {0, 0, 0, 0, 0, 0, 1, 0};
        for (int what = 0; what < 8; what++) {
            Due.due("41: nothing, what " + what, x.count(what), due[what]);
        }
    }

    private static void statusOutside() {
        ScandalCounter x = new ScandalCounter();
        for (int which = -1; which < 7; which++) {
            Due.due("42: none yet, which " + which, x.status(which), 0);
        }
        int asked = 0;
        for (int which : Due.outside(-1, 6)) {
            Due.due("42: which " + which, x.status(which), Due.BEYOND);
            asked++;
            Due.due("42: counted from then on", x.status(0), asked);
            Due.due("42: in all too", x.status(-1), asked);
        }
    }

    private static void statusOfEachFinding() {
        ScandalCounter x = Due.eight(Due.PERSON, 0);
        x.hold(0, 0);
        int[] due = new int[7];
        for (int round = 1; round <= 3; round++) {
            for (int which = 0; which < 7; which++) {
                int finding = find(x, which);
                Due.due("42: a finding", finding, which == 4 ? Due.BEYOND : Due.BEYOND - which);
                due[which == 4 ? 0 : which]++;
                for (int other = 0; other < 7; other++) {
                    Due.due("42: behind " + finding + ", which " + other, x.status(other), due[other]);
                }
            }
            Due.due("42: all", x.status(-1), 7 * round);
        }
    }

    /** STATE needs an older object than is promised anything: DaysTest asks for it. */
    private static int find(ScandalCounter x, int which) {
        switch (which) {
            case 1: return x.person(0, 0);
            case 2: return x.as(0, 1);
            case 3: return x.bearer(0, 1);
            case 5: return x.as(1, 0);
            case 6: return x.sheet(0, 8, -1);
            default: return x.said(6);
        }
    }
}
