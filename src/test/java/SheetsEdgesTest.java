/** The boundary cases of promises 31 to 37: spots and sheets. */
public final class SheetsEdgesTest {
    private static final int[] BITS = {8, 16, 32};

    public static void main(String[] args) {
        holdOutside();
        holdWithNobody();
        asOutside();
        asInOrder();
        asEachKindUnderEach();
        sheetOutside();
        sheetInOrder();
        sheetIsMissingAgain();
        sheetIsLaidAnew();
        writeOutside();
        writeLowestBits();
        copyOutside();
        copyInOrder();
        copyOfNone();
        copyOfForty();
        copyWithinOneSheet();
        loadInOrder();
        loadPlaces();
        loadSayings();
        judgeInOrder();
        judgeOfNobodyAndOfEight();
        judgeAtTheEndsOfOwed();
        Due.end();
    }

    private static void holdOutside() {
        ScandalCounter x = Due.eight(Due.LADY, 20);
        for (int spot = 0; spot < 10; spot++) {
            Due.due("31: spot " + spot, x.hold(spot, 7 - spot % 8), 1);
        }
        for (int spot : Due.outside(0, 9)) {
            Due.due("31: spot " + spot, x.hold(spot, 0), Due.BEYOND);
            Due.due("31: nothing in spot " + spot, x.hold(spot, -1), Due.BEYOND);
        }
        for (int person : Due.outside(-1, 7)) {
            Due.due("31: person " + person, x.hold(0, person), Due.BEYOND);
        }
        for (int spot = 0; spot < 10; spot++) {
            Due.due("31: BEYOND changes nothing in spot " + spot, x.as(spot, Due.LADY), 7 - spot % 8);
        }
        Due.due("41: ten hold something", x.count(7), 10);
        for (int spot = 0; spot < 10; spot++) {
            Due.due("31: nothing in spot " + spot, x.hold(spot, -1), 1);
            Due.due("41: one less", x.count(7), 9 - spot);
        }
    }

    private static void holdWithNobody() {
        ScandalCounter x = new ScandalCounter();
        Due.due("31: there is nobody", x.hold(0, 0), Due.BEYOND);
        Due.due("31: nothing may be held all the same", x.hold(0, -1), 1);
        Due.due("41: it is nothing", x.count(7), 0);
        Due.due("32: it is nothing", x.as(0, 0), Due.MISSING);
    }

    private static void asOutside() {
        ScandalCounter x = Due.county(Due.YOUNG);
        x.hold(0, 0);
        x.hold(9, 0);
        for (int spot : Due.outside(0, 9)) {
            Due.due("32: spot " + spot, x.as(spot, 0), Due.BEYOND);
        }
        for (int kind : Due.outside(0, 6)) {
            Due.due("32: kind " + kind, x.as(0, kind), Due.BEYOND);
        }
        Due.due("32: least of both", x.as(0, 0), 0);
        Due.due("32: most of both", x.as(9, 6), 0);
    }

    private static void asInOrder() {
        ScandalCounter x = Due.county(Due.PERSON);
        for (int kind : Due.outside(0, 6)) {
            Due.due("32: kind " + kind + " ahead of MISSING", x.as(5, kind), Due.BEYOND);
        }
        for (int kind = 0; kind < 7; kind++) {
            Due.due("32: MISSING ahead of KIND " + kind, x.as(5, kind), Due.MISSING);
        }
        x.hold(5, 0);
        for (int kind = 1; kind < 7; kind++) {
            Due.due("32: a PERSON is no " + kind, x.as(5, kind), Due.KIND);
        }
        Due.due("32: each was counted", x.status(2), 6);
    }

    private static void asEachKindUnderEach() {
        String[] as = {"0", "01", "02", "023", "0234", "05", "016"};
        ScandalCounter x = Due.eight(Due.PERSON, 20);
        x.hold(9, 7);
        for (int kind = 0; kind < 7; kind++) {
            x.change(7, 0, kind);
            for (int asked = 0; asked < 7; asked++) {
                boolean isSo = as[kind].indexOf('0' + asked) >= 0;
                Due.due("32: " + kind + " as " + asked, x.as(9, asked), isSo ? 7 : Due.KIND);
            }
        }
    }

    private static void sheetOutside() {
        ScandalCounter x = new ScandalCounter();
        for (int s = 0; s < 4; s++) {
            for (int bits : BITS) {
                Due.due("33: no numbers", x.sheet(s, bits, 0), 0);
                Due.due("34: it has none", x.write(s, 0, 0), Due.BEYOND);
                Due.due("33: 40 numbers", x.sheet(s, bits, 40), 40);
                Due.due("34: it has 40", x.write(s, 39, 0), 1);
                Due.due("34: no more", x.write(s, 40, 0), Due.BEYOND);
            }
        }
        for (int s : Due.outside(0, 3)) {
            Due.due("33: sheet " + s, x.sheet(s, 8, 0), Due.BEYOND);
            Due.due("33: sheet " + s + ", MISSING", x.sheet(s, 0, 0), Due.BEYOND);
        }
        for (int bits : new int[] {-32, -8, -1, 1, 4, 7, 9, 15, 17, 24, 31, 33, 40, 64, 256 + 8, Integer.MIN_VALUE, Integer.MAX_VALUE}) {
            Due.due("33: bits " + bits, x.sheet(0, bits, 0), Due.BEYOND);
        }
        Due.due("34: a finding lays nothing", x.write(0, 39, 0), 1);
    }

    private static void sheetInOrder() {
        ScandalCounter x = new ScandalCounter();
        for (int n : Due.outside(0, 40)) {
            for (int s : Due.outside(0, 3)) {
                Due.due("33: no such sheet ahead of n " + n, x.sheet(s, 8, n), Due.BEYOND);
            }
            Due.due("33: other bits ahead of n " + n, x.sheet(0, 1, n), Due.BEYOND);
            for (int bits : new int[] {0, 8, 16, 32}) {
                Due.due("33: n " + n + " of " + bits, x.sheet(0, bits, n), n < 0 ? Due.SIZE : Due.BEYOND);
            }
        }
        Due.due("42: SIZE", x.status(6), 8);
        Due.due("33: it is still MISSING", x.write(0, 0, 0), Due.MISSING);
        x.sheet(0, 16, 3);
        x.sheet(0, 0, -1);
        x.sheet(0, 0, 41);
        x.sheet(0, 8, 41);
        Due.due("33: it is still there", x.write(0, 2, 0), 1);
        Due.due("33: of no more numbers", x.write(0, 3, 0), Due.BEYOND);
        x.sheet(1, 16, 1);
        Due.due("33: of as many bits", x.copy(0, 0, 1, 0, 1), 1);
    }

    private static void sheetIsMissingAgain() {
        ScandalCounter x = new ScandalCounter();
        for (int n : new int[] {0, 1, 40}) {
            x.sheet(3, 8, 5);
            Due.due("33: MISSING tells 0, n " + n, x.sheet(3, 0, n), 0);
            Due.due("34: MISSING", x.write(3, 0, 0), Due.MISSING);
            Due.due("36: MISSING", x.load(3), Due.MISSING);
            Due.due("37: MISSING", x.judge(3), Due.MISSING);
            Due.due("33: MISSING once more", x.sheet(3, 0, n), 0);
        }
    }

    private static void sheetIsLaidAnew() {
        ScandalCounter x = Due.eight(Due.PERSON, 20);
        for (int bits : BITS) {
            Due.lay(x, 0, 7, 7, 7, 7, 7, 7, 7, 7);
            x.sheet(0, bits, 4);
            Due.due("33: all 0", x.judge(0), 0);
            Due.lay(x, 0, 7, 7, 7, 7, 7, 7, 7, 7);
            x.sheet(0, 0, 8);
            x.sheet(0, bits, 8);
            Due.due("33: all 0, when it was MISSING", x.judge(0), 0);
        }
        Due.lay(x, 0, 0, 0, 0, 7);
        x.sheet(0, 16, 3);
        x.sheet(0, 16, 4);
        Due.due("33: all 0, when it had fewer", x.judge(0), 0);
    }

    private static void writeOutside() {
        ScandalCounter x = new ScandalCounter();
        for (int s : Due.outside(0, 3)) {
            Due.due("34: sheet " + s, x.write(s, 0, 0), Due.BEYOND);
        }
        for (int i : Due.outside(0, 39)) {
            Due.due("34: MISSING ahead of number " + i, x.write(0, i, 0), Due.MISSING);
            Due.due("34: no such sheet ahead of number " + i, x.write(4, i, 0), Due.BEYOND);
        }
        x.sheet(0, 8, 40);
        for (int i : Due.outside(0, 39)) {
            Due.due("34: number " + i + " of 40", x.write(0, i, 0), Due.BEYOND);
        }
        x.sheet(0, 8, 3);
        for (int i : Due.outside(0, 2)) {
            Due.due("34: number " + i + " of 3", x.write(0, i, 0), Due.BEYOND);
        }
        Due.due("34: the first", x.write(0, 0, Integer.MIN_VALUE), 1);
        Due.due("34: the last", x.write(0, 2, Integer.MAX_VALUE), 1);
    }

    /** v of 8, 16 and 32 bits, as judge() (OWED), fits() (-1 is any) and load() (a SAYING) see it. */
    private static void writeLowestBits() {
        int[][] told = {
            {0, 0, 0, 0}, {127, 127, 127, 127}, {128, -128, 128, 128}, {255, -1, 255, 255}, {256, 0, 256, 256},
            {511, -1, 511, 511}, {-1, -1, -1, -1}, {-128, -128, -128, -128}, {-129, 127, -129, -129},
            {-256, 0, -256, -256}, {32767, -1, 32767, 32767}, {32768, 0, -32768, 32768}, {65535, -1, -1, 65535},
            {65536, 0, 0, 65536}, {65536 + 120, 120, 120, 65536 + 120}, {-32769, -1, 32767, -32769},
            {Integer.MAX_VALUE, -1, -1, Integer.MAX_VALUE}, {Integer.MIN_VALUE, 0, 0, Integer.MIN_VALUE},
            {9999, 15, 9999, 9999}, {-55537, 15, 9999, -55537},
        };
        for (int[] row : told) {
            for (int b = 0; b < 3; b++) {
                ScandalCounter x = Due.county(Due.PERSON);
                int v = row[1 + b];
                x.sheet(0, BITS[b], 1);
                x.write(0, 0, row[0]);
                String name = "34: " + row[0] + " of " + BITS[b] + " bits is " + v + ", ";
                boolean isOwed = v >= 0 && v <= 9999;
                x.change(0, 1, isOwed ? v : 0);
                x.change(0, 3, isOwed ? v : 0);
                Due.due(name + "OWED", x.judge(0), isOwed ? 0 : 1);
                Due.due(name + "BORNE", x.fits(0, 0), isOwed || v == -1 ? 21 : 0);
                boolean isSaying = v >= 0 && v <= 720 && v % 100 <= 20;
                Due.due(name + "SAYINGS", x.load(0), isSaying ? 1 : 0);
                Due.due(name + "SAYING", x.said(0), isSaying ? v : 0);
            }
        }
    }

    private static void copyOutside() {
        ScandalCounter x = new ScandalCounter();
        x.sheet(0, 32, 4);
        x.sheet(1, 32, 3);
        int[][] so = {{0, 0, 3}, {1, 0, 3}, {0, 1, 2}, {3, 2, 1}, {2, 1, 2}, {4, 3, 0}, {0, 0, 0}};
        for (int[] a : so) {
            Due.due("35: " + a[2] + " from " + a[0] + " to " + a[1], x.copy(0, a[0], 1, a[1], a[2]), a[2]);
        }
        int most = Integer.MAX_VALUE;
        int least = Integer.MIN_VALUE;
        int[][] beyond = {
            {0, 0, 4}, {2, 0, 3}, {0, 1, 3}, {4, 0, 1}, {0, 3, 1}, {3, 0, 2}, {-1, 0, 1}, {0, -1, 1}, {0, 0, -1},
            {-1, 0, 0}, {0, -1, 0}, {5, 0, 0}, {0, 4, 0}, {1, 1, -1}, {most, 0, 1}, {0, most, 1}, {0, 0, most},
            {1, 0, most}, {0, 1, most}, {most, most, most}, {least, 0, 1}, {0, least, 1}, {0, 0, least},
            {least, least, least}, {most, 0, 0}, {0, most, 0}, {-1, 1, 2}, {1, -1, 2}, {5, 5, -5}, {most, 0, 2},
        };
        for (int[] a : beyond) {
            Due.due("35: " + a[2] + " from " + a[0] + " to " + a[1], x.copy(0, a[0], 1, a[1], a[2]), Due.BEYOND);
        }
    }

    private static void copyInOrder() {
        ScandalCounter x = new ScandalCounter();
        x.sheet(0, 8, 1);
        x.sheet(1, 16, 1);
        for (int s : Due.outside(0, 3)) {
            for (int n : new int[] {-1, 0, 41}) {
                Due.due("35: no sheet " + s + " ahead of MISSING", x.copy(s, 0, 2, 0, n), Due.BEYOND);
                Due.due("35: no sheet " + s + " behind MISSING", x.copy(2, 0, s, 0, n), Due.BEYOND);
                Due.due("35: no sheet " + s + " either", x.copy(s, 0, s, 0, n), Due.BEYOND);
            }
        }
        for (int n : new int[] {-1, 0, 41}) {
            Due.due("35: the first is MISSING, n " + n, x.copy(2, 0, 0, 0, n), Due.MISSING);
            Due.due("35: the other is MISSING, n " + n, x.copy(0, 0, 2, 0, n), Due.MISSING);
            Due.due("35: both are MISSING, n " + n, x.copy(2, 0, 3, 0, n), Due.MISSING);
            Due.due("35: one is MISSING to itself, n " + n, x.copy(2, 0, 2, 0, n), Due.MISSING);
            Due.due("35: KIND ahead of BEYOND, n " + n, x.copy(0, -1, 1, 9, n), Due.KIND);
        }
        for (int first : BITS) {
            for (int other : BITS) {
                x.sheet(0, first, 2);
                x.sheet(1, other, 2);
                Due.due("35: " + first + " to " + other + " bits", x.copy(0, 0, 1, 0, 2), first == other ? 2 : Due.KIND);
            }
        }
    }

    private static void copyOfNone() {
        ScandalCounter x = new ScandalCounter();
        for (int bits : BITS) {
            x.sheet(0, bits, 0);
            x.sheet(1, bits, 0);
            Due.due("35: none of none", x.copy(0, 0, 1, 0, 0), 0);
            Due.due("35: one of none", x.copy(0, 0, 1, 0, 1), Due.BEYOND);
            x.sheet(1, bits, 40);
            Due.due("35: none to the end of 40", x.copy(0, 0, 1, 40, 0), 0);
            Due.due("35: none from the end of 40", x.copy(1, 40, 0, 0, 0), 0);
            Due.due("35: one of none to 40", x.copy(0, 0, 1, 0, 1), Due.BEYOND);
            Due.due("35: one of 40 to none", x.copy(1, 0, 0, 0, 1), Due.BEYOND);
        }
    }

    private static void copyOfForty() {
        ScandalCounter x = Due.eight(Due.PERSON, 20);
        x.sheet(0, 16, 40);
        x.sheet(1, 16, 40);
        for (int i = 0; i < 40; i++) {
            x.write(0, i, 1 + i);
        }
        Due.due("35: 40", x.copy(0, 0, 1, 0, 40), 40);
        Due.due("35: 41", x.copy(0, 0, 1, 0, 41), Due.BEYOND);
        Due.due("35: 40 from 1 on", x.copy(0, 1, 1, 0, 40), Due.BEYOND);
        Due.due("35: 40 to 1 on", x.copy(0, 0, 1, 1, 40), Due.BEYOND);
        x.sheet(2, 16, 8);
        Due.due("35: the last 8", x.copy(1, 32, 2, 0, 8), 8);
        for (int i = 0; i < 8; i++) {
            x.change(i, 1, 33 + i);
        }
        Due.due("37: they came", x.judge(2), 0);
    }

    private static void copyWithinOneSheet() {
        ScandalCounter x = Due.eight(Due.PERSON, 20);
        int[][] moves = {{0, 1, 7}, {1, 0, 7}, {0, 0, 8}, {0, 2, 6}, {3, 1, 4}, {7, 0, 1}};
        for (int[] move : moves) {
            int[] due = new int[8];
            Due.lay(x, 0, 10, 11, 12, 13, 14, 15, 16, 17);
            for (int i = 0; i < 8; i++) {
                int k = i - move[1];
                due[i] = k >= 0 && k < move[2] ? 10 + move[0] + k : 10 + i;
                x.change(i, 1, due[i]);
            }
            Due.due("35: " + move[2] + " within one", x.copy(0, move[0], 0, move[1], move[2]), move[2]);
            Due.due("35: as they all were, from " + move[0] + " to " + move[1], x.judge(0), 0);
        }
    }

    private static void loadInOrder() {
        ScandalCounter x = new ScandalCounter();
        for (int s : Due.outside(0, 3)) {
            Due.due("36: sheet " + s, x.load(s), Due.BEYOND);
        }
        for (int s = 0; s < 4; s++) {
            Due.due("36: MISSING sheet " + s, x.load(s), Due.MISSING);
        }
        Due.due("42: MISSING", x.status(5), 4);
    }

    private static void loadPlaces() {
        for (int n : new int[] {0, 1, 5, 6, 7, 40}) {
            ScandalCounter x = new ScandalCounter();
            for (int i = 0; i < 6; i++) {
                x.say(i, 7, 20);
            }
            x.sheet(3, 8, n);
            Due.due("36: of " + n + " there come", x.load(3), Math.min(6, n));
            for (int i = 0; i < 6; i++) {
                Due.due("36: of " + n + " in place " + i, x.said(i), i < n ? 0 : 720);
            }
        }
    }

    private static void loadSayings() {
        ScandalCounter x = new ScandalCounter();
        for (int whom = 0; whom < 8; whom++) {
            Due.lay(x, 0, 100 * whom, 100 * whom + 20, 100 * whom + 21, 5);
            Due.due("36: of " + whom, x.load(0), 2);
            Due.due("36: least WEIGHT", x.said(0), 100 * whom);
            Due.due("36: most WEIGHT", x.said(1), 100 * whom + 20);
            Due.due("36: nothing behind it", x.said(3), 0);
        }
        for (int v : new int[] {-1, -20, -100, 21, 99, 199, 721, 799, 800, 820, 9999, Integer.MIN_VALUE, Integer.MAX_VALUE}) {
            x.sheet(1, 32, 2);
            x.write(1, 0, v);
            Due.due("36: the first is no SAYING: " + v, x.load(1), 0);
            Due.due("36: nothing came", x.said(0), 700);
        }
        Due.lay(x, 0, 1, 2, 3, 4, 5, 6, 21);
        Due.due("36: no place for the 7th, whatever it is", x.load(0), 6);
        Due.lay(x, 0, 1, 2, 3, 4, 5, 21);
        Due.due("36: the 6th is no SAYING", x.load(0), 5);
        Due.due("36: it stays", x.said(5), 6);
    }

    private static void judgeInOrder() {
        ScandalCounter x = new ScandalCounter();
        for (int s : Due.outside(0, 3)) {
            Due.due("37: sheet " + s, x.judge(s), Due.BEYOND);
        }
        for (int s = 0; s < 4; s++) {
            Due.due("37: MISSING sheet " + s, x.judge(s), Due.MISSING);
        }
    }

    private static void judgeOfNobodyAndOfEight() {
        ScandalCounter nobody = new ScandalCounter();
        nobody.sheet(0, 8, 0);
        Due.due("37: no numbers of nobody", nobody.judge(0), 0);
        nobody.sheet(0, 8, 1);
        Due.due("37: nobody is OWED 0", nobody.judge(0), 1);
        ScandalCounter x = Due.eight(Due.PERSON, 20);
        for (int n = 0; n <= 8; n++) {
            x.sheet(0, 8, n);
            Due.due("37: " + n + " of eight", x.judge(0), 0);
        }
        for (int n : new int[] {9, 40}) {
            x.sheet(0, 8, n);
            Due.due("37: there is no 9th for " + n, x.judge(0), 9);
        }
        for (int i = 7; i >= 0; i--) {
            x.change(i, 1, 1);
            Due.due("37: " + i + " is the first that isn't so", x.judge(0), 1 + i);
        }
    }

    private static void judgeAtTheEndsOfOwed() {
        ScandalCounter x = Due.county(Due.PERSON);
        x.sheet(0, 32, 1);
        x.change(0, 1, 9999);
        int[] told = {9999, 9998, 10000, 9999 + 65536, -1, 0, Integer.MIN_VALUE, Integer.MAX_VALUE};
        for (int v : told) {
            x.write(0, 0, v);
            Due.due("37: OWED 9999 told as " + v, x.judge(0), v == 9999 ? 0 : 1);
        }
        x.change(0, 1, 0);
        Due.due("37: -1 is not any", x.write(0, 0, -1), x.judge(0));
    }
}
