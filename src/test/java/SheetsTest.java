/** Promises 31 to 37: spots and sheets. */
public final class SheetsTest {
    private static final int[] NO_SHEETS = {-1, 4, Integer.MIN_VALUE, Integer.MAX_VALUE};

    public static void main(String[] args) {
        hold();
        as();
        sheet();
        write();
        copy();
        copyFindings();
        load();
        judge();
        Due.end();
    }

    private static void hold() {
        ScandalCounter x = Due.county(Due.LADY, Due.DUKE);
        Due.due("31: first spot", x.hold(0, 1), 1);
        Due.due("31: last spot", x.hold(9, 0), 1);
        Due.due("31: what it holds", x.as(0, 0), 1);
        Due.due("31: what the other holds", x.as(9, 0), 0);
        Due.due("31: another one", x.hold(0, 0), 1);
        Due.due("31: it holds that", x.as(0, 0), 0);
        for (int v : new int[] {-2, 2, Integer.MIN_VALUE, Integer.MAX_VALUE}) {
            Due.due("31: person " + v, x.hold(0, v), Due.BEYOND);
        }
        for (int v : new int[] {-1, 10, Integer.MIN_VALUE, Integer.MAX_VALUE}) {
            Due.due("31: spot " + v, x.hold(v, 0), Due.BEYOND);
        }
        Due.due("31: a finding changes nothing", x.as(0, 0), 0);
        Due.due("31: nothing", x.hold(0, -1), 1);
        Due.due("31: it holds nothing", x.as(0, 0), Due.MISSING);
        Due.due("31: nothing, again", x.hold(0, -1), 1);
    }

    private static void as() {
        ScandalCounter x = Due.county(0, 1, 2, 3, 4, 5, 6);
        String[] kindsAbove = {"0", "01", "02", "023", "0234", "05", "016"};
        for (int kind = 0; kind < 7; kind++) {
            x.hold(kind, kind);
            for (int asked = 0; asked < 7; asked++) {
                boolean isSo = kindsAbove[kind].indexOf('0' + asked) >= 0;
                Due.due("32: kind " + kind + " as " + asked, x.as(kind, asked), isSo ? kind : Due.KIND);
            }
        }
        x.change(0, 0, Due.BISHOP);
        Due.due("32: the kind of now", x.as(0, Due.DUKE), 0);
        for (int v : new int[] {-1, 10, Integer.MIN_VALUE, Integer.MAX_VALUE}) {
            Due.due("32: spot " + v, x.as(v, 0), Due.BEYOND);
        }
        for (int v : new int[] {-1, 7, Integer.MIN_VALUE, Integer.MAX_VALUE}) {
            Due.due("32: kind " + v, x.as(0, v), Due.BEYOND);
            Due.due("32: kind " + v + ", asked ahead of MISSING", x.as(9, v), Due.BEYOND);
        }
        Due.due("32: an empty spot", x.as(9, 0), Due.MISSING);
    }

    private static void sheet() {
        ScandalCounter x = new ScandalCounter();
        for (int s : NO_SHEETS) {
            Due.due("33: sheet " + s + ", asked ahead of SIZE", x.sheet(s, 8, -1), Due.BEYOND);
        }
        for (int bits : new int[] {-8, 1, 7, 9, 24, 64, Integer.MIN_VALUE, Integer.MAX_VALUE}) {
            Due.due("33: bits " + bits + ", asked ahead of SIZE", x.sheet(0, bits, -1), Due.BEYOND);
        }
        for (int bits : new int[] {0, 8, 16, 32}) {
            Due.due("33: n -1", x.sheet(0, bits, -1), Due.SIZE);
            Due.due("33: n least", x.sheet(0, bits, Integer.MIN_VALUE), Due.SIZE);
            Due.due("33: n 41", x.sheet(0, bits, 41), Due.BEYOND);
            Due.due("33: n most", x.sheet(0, bits, Integer.MAX_VALUE), Due.BEYOND);
        }
        Due.due("33: still MISSING", x.judge(0), Due.MISSING);
        for (int bits : new int[] {8, 16, 32}) {
            Due.due("33: none", x.sheet(3, bits, 0), 0);
            Due.due("33: not MISSING", x.judge(3), 0);
            Due.due("33: 40", x.sheet(3, bits, 40), 40);
            Due.due("33: the last number", x.write(3, 39, 1), 1);
        }
        x.person(Due.PERSON, 20);
        x.sheet(0, 8, 1);
        x.write(0, 0, 5);
        Due.due("33: 5 is not OWED", x.judge(0), 1);
        x.sheet(0, 8, 1);
        Due.due("33: all 0 anew", x.judge(0), 0);
        Due.due("33: MISSING tells 0", x.sheet(0, 0, 40), 0);
        Due.due("33: it is MISSING", x.judge(0), Due.MISSING);
        Due.due("33: MISSING again", x.sheet(0, 0, 0), 0);
    }

    private static void write() {
        ScandalCounter x = Due.county(Due.PERSON);
        for (int s : NO_SHEETS) {
            Due.due("34: sheet " + s, x.write(s, 0, 0), Due.BEYOND);
        }
        Due.due("34: MISSING ahead of the number", x.write(0, -1, 0), Due.MISSING);
        x.sheet(0, 8, 2);
        for (int i : new int[] {-1, 2, 40, Integer.MIN_VALUE, Integer.MAX_VALUE}) {
            Due.due("34: number " + i, x.write(0, i, 0), Due.BEYOND);
        }
        tells(x, 8, 127, 127);
        tells(x, 8, 128, -128);
        tells(x, 8, 255, -1);
        tells(x, 8, 256, 0);
        tells(x, 8, -129, 127);
        tells(x, 16, 32767, 32767);
        tells(x, 16, 32768, -32768);
        tells(x, 16, 65535, -1);
        tells(x, 16, 65536 + 300, 300);
        tells(x, 32, Integer.MIN_VALUE, Integer.MIN_VALUE);
        tells(x, 32, 9999, 9999);
    }

    /** judge() tells numbers from 0 to 9999; others are known as -1 (any) or as no SAYING. */
    private static void tells(ScandalCounter x, int bits, int v, int due) {
        x.sheet(0, bits, 1);
        Due.due("34: " + v + " of " + bits + " bits", x.write(0, 0, v), 1);
        if (due >= 0 && due <= 9999) {
            x.change(0, 1, due);
            Due.due("34: " + v + " of " + bits + " bits is " + due, x.judge(0), 0);
        } else {
            Due.due("34: " + v + " of " + bits + " bits is any", x.fits(0, 0), due == -1 ? 21 : 0);
            Due.due("34: " + v + " of " + bits + " bits is no SAYING", x.load(0), 0);
        }
    }

    private static void copy() {
        ScandalCounter x = Due.county(0, 0, 0, 0);
        Due.lay(x, 0, 1, 2, 3, 4);
        Due.lay(x, 1, 9, 9, 9, 9);
        Due.due("35: two", x.copy(0, 1, 1, 2, 2), 2);
        isSheet(x, 1, 9, 9, 2, 3);
        isSheet(x, 0, 1, 2, 3, 4);
        Due.due("35: up within one", x.copy(0, 0, 0, 1, 3), 3);
        isSheet(x, 0, 1, 1, 2, 3);
        Due.due("35: down within one", x.copy(0, 1, 0, 0, 3), 3);
        isSheet(x, 0, 1, 2, 3, 3);
        Due.due("35: none", x.copy(0, 4, 1, 4, 0), 0);
        Due.due("35: all", x.copy(0, 0, 1, 0, 4), 4);
        isSheet(x, 1, 1, 2, 3, 3);
    }

    private static void isSheet(ScandalCounter x, int s, int... due) {
        for (int i = 0; i < due.length; i++) {
            x.change(i, 1, due[i]);
        }
        Due.due("35: sheet " + s, x.judge(s), 0);
    }

    private static void copyFindings() {
        ScandalCounter x = new ScandalCounter();
        Due.lay(x, 0, 1, 2, 3);
        x.sheet(1, 8, 3);
        for (int s : NO_SHEETS) {
            Due.due("35: from sheet " + s, x.copy(s, 0, 3, 0, -1), Due.BEYOND);
            Due.due("35: to sheet " + s, x.copy(3, 0, s, 0, -1), Due.BEYOND);
        }
        Due.due("35: the first is MISSING", x.copy(3, 0, 0, 0, -1), Due.MISSING);
        Due.due("35: the other is MISSING", x.copy(0, 0, 3, 0, -1), Due.MISSING);
        Due.due("35: other bits", x.copy(0, 0, 1, 0, -1), Due.KIND);
        x.sheet(1, 16, 2);
        Due.due("35: n below 0", x.copy(0, 0, 1, 0, -1), Due.BEYOND);
        Due.due("35: from below 0", x.copy(0, -1, 1, 0, 1), Due.BEYOND);
        Due.due("35: to below 0", x.copy(0, 0, 1, -1, 1), Due.BEYOND);
        Due.due("35: the first has not so many", x.copy(0, 2, 1, 0, 2), Due.BEYOND);
        Due.due("35: the other has not so many", x.copy(0, 0, 1, 0, 3), Due.BEYOND);
        Due.due("35: nor from 1 on", x.copy(0, 0, 1, 1, 2), Due.BEYOND);
        for (int v : new int[] {Integer.MIN_VALUE, Integer.MAX_VALUE}) {
            Due.due("35: from " + v, x.copy(0, v, 1, 0, 1), Due.BEYOND);
            Due.due("35: to " + v, x.copy(0, 0, 1, v, 1), Due.BEYOND);
            Due.due("35: n " + v, x.copy(0, 1, 1, 1, v), Due.BEYOND);
        }
    }

    private static void load() {
        ScandalCounter x = new ScandalCounter();
        for (int s : NO_SHEETS) {
            Due.due("36: sheet " + s, x.load(s), Due.BEYOND);
        }
        Due.due("36: MISSING", x.load(0), Due.MISSING);
        Due.lay(x, 0);
        Due.due("36: none", x.load(0), 0);
        Due.lay(x, 0, 720, 0, 120, 20, 700, 315, 5);
        Due.due("36: six places", x.load(0), 6);
        int[] list = {720, 0, 120, 20, 700, 315};
        for (int i = 0; i < 6; i++) {
            Due.due("36: place " + i, x.said(i), list[i]);
        }
        for (int v : new int[] {-1, 21, 99, 121, 721, 800, 820, -80, -100, 32767}) {
            Due.lay(x, 0, 101, v, 102);
            Due.due("36: no SAYING " + v, x.load(0), 1);
            Due.due("36: what came", x.said(0), 101);
            Due.due("36: what did not", x.said(1), 0);
            Due.due("36: nor what is behind it", x.said(2), 120);
        }
    }

    private static void judge() {
        ScandalCounter x = Due.county(0, 0);
        for (int s : NO_SHEETS) {
            Due.due("37: sheet " + s, x.judge(s), Due.BEYOND);
        }
        Due.due("37: MISSING", x.judge(3), Due.MISSING);
        x.change(0, 1, 7);
        x.change(1, 1, 9);
        Due.lay(x, 3);
        Due.due("37: nothing is told", x.judge(3), 0);
        Due.lay(x, 3, 7);
        Due.due("37: of one", x.judge(3), 0);
        Due.lay(x, 3, 7, 9);
        Due.due("37: of both", x.judge(3), 0);
        Due.lay(x, 3, 7, 8);
        Due.due("37: the second isn't so", x.judge(3), 2);
        Due.lay(x, 3, 6, 8);
        Due.due("37: nor the first", x.judge(3), 1);
        Due.lay(x, 3, 7, 9, 0);
        Due.due("37: there is no third", x.judge(3), 3);
        Due.lay(x, 3, -1, 9);
        Due.due("37: -1 is not any here", x.judge(3), 1);
    }
}
