/** Promises 38 to 42: images, counts, and how often a finding was answered. */
public final class ImagesTest {
    public static void main(String[] args) {
        imageAndUndo();
        latest();
        tear();
        counts();
        status();
        Due.end();
    }

    private static void imageAndUndo() {
        ScandalCounter x = Due.county(Due.LADY, Due.DUKE);
        Due.text(x, "hints 12");
        x.say(2, 1, 5);
        x.hold(4, 1);
        x.seed(99);
        x.change(0, 1, 3);
        x.go(2);
        int owed = x.now(1);
        int hints = x.now(3);
        Due.due("38: image()", x.image(), 1);
        x.say(2, 0, 1);
        x.hold(4, -1);
        x.hold(5, 0);
        x.change(0, 0, Due.BISHOP);
        x.change(1, 2, 77);
        x.person(Due.YOUNG, 5);
        x.sheet(0, 8, 1);
        Due.text(x, "hints 1");
        Due.feed(x, "lady");
        x.gossip(7);
        int missing = x.as(9, 0);
        Due.due("39: DAY", x.undo(), 2);
        Due.due("39: people", x.count(1), 2);
        Due.due("39: OWED", x.now(1), owed);
        Due.due("39: HINTS", x.now(3), hints);
        Due.due("39: KIND", x.of(0, 0), Due.LADY);
        Due.due("39: BUILD", x.of(1, 2), 20);
        Due.due("39: THE LIST", x.said(2), 105);
        Due.due("39: a spot", x.as(4, Due.DUKE), 1);
        Due.due("39: SPOTS", x.count(7), 1);
        Due.due("39: z", x.count(6), 99);
        Due.due("38: not THE TAPE", x.count(5), 4);
        Due.due("38: not SHEETS", x.write(0, 0, 1), 1);
        Due.due("39: no finding is taken back", x.status(5), missing == Due.MISSING ? 1 : -1);
        x.go(5);
        Due.due("39: it stays", x.undo(), 2);
        Due.due("39: as it was", x.now(1), owed);
    }

    private static void latest() {
        ScandalCounter x = Due.county(Due.LADY);
        x.image();
        x.go(3);
        x.image();
        x.go(3);
        Due.due("39: the latest", x.undo(), 3);
        Due.due("39: and again", x.undo(), 3);
    }

    private static void tear() {
        ScandalCounter x = new ScandalCounter();
        Due.due("40: nothing was kept", x.tear(), 0);
        x.image();
        Due.due("40: something was", x.tear(), 1);
        Due.due("40: nothing is", x.tear(), 0);
        Due.due("39: nothing is kept", x.undo(), Due.NONE);
        x.go(4);
        x.image();
        Due.due("39: kept anew", x.undo(), 4);
    }

    private static void counts() {
        ScandalCounter x = Due.county(Due.PERSON, Due.LADY);
        x.say(0, 0, 6);
        x.go(1);
        Due.text(x, "hints 33");
        Due.feed(x, "du");
        x.seed(-5);
        x.hold(0, 0);
        x.hold(1, 0);
        x.hold(2, 1);
        x.hold(1, -1);
        int[] due = {1, 2, 3, 16, 33, 2, -5, 2};
        for (int what = 0; what < 8; what++) {
            Due.due("41: what " + what, x.count(what), due[what]);
        }
        for (int v : new int[] {-1, 8, Integer.MIN_VALUE, Integer.MAX_VALUE}) {
            Due.due("41: what " + v, x.count(v), Due.BEYOND);
        }
    }

    private static void status() {
        ScandalCounter x = Due.county(0, 0, 0, 0, 0, 0, 0, 0);
        x.said(6);
        x.said(7);
        x.person(0, 0);
        x.hold(0, 0);
        x.as(0, 1);
        x.as(0, 2);
        x.undo();
        x.as(1, 0);
        x.judge(0);
        x.load(0);
        x.sheet(0, 0, -1);
        x.text();
        x.odds(21, 0);
        int[] due = {3, 1, 2, 1, 0, 3, 1};
        for (int which = 0; which < 7; which++) {
            Due.due("42: which " + which, x.status(which), due[which]);
        }
        Due.due("42: all", x.status(-1), 11);
        Due.due("42: another one", x.status(7), Due.BEYOND);
        Due.due("42: counted from then on", x.status(0), 4);
        for (int v : new int[] {-2, Integer.MIN_VALUE, Integer.MAX_VALUE}) {
            Due.due("42: which " + v, x.status(v), Due.BEYOND);
        }
        Due.due("42: all then", x.status(-1), 15);
    }
}
