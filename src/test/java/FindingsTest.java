import java.lang.reflect.Method;

/**
 * A finding changes nothing but status(), and of several that would do the one that is asked first is told: each
 * call is made on one of two objects that are alike, and both are looked through then. So are calls of which the
 * document says that nothing changes.
 */
public final class FindingsTest {
    private static final String[] AMONG_FIVE = {
        "say -1 0 0 0", "say 6 0 0 0", "say 0 -1 0 0", "say 0 8 0 0", "say 0 0 -1 0", "say 0 0 21 0", "said -1 0",
        "said 6 0", "person -1 20 0", "person 7 20 0", "person 0 -1 0", "person 0 100 0", "of -1 0 0", "of 5 0 0",
        "of 0 -1 0", "of 0 8 0", "change -1 1 1 0", "change 5 1 1 0", "change 0 -1 1 0", "change 0 5 1 0",
        "change 0 0 7 0", "change 0 1 10000 0", "change 0 2 100 0", "change 0 3 10000 0", "change 0 4 10000 0",
        "change 0 3 -1 0", "feels 5 1 0", "feels 0 21 0", "feels 0 -1 0", "bearer 5 1 0", "bearer 0 0 0",
        "bearer 0 21 0", "go 0 0", "go 61 0", "now -1 0", "now 8 0", "ahead 5 1 1 0", "ahead 0 0 1 0", "ahead 0 2 1 0",
        "ahead 0 5 1 0", "ahead 0 1 101 0", "ahead 0 1 -1 0", "hints -1 0", "hints 101 0", "when 5 1 0", "when 0 -1 0",
        "when 0 10000 0", "clean 5 0", "clean -1 0", "whom -1 0", "whom 41 0", "weightFor 0 0", "weightFor 41 0",
        "buildFor 5 1 0", "buildFor 0 -1 0", "buildFor 0 41 0", "kindFor 5 1 0", "kindFor 0 -1 0", "kindFor 0 41 0",
        "refuse 5 1 1 0", "refuse 0 -1 1 0", "refuse 0 10000 1 0", "refuse 0 1 -1 0", "refuse 0 1 21 0", "swapFor -1 0",
        "swapFor 41 0", "fits 4 0 0", "fits 4 9 0", "fits 2 0 5", "fits 2 9 5", "fits 0 5 0", "weighed -1 0 0",
        "weighed 2 0 5", "weighed 2 -1 5", "weighed 0 5 0", "kinds 4 0 0", "kinds 2 0 5", "kinds 2 5 5", "kinds 0 -1 0",
        "gossip 0 0", "gossip 21 0", "odds -1 0 0", "odds 21 0 0", "odds 1 2 0", "odds 1 -1 0", "feed 7 0 0",
        "feed 7 5 0", "hold -1 0 0", "hold 10 0 0", "hold 0 5 0", "hold 0 -2 0", "as -1 0 0", "as 10 0 0", "as 0 7 0",
        "as 9 7 0", "as 9 0 5", "as 0 4 2", "sheet 4 8 -1 0", "sheet 0 9 -1 0", "sheet 0 8 -1 6", "sheet 0 0 -1 6",
        "sheet 0 8 41 0", "sheet 0 0 41 0", "write 4 0 1 0", "write 2 0 1 5", "write 2 40 1 5", "write 0 8 1 0",
        "write 0 -1 1 0", "copy 4 0 2 0 -1 0", "copy 2 0 4 0 -1 0", "copy 2 0 0 0 -1 5", "copy 0 0 2 0 -1 5",
        "copy 0 0 1 0 -1 2", "copy 0 0 3 0 9 0", "copy 0 1 3 0 8 0", "copy 0 0 3 1 8 0", "copy 0 -1 3 0 1 0",
        "copy 0 0 3 -1 1 0", "copy 0 0 3 0 -1 0", "load 4 0", "load 2 5", "judge 4 0", "judge 2 5", "count -1 0",
        "count 8 0", "status -2 0", "status 7 0",
    };
    private static final String[] AMONG_EIGHT = {
        "person 0 20 1", "person 7 20 0", "person 0 100 0", "feed 7 1 1", "feed 7 4 1", "feed 7 5 0", "bearer 0 20 3",
        "bearer 8 20 0", "even 3", "when 0 9999 3", "when 8 9999 0", "clean 1 3", "weightFor 40 3", "weightFor 41 0",
        "buildFor 2 40 3", "refuse 0 0 1 3", "refuse 0 0 21 0", "weighed 0 0 3", "weighed 0 8 0", "as 0 1 2",
    };
    private static final String[] AMONG_NOBODY = {
        "whom 0 3", "whom 40 3", "whom 41 0", "swapFor 0 3", "swapFor 41 0", "undo 3", "of 0 0 0", "hold 0 0 0",
    };
    private static final String[] ASKED_ALONE = {
        "said 5", "of 0 5", "of 4 7", "feels 4 20", "bearer 0 1", "now 5", "ahead 0 1 100", "ahead 4 3 100", "hints 100",
        "even", "when 0 9999", "when 0 1", "clean 4", "clean 0", "whom 40", "weightFor 40", "weightFor 1", "buildFor 0 40",
        "kindFor 0 40", "refuse 0 0 20", "refuse 4 9999 20", "swapFor 40", "fits 0 0", "weighed 0 0", "kinds 0 0",
        "fits 3 4", "weighed 3 4", "kinds 3 4", "odds 20 0", "odds 20 1", "as 0 0", "judge 0", "judge 3", "count 6",
        "status -1", "copy 0 0 0 0 8", "copy 0 0 3 0 0", "hold 9 -1", "change 0 2 20", "say 0 0 6",
    };

    public static void main(String[] args) throws Exception {
        for (String call : AMONG_FIVE) {
            changesNothing(call, amongFive(), amongFive());
        }
        for (String call : AMONG_EIGHT) {
            changesNothing(call, amongEight(), amongEight());
        }
        for (String call : AMONG_NOBODY) {
            changesNothing(call, amongNobody(), amongNobody());
        }
        for (String call : ASKED_ALONE) {
            ScandalCounter x = amongFive();
            ScandalCounter y = amongFive();
            long answer = ask(x, call.split(" "), call.split(" ").length - 1);
            boolean same = seen(x, true).equals(seen(y, true));
            Due.due(call + " changes nothing (but status(), if it answers a finding)", same ? 1 : 0, 1);
            int found = answer < -1000000 ? 1 : 0;
            Due.due(call + " is counted, if it is a finding", x.status(-1) - y.status(-1), found);
        }
        Due.end();
    }

    private static void changesNothing(String callAndFinding, ScandalCounter x, ScandalCounter y) throws Exception {
        String[] parts = callAndFinding.split(" ");
        int which = Integer.parseInt(parts[parts.length - 1]);
        Due.due(callAndFinding, ask(x, parts, parts.length - 2), Due.BEYOND - which);
        for (int other = 0; other < 7; other++) {
            Due.due(callAndFinding + ", status " + other, x.status(other), y.status(other) + (other == which ? 1 : 0));
        }
        String seen = seen(x, true);
        String due = seen(y, true);
        Due.due(callAndFinding + " changes nothing: " + seen + " and " + due, seen.equals(due) ? 1 : 0, 1);
    }

    private static long ask(ScandalCounter x, String[] parts, int arguments) throws Exception {
        Class<?>[] types = new Class<?>[arguments];
        Object[] values = new Object[arguments];
        for (int i = 0; i < arguments; i++) {
            types[i] = int.class;
            values[i] = Integer.parseInt(parts[1 + i]);
        }
        Method method = ScandalCounter.class.getMethod(parts[0], types);
        return ((Number) method.invoke(x, values)).longValue();
    }

    private static ScandalCounter amongFive() {
        ScandalCounter x = Due.county(Due.PERSON, Due.LADY, Due.BISHOP, Due.COWMAN, Due.DUKE);
        x.say(0, 0, 6);
        x.say(4, 3, 20);
        x.hold(0, 4);
        x.hold(5, 2);
        x.image();
        x.go(6);
        x.change(1, 1, 30);
        x.hold(5, -1);
        x.seed(-9);
        Due.lay(x, 0, 6, 700, 520, 1, 2, 3, 4, 5);
        x.sheet(1, 8, 3);
        Due.lay(x, 3, 3, -1, 2, -1, 0, 101, 202, -1);
        Due.feed(x, "young owed 5;hints 6");
        x.said(6);
        return x;
    }

    /** None of the eight has ROOM, all are OWED much, a LADY bears for ever, and THE TAPE is full. */
    private static ScandalCounter amongEight() {
        ScandalCounter x = Due.eight(Due.PERSON, 0);
        for (int i = 0; i < 8; i++) {
            x.change(i, 1, 500 + i);
            x.change(i, 3, 10 * i + 5);
        }
        x.change(1, 0, Due.LADY);
        x.hold(0, 0);
        Due.lay(x, 0, 9, 9);
        x.image();
        Due.feed(x, "hints 1;".repeat(14) + "hints 77");
        return x;
    }

    private static ScandalCounter amongNobody() {
        ScandalCounter x = new ScandalCounter();
        x.say(1, 1, 1);
        x.sheet(0, 8, 1);
        return x;
    }

    /** All that an object tells of itself; the object is used up by it. status() is looked at elsewhere. */
    private static String seen(ScandalCounter x, boolean isFirst) {
        StringBuilder all = new StringBuilder();
        for (int i = 0; i < 6; i++) {
            all.append(x.said(i)).append(' ');
        }
        for (int what = 0; what < 8; what++) {
            all.append(x.count(what)).append(' ').append(x.now(what)).append(' ');
        }
        for (int i = 0; i < x.count(1); i++) {
            for (int what = 0; what < 8; what++) {
                all.append(x.of(i, what)).append(' ');
            }
        }
        for (int spot = 0; spot < 10; spot++) {
            all.append(x.as(spot, 0)).append(' ');
        }
        if (isFirst) {
            all.append("; text ").append(x.text()).append(' ').append(seen(x, false));
            sheets(x, all);
            all.append("; go ").append(x.go(9)).append(' ').append(seen(x, false));
            all.append("; undo ").append(x.undo()).append(' ').append(seen(x, false));
            all.append("; tear ").append(x.tear());
        }
        return all.toString();
    }

    private static void sheets(ScandalCounter x, StringBuilder all) {
        for (int s = 0; s < 4; s++) {
            all.append("; sheet ").append(s).append(' ').append(x.judge(s)).append(' ').append(x.load(s)).append(' ');
            for (int i = 0; i < 6; i++) {
                all.append(x.said(i)).append(' ');
            }
            for (int n = 0; n <= 9; n++) {
                all.append(x.copy(s, 0, s, 0, n)).append(' ');
            }
            all.append(x.copy(s, 0, 0, 0, 0)).append(' ').append(x.copy(s, 0, 1, 0, 0)).append(' ');
            all.append(x.fits(s, 0)).append(' ').append(x.weighed(s, 1));
        }
    }
}
