/** Promises 1 to 8: a new object, the list, people. */
public final class PeopleTest {
    private static final int[] WRONG = {-1, Integer.MIN_VALUE, Integer.MAX_VALUE};

    public static void main(String[] args) {
        newObject();
        list();
        newPeople();
        attributes();
        asks();
        rooms();
        changes();
        feelings();
        bearers();
        Due.end();
    }

    private static void newObject() {
        ScandalCounter x = new ScandalCounter();
        Due.due("1: status(-1)", x.status(-1), 0);
        int[] now = {0, 0, 0, 0, 0, -1, 0, 1};
        int[] count = {0, 0, 0, 0, 0, 0, 1, 0};
        for (int what = 0; what < 8; what++) {
            Due.due("1: now " + what, x.now(what), now[what]);
            Due.due("1: count " + what, x.count(what), count[what]);
        }
        for (int i = 0; i < 6; i++) {
            Due.due("1: said " + i, x.said(i), 0);
        }
        Due.due("1: undo()", x.undo(), Due.NONE);
        for (int s = 0; s < 4; s++) {
            Due.due("1: judge " + s, x.judge(s), Due.MISSING);
        }
        for (int spot = 0; spot < 10; spot++) {
            Due.due("1: as " + spot, x.as(spot, 0), Due.MISSING);
        }
    }

    private static void list() {
        ScandalCounter x = new ScandalCounter();
        Due.due("2: first", x.say(0, 3, 7), 0);
        Due.due("2: what it was", x.say(0, 7, 20), 307);
        Due.due("3: most", x.said(0), 720);
        Due.due("2: last place", x.say(5, 1, 0), 0);
        Due.due("3: last place", x.said(5), 100);
        Due.due("3: another place", x.said(1), 0);
        for (int v : new int[] {-1, 6, Integer.MIN_VALUE, Integer.MAX_VALUE}) {
            Due.due("2: place " + v, x.say(v, 0, 0), Due.BEYOND);
            Due.due("3: place " + v, x.said(v), Due.BEYOND);
        }
        for (int v : new int[] {-1, 8, Integer.MIN_VALUE, Integer.MAX_VALUE}) {
            Due.due("2: whom " + v, x.say(0, v, 0), Due.BEYOND);
        }
        for (int v : new int[] {-1, 21, Integer.MIN_VALUE, Integer.MAX_VALUE}) {
            Due.due("2: weight " + v, x.say(0, 0, v), Due.BEYOND);
        }
        Due.due("2: a finding changes nothing", x.said(0), 720);
    }

    private static void newPeople() {
        ScandalCounter x = new ScandalCounter();
        for (int kind = 0; kind < 7; kind++) {
            Due.due("4: number", x.person(kind, 90 + kind), kind);
            Due.due("4: kind", x.of(kind, 0), kind);
            Due.due("4: build", x.of(kind, 2), 90 + kind);
        }
        for (int v : new int[] {-1, 7, Integer.MIN_VALUE, Integer.MAX_VALUE}) {
            Due.due("4: kind " + v, x.person(v, 20), Due.BEYOND);
        }
        for (int v : new int[] {-1, 100, Integer.MIN_VALUE, Integer.MAX_VALUE}) {
            Due.due("4: build " + v, x.person(0, v), Due.BEYOND);
        }
        Due.due("4: people so far", x.count(1), 7);
        Due.due("4: the 8th, edges", x.person(0, 0), 7);
        Due.due("4: the 9th", x.person(0, 99), Due.FULL);
        Due.due("4: BEYOND is asked first", x.person(7, 99), Due.BEYOND);
        Due.due("4: people", x.count(1), 8);
    }

    private static void attributes() {
        ScandalCounter x = Due.county(Due.DUKE);
        int[] fresh = {Due.DUKE, 0, 20, 0, 0, 0, 20, 3};
        for (int what = 0; what < 8; what++) {
            Due.due("5: what " + what, x.of(0, what), fresh[what]);
        }
        for (int v : WRONG) {
            Due.due("5: person " + v, x.of(v, 0), Due.BEYOND);
            Due.due("5: what " + v, x.of(0, v), Due.BEYOND);
        }
        Due.due("5: person 1", x.of(1, 0), Due.BEYOND);
        Due.due("5: what 8", x.of(0, 8), Due.BEYOND);
        int[] forgets = {1, 0, 3, 3, 6, 1, 1};
        for (int kind = 0; kind < 7; kind++) {
            Due.due("5: FORGETS of kind " + kind, Due.county(kind).of(0, 7), forgets[kind]);
        }
    }

    private static void asks() {
        int[] most = {10, 5, 20, 0, 0, 10, 15};
        for (int kind = 0; kind < 7; kind++) {
            ScandalCounter x = Due.county(kind);
            Due.due("5: ASKS, OWED nothing, kind " + kind, x.of(0, 5), 0);
            x.change(0, 1, 3);
            Due.due("5: ASKS, OWED 3, kind " + kind, x.of(0, 5), Math.min(3, most[kind]));
            x.change(0, 1, 30);
            Due.due("5: ASKS, OWED 30, kind " + kind, x.of(0, 5), most[kind]);
        }
        ScandalCounter x = Due.county(Due.BISHOP, Due.CLERGY);
        x.change(0, 1, 30);
        x.change(1, 1, 30);
        for (int day = 0; day < 15; day++) {
            x.change(0, 1, 30);
            Due.due("5: a BISHOP ASKS on " + day, x.of(0, 5), day == 6 || day == 13 ? 3 : 0);
            Due.due("5: a CLERGY ASKS on " + day, x.of(1, 5), 0);
            x.change(0, 1, day % 7 == 6 ? 2 : 30);
            Due.due("5: no more than OWED on " + day, x.of(0, 5), day % 7 == 6 ? 2 : 0);
            x.go(1);
        }
    }

    private static void rooms() {
        int[] free = {21, 10, 21, 42, 42, 99, 15};
        int[] some = {17, 8, 17, 38, 38, 17, 13};
        int[] over = {0, 0, 0, 21, 21, 0, 5};
        for (int kind = 0; kind < 7; kind++) {
            ScandalCounter x = new ScandalCounter();
            x.person(kind, 21);
            Due.due("5: ROOM, BORNE 0, kind " + kind, x.of(0, 6), free[kind]);
            x.change(0, 3, 4);
            Due.due("5: ROOM, BORNE 4, kind " + kind, x.of(0, 6), some[kind]);
            x.change(0, 3, 22);
            Due.due("5: ROOM, BORNE 22, kind " + kind, x.of(0, 6), over[kind]);
        }
    }

    private static void changes() {
        ScandalCounter x = Due.county(Due.LADY, Due.LADY);
        int[] was = {Due.LADY, 0, 20, 0, 0};
        int[] most = {6, 9999, 99, 9999, 9999};
        for (int what = 0; what < 5; what++) {
            Due.due("6: what it was, " + what, x.change(1, what, most[what]), was[what]);
            Due.due("6: what it is, " + what, x.of(1, what), most[what]);
            Due.due("6: of the other one, " + what, x.of(0, what), was[what]);
            Due.due("6: too much, " + what, x.change(1, what, most[what] + 1), Due.BEYOND);
            for (int v : WRONG) {
                Due.due("6: wrong " + v, x.change(1, what, v), Due.BEYOND);
            }
            Due.due("6: a finding changes nothing, " + what, x.change(1, what, 0), most[what]);
            Due.due("6: least, " + what, x.of(1, what), 0);
        }
        Due.due("6: what 5", x.change(1, 5, 0), Due.BEYOND);
        Due.due("6: what -1", x.change(1, -1, 0), Due.BEYOND);
        Due.due("6: person 2", x.change(2, 0, 0), Due.BEYOND);
        Due.due("6: person -1", x.change(-1, 0, 0), Due.BEYOND);
    }

    private static void feelings() {
        int[] weights = {0, 1, 4, 5, 9, 20};
        int[][] felt = {
            {0, 1, 4, 5, 9, 20},
            {0, 2, 8, 10, 18, 40},
            {0, 0, 2, 2, 4, 10},
            {1, 1, 3, 3, 5, 11},
            {3, 3, 5, 5, 7, 13},
            {0, 0, 0, 5, 9, 20},
            {0, 0, 5, 7, 15, 37},
        };
        for (int kind = 0; kind < 7; kind++) {
            ScandalCounter x = Due.county(kind);
            x.change(0, 3, 29);
            for (int i = 0; i < weights.length; i++) {
                Due.due("7: kind " + kind + " by " + weights[i], x.feels(0, weights[i]), felt[kind][i]);
            }
            Due.due("7: weight 21", x.feels(0, 21), Due.BEYOND);
            Due.due("7: weight -1", x.feels(0, -1), Due.BEYOND);
            Due.due("7: person 1", x.feels(1, 5), Due.BEYOND);
            Due.due("7: person -1", x.feels(-1, 5), Due.BEYOND);
        }
        ScandalCounter x = Due.county(Due.BISHOP);
        x.change(0, 3, 30);
        Due.due("7: a tenth of BORNE", x.feels(0, 0), 4);
    }

    private static void bearers() {
        ScandalCounter x = Due.county(Due.PERSON);
        Due.due("8: there is no other one", x.bearer(0, 1), Due.NONE);
        x.person(Due.PERSON, 15);
        x.person(Due.PERSON, 15);
        Due.due("8: of several the least", x.bearer(0, 15), 1);
        Due.due("8: too heavy", x.bearer(0, 16), Due.NONE);
        Due.due("8: most ROOM", x.bearer(1, 20), 0);
        x.change(1, 3, 1);
        Due.due("8: ROOM, not BUILD", x.bearer(0, 15), 2);
        x.change(2, 0, Due.YOUNG);
        Due.due("8: ROOM by kind", x.bearer(0, 14), 1);
        Due.due("8: weight 0", x.bearer(0, 0), Due.BEYOND);
        Due.due("8: weight 21", x.bearer(0, 21), Due.BEYOND);
        Due.due("8: person 3", x.bearer(3, 1), Due.BEYOND);
        Due.due("8: person -1", x.bearer(-1, 1), Due.BEYOND);
    }
}
