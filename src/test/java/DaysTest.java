/** Promises 9 and 10: days, reckoned by hand. */
public final class DaysTest {
    public static void main(String[] args) {
        threeDays();
        nobodyBears();
        feltAsAhead();
        mostThatCanBe();
        mostHints();
        listGoesRound();
        wrongInputs();
        lastDay();
        Due.end();
    }

    /** A PERSON and a LADY: 6 is said of the PERSON, and comes back and forth until it is even. */
    private static void threeDays() {
        ScandalCounter x = Due.county(Due.PERSON, Due.LADY);
        x.say(0, 0, 6);
        Due.due("9: day 1", x.go(1), 3);
        now(x, 1, 3, 16, 0, 3, 0, 2, 0);
        people(x, 2, 10, 1, 1, 6, 1);
        Due.due("9: day 2", x.go(1), 1);
        now(x, 2, 1, 20, 0, 1, 0, 4, 0);
        people(x, 1, 12, 2, 0, 8, 2);
        Due.due("9: day 3", x.go(1), 0);
        now(x, 3, 0, 21, 0, 0, 0, 6, 1);
        people(x, 0, 12, 3, 0, 9, 3);
        Due.due("9: only what is borne is forgotten", x.go(3), 0);
        now(x, 6, 0, 18, 0, 0, 0, 6, 1);
    }

    private static void now(ScandalCounter x, int... due) {
        for (int what = 0; what < 8; what++) {
            Due.due("10: what " + what, x.now(what), due[what]);
        }
    }

    private static void people(ScandalCounter x, int... due) {
        for (int i = 0; i < due.length; i++) {
            int what = new int[] {1, 3, 4}[i % 3];
            Due.due("9: what " + what + " of " + i / 3, x.of(i / 3, what), due[i]);
        }
    }

    private static void nobodyBears() {
        ScandalCounter x = Due.county(Due.YOUNG);
        x.change(0, 1, 3);
        Due.due("9: alone", x.go(1), 2);
        Due.due("10: a hint", x.now(3), 1);
        Due.due("9: no TOLD", x.of(0, 4), 0);
        Due.due("9: until nothing is OWED", x.go(5), 0);
        Due.due("10: hints", x.now(3), 3);
        x.person(Due.PERSON, 5);
        x.change(0, 1, 6);
        Due.due("9: too little ROOM, then enough of it", x.go(1), 5);
        Due.due("10: one hint more", x.now(3), 4);
        Due.due("9: 5 is borne, and 2 of it comes back", x.go(1), 0);
        Due.due("9: a YOUNG who bears 2 FEELS 1, of which half is nothing", x.of(0, 3), 1);
        Due.due("9: forgotten by 1", x.of(1, 3), 4);
        Due.due("10: no hint more", x.now(3), 4);
        Due.due("10: who has most ROOM", x.now(5), 0);
    }

    private static void feltAsAhead() {
        ScandalCounter x = Due.county(Due.BISHOP);
        x.change(0, 3, 9);
        x.say(0, 0, 4);
        x.go(1);
        Due.due("9: BORNE ahead of the SAYING", x.of(0, 1), 3);
        Due.due("9: then less what it FORGETS", x.of(0, 3), 7);
        x = Due.county(Due.BISHOP, Due.PERSON);
        x.change(0, 3, 9);
        x.change(1, 1, 4);
        x.go(1);
        Due.due("9: BORNE ahead of what it bears", x.of(0, 1), 1);
        Due.due("9: by half (cut)", x.of(0, 3), 7);
    }

    private static void mostThatCanBe() {
        ScandalCounter x = Due.county(Due.CLERGY);
        x.change(0, 1, 9995);
        x.change(0, 3, 9990);
        x.say(0, 0, 20);
        Due.due("9: OWED at most", x.go(1), 9999);
        Due.due("9: BORNE at most", x.of(0, 3), 9996);
        x = Due.county(Due.CLERGY, Due.PERSON);
        x.person(Due.PERSON, 0);
        x.change(0, 1, 9999);
        x.change(0, 3, 9995);
        x.change(0, 2, 50);
        x.change(1, 3, 99);
        x.change(1, 1, 10);
        x.change(1, 4, 9999);
        x.go(1);
        Due.due("9: OWED of the other one at most", x.of(0, 1), 9999);
        Due.due("9: BORNE of the other one at most", x.of(0, 3), 9996);
        Due.due("9: TOLD at most", x.of(1, 4), 9999);
        Due.due("9: the asker got it", x.of(1, 1), 0);
    }

    private static void mostHints() {
        ScandalCounter x = Due.county(0, 0, 0, 0, 0, 0, 0, 0);
        Due.text(x, "hints 9999");
        for (int i = 0; i < 8; i++) {
            x.change(i, 2, 0);
        }
        for (int round = 0; round < 200; round++) {
            for (int i = 0; i < 8 && round % 100 == 0; i++) {
                x.change(i, 1, 9999);
            }
            x.go(60);
        }
        Due.due("9: HINTS at most", x.now(3), 99999);
        Due.due("12: HINTS at most", x.hints(100), 99999);
    }

    private static void listGoesRound() {
        ScandalCounter x = Due.county(Due.DUKE);
        for (int i = 0; i < 6; i++) {
            x.say(i, i == 5 ? 1 : 0, 4 + i);
        }
        int[] borne = {1, 3, 6, 10, 15, 12, 13, 15};
        for (int day = 0; day < borne.length; day++) {
            x.go(1);
            Due.due("9: BORNE behind day " + day, x.of(0, 3), borne[day]);
        }
        x = Due.county(Due.CLERGY);
        x.say(0, 0, 0);
        Due.due("9: a WEIGHT of 0 is nothing, even to CLERGY", x.go(1), 0);
    }

    private static void wrongInputs() {
        ScandalCounter x = Due.county(Due.PERSON);
        for (int v : new int[] {0, -1, 61, Integer.MIN_VALUE, Integer.MAX_VALUE}) {
            Due.due("9: n " + v, x.go(v), Due.BEYOND);
        }
        Due.due("9: a finding changes nothing", x.now(0), 0);
        Due.due("9: most days", x.go(60), 0);
        Due.due("10: day", x.now(0), 60);
        for (int v : new int[] {-1, 8, Integer.MIN_VALUE, Integer.MAX_VALUE}) {
            Due.due("10: what " + v, x.now(v), Due.BEYOND);
        }
        Due.due("10: all without ROOM: the least", full(), 0);
    }

    private static int full() {
        ScandalCounter x = Due.county(Due.PERSON, Due.DUKE);
        x.change(0, 2, 0);
        x.change(1, 2, 0);
        return x.now(5);
    }

    private static ScandalCounter old() {
        ScandalCounter x = Due.county(Due.PERSON);
        for (int i = 0; i < 1666; i++) {
            x.go(60);
        }
        return x;
    }

    /** No object that is promised anything gets this old (512 calls); the limits stand all the same. */
    private static void lastDay() {
        ScandalCounter x = old();
        Due.due("9: near the last day", x.now(0), 99960);
        Due.due("9: one day too many", x.go(40), Due.STATE);
        x.gossip(20);
        Due.due("25: one day too many", x.gossip(20), Due.STATE);
        Due.due("9: what is left", x.go(19), x.now(1));
        Due.due("9: the last day", x.now(0), 99999);
        Due.due("9: no more", x.go(1), Due.STATE);
        Due.due("9: BEYOND is asked first", x.go(61), Due.BEYOND);
        Due.due("25: no more", x.gossip(1), Due.STATE);
        Due.due("25: BEYOND is asked first", x.gossip(21), Due.BEYOND);
        Due.due("11: still answered", x.ahead(0, 4, 100), 0);
        dayStays(x);
        x = old();
        x.go(19);
        Due.due("25: the last days", x.gossip(20), x.now(1));
        Due.due("25: the last day", x.now(0), 99999);
    }

    /** DAY is 99999 at most: 3 by 6 and 4 by 7, on each DAY that is tried behind it. */
    private static void dayStays(ScandalCounter x) {
        x.change(0, 0, Due.LADY);
        x.change(0, 1, 0);
        x.change(0, 3, 0);
        for (int i = 0; i < 6; i++) {
            x.say(i, 0, i == 3 ? 7 : 0);
        }
        Due.due("11: the same SAYING on each DAY behind the last", x.ahead(0, 3, 100), 700);
        Due.due("14: on each of 200 DAYS", x.when(0, 1400), 200);
        x.change(0, 0, Due.BISHOP);
        x.change(0, 1, 5);
        x.say(3, 0, 0);
        Due.due("13: a BISHOP's DAY never comes", x.even(), Due.NONE);
        Due.due("11: nothing changes", x.now(0), 99999);
    }
}
