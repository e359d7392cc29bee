/** The boundary cases of promises 9 to 15, and of what a DAY does in the terms. */
public final class DaysEdgesTest {
    public static void main(String[] args) {
        goOutside();
        sayingOfNobody();
        sayingOfTheEighth();
        sayingWithoutWeight();
        owedPassesItsEnd();
        bornePassesItsEnd();
        owedOfTheOtherPassesItsEnd();
        borneOfTheOtherPassesItsEnd();
        toldPassesItsEnd();
        hintsPassTheirEnd();
        forgetsZeroAtLeast();
        roomJustEnoughInADay();
        lastPieceIsAsked();
        nobodyElse();
        bishopOnHisDay();
        nowOutside();
        nowWithNobody();
        nowOfEight();
        aheadOutside();
        hintsOutside();
        evenAtItsEnds();
        whenAtItsEnds();
        cleanAtItsEnds();
        Due.end();
    }

    private static void goOutside() {
        ScandalCounter x = Due.county(Due.PERSON);
        x.change(0, 1, 9999);
        for (int n : Due.outside(1, 60)) {
            Due.due("9: n " + n, x.go(n), Due.BEYOND);
        }
        Due.due("9: BEYOND changes no OWED", x.of(0, 1), 9999);
        Due.due("9: BEYOND changes no DAY", x.now(0), 0);
        Due.due("9: fewest", x.go(1), 9998);
        Due.due("9: most", x.go(60), 9938);
        Due.due("9: DAY", x.now(0), 61);
    }

    private static void sayingOfNobody() {
        ScandalCounter x = Due.county(Due.CLERGY);
        for (int whom = 1; whom < 8; whom++) {
            x.say(0, whom, 20);
            x.go(6);
            Due.due("9: of " + whom + ", who is nobody: OWED", x.now(1), 0);
            Due.due("9: of " + whom + ", who is nobody: BORNE", x.now(2), 0);
        }
        x.say(0, 1, 20);
        x.person(Due.CLERGY, 20);
        Due.due("9: now there is such a one", x.go(1), 11);
    }

    private static void sayingOfTheEighth() {
        ScandalCounter x = Due.eight(Due.LADY, 0);
        x.say(0, 7, 20);
        Due.due("9: 40 less a hint", x.go(1), 39);
        Due.due("9: BORNE of the 8th", x.of(7, 3), 20);
        Due.due("9: OWED of the 8th", x.of(7, 1), 39);
    }

    private static void sayingWithoutWeight() {
        ScandalCounter x = Due.county(Due.BISHOP);
        x.change(0, 3, 9999);
        x.say(0, 0, 0);
        Due.due("9: WEIGHT 0 is no SAYING, though a BISHOP FEELS by it", x.go(1), 0);
        x.say(1, 0, 1);
        Due.due("9: WEIGHT 1 is one", x.go(1), 1000);
    }

    private static int owedBehindADay(int owed) {
        ScandalCounter x = Due.county(Due.CLERGY);
        x.change(0, 1, owed);
        x.say(0, 0, 20);
        return x.go(1);
    }

    /** OWED is what it FEELS more (9999 at most): a CLERGY FEELS 11 by 20 and ASKS nothing. */
    private static void owedPassesItsEnd() {
        Due.due("9: OWED just below its end", owedBehindADay(9987), 9998);
        Due.due("9: OWED at its end", owedBehindADay(9988), 9999);
        Due.due("9: OWED would pass its end by 1", owedBehindADay(9989), 9999);
        Due.due("9: OWED was at its end", owedBehindADay(9999), 9999);
    }

    private static int borneBehindADay(int borne) {
        ScandalCounter x = Due.county(Due.LADY);
        x.change(0, 3, borne);
        x.say(0, 0, 20);
        x.go(1);
        return x.of(0, 3);
    }

    /** BORNE is WEIGHT more (9999 at most): a LADY FORGETS nothing. */
    private static void bornePassesItsEnd() {
        Due.due("9: BORNE just below its end", borneBehindADay(9978), 9998);
        Due.due("9: BORNE at its end", borneBehindADay(9979), 9999);
        Due.due("9: BORNE would pass its end by 1", borneBehindADay(9980), 9999);
        Due.due("9: BORNE was at its end", borneBehindADay(9999), 9999);
    }

    /** A PERSON, OWED 10 and without ROOM, and a CLERGY who bears it. */
    private static ScandalCounter askerAndClergy(int owed, int borne, int told) {
        ScandalCounter x = Due.county(Due.PERSON, Due.CLERGY);
        x.change(0, 1, 10);
        x.change(0, 4, told);
        x.change(1, 1, owed);
        x.change(1, 3, borne);
        x.go(1);
        return x;
    }

    private static void owedOfTheOtherPassesItsEnd() {
        Due.due("9: OWED of the other just below its end", askerAndClergy(9995, 0, 0).of(1, 1), 9998);
        Due.due("9: OWED of the other at its end", askerAndClergy(9996, 0, 0).of(1, 1), 9999);
        Due.due("9: OWED of the other would pass its end by 1", askerAndClergy(9997, 0, 0).of(1, 1), 9999);
        Due.due("9: OWED of the other was at its end", askerAndClergy(9999, 0, 0).of(1, 1), 9999);
    }

    private static void borneOfTheOtherPassesItsEnd() {
        Due.due("9: BORNE of the other just below its end, less 3", askerAndClergy(0, 9988, 0).of(1, 3), 9995);
        Due.due("9: BORNE of the other at its end, less 3", askerAndClergy(0, 9989, 0).of(1, 3), 9996);
        Due.due("9: BORNE of the other would pass its end, less 3", askerAndClergy(0, 9990, 0).of(1, 3), 9996);
        Due.due("9: BORNE of the other was at its end, less 3", askerAndClergy(0, 9999, 0).of(1, 3), 9996);
    }

    private static void toldPassesItsEnd() {
        Due.due("9: TOLD just below its end", askerAndClergy(0, 0, 9997).of(0, 4), 9998);
        Due.due("9: TOLD at its end", askerAndClergy(0, 0, 9998).of(0, 4), 9999);
        Due.due("9: TOLD was at its end", askerAndClergy(0, 0, 9999).of(0, 4), 9999);
    }

    /** Eight without ROOM leave 8 HINTS a DAY; from 9995 on 187 times 60 DAYS make 99755. */
    private static void hintsPassTheirEnd() {
        ScandalCounter x = Due.eight(Due.PERSON, 0);
        Due.text(x, "hints 9995");
        for (int round = 0; round < 187; round++) {
            for (int i = 0; i < 8 && round % 160 == 0; i++) {
                x.change(i, 1, 9999);
            }
            x.go(60);
        }
        Due.due("9: HINTS so far", x.now(3), 99755);
        Due.due("12: HINTS just below their end", x.hints(30), 99995);
        Due.due("12: HINTS would pass their end", x.hints(31), 99999);
        x.go(30);
        Due.due("9: HINTS just below their end", x.now(3), 99995);
        Due.due("18: as now can't be", x.buildFor(0, 1), Due.NONE);
        int owed = x.now(1);
        Due.due("9: OWED is 1 less for each at the end too", x.go(1), owed - 8);
        Due.due("9: HINTS at their end", x.now(3), 99999);
        Due.due("9: OWED is 1 less for each behind the end", x.go(1), owed - 16);
        Due.due("9: HINTS stay at their end", x.now(3), 99999);
        Due.due("41: HINTS at their end", x.count(4), 99999);
        Due.due("12: HINTS behind none", x.hints(0), 99999);
        Due.due("12: HINTS behind 100", x.hints(100), 99999);
        Due.due("18: HINTS are as now at their end", x.buildFor(7, 40), 0);
        Due.due("21: the least pair, all leave 99999", x.swapFor(40), 1);
        Due.due("21: the least pair, behind none", x.swapFor(0), 1);
        Due.due("30: hints from their end", Due.text(x, "hints 0"), 1);
        Due.due("9: HINTS anew", x.go(1) - x.now(1) + x.now(3), 8);
    }

    /** BORNE is what one FORGETS less (0 at least). */
    private static void forgetsZeroAtLeast() {
        int[] forgets = {1, 0, 3, 3, 6, 1, 1};
        for (int kind = 0; kind < 7; kind++) {
            for (int borne = 0; borne <= 7; borne++) {
                ScandalCounter x = Due.county(kind);
                x.change(0, 3, borne);
                x.go(1);
                int due = borne < forgets[kind] ? 0 : borne - forgets[kind];
                Due.due("9: kind " + kind + " bore " + borne, x.of(0, 3), due);
            }
        }
    }

    private static void roomJustEnoughInADay() {
        ScandalCounter x = Due.county(Due.LADY, Due.LADY);
        x.change(0, 1, 5);
        x.change(1, 2, 10);
        Due.due("9: ROOM is 5: it is borne, and as much comes back", x.go(1), 5);
        Due.due("9: no hint", x.now(3), 0);
        Due.due("9: each TOLD", x.now(6), 2);
        x = Due.county(Due.LADY, Due.LADY);
        x.change(0, 1, 5);
        x.change(1, 2, 9);
        Due.due("9: ROOM is 4: nobody bears it", x.go(1), 4);
        Due.due("9: a hint", x.now(3), 1);
        Due.due("9: none TOLD", x.now(6), 0);
        Due.due("9: 4 is borne the next DAY, and as much comes back", x.go(1), 4);
        Due.due("9: no hint more", x.now(3), 1);
    }

    private static void lastPieceIsAsked() {
        ScandalCounter x = Due.county(Due.PERSON, Due.COWMAN);
        x.change(0, 1, 11);
        Due.due("9: 10 of 11; a COWMAN FEELS 10, half is 5, which comes back: a PERSON FEELS 5, half is 2", x.go(1), 3);
        Due.due("9: OWED of the PERSON", x.of(0, 1), 3);
        Due.due("9: all of the 3; a COWMAN FEELS nothing by it", x.go(1), 0);
        Due.due("9: TOLD", x.of(0, 4), 2);
        Due.due("9: it ASKS nothing more", x.go(1), 0);
        Due.due("9: TOLD stays", x.of(0, 4), 2);
        Due.due("9: no hints", x.now(3), 0);
    }

    private static void nobodyElse() {
        int[] owed = {1, 1, 1, 2, 2, 1, 1};
        for (int kind = 0; kind < 7; kind++) {
            ScandalCounter x = Due.county(kind);
            x.change(0, 1, 2);
            x.change(0, 2, 99);
            Due.due("9: alone, with ROOM of its own, kind " + kind, x.go(1), owed[kind]);
            Due.due("9: a hint of kind " + kind, x.now(3), 2 - owed[kind]);
            Due.due("9: nothing is borne by kind " + kind, x.of(0, 3), 0);
        }
    }

    private static void bishopOnHisDay() {
        ScandalCounter x = Due.county(Due.BISHOP, Due.LADY);
        x.change(0, 1, 7);
        Due.due("9: not on DAYS 0 to 5", x.go(6), 7);
        Due.due("9: on DAY 6 he has 3 said, the LADY FEELS 6, half is 3, which comes back: he FEELS 2, half is 1", x.go(1), 5);
        Due.due("9: OWED of the BISHOP", x.of(0, 1), 5);
        Due.due("9: not on DAYS 7 to 12", x.go(6), 5);
        Due.due("9: on DAY 13 again", x.go(1), 3);
        Due.due("9: TOLD", x.of(0, 4), 2);
    }

    private static void nowOutside() {
        ScandalCounter x = Due.county(Due.PERSON);
        for (int what : Due.outside(0, 7)) {
            Due.due("10: what " + what, x.now(what), Due.BEYOND);
        }
        Due.due("10: each was counted", x.status(0), 4);
    }

    private static void nowWithNobody() {
        ScandalCounter x = new ScandalCounter();
        x.go(3);
        int[] due = {3, 0, 0, 0, 0, -1, 0, 1};
        for (int what = 0; what < 8; what++) {
            Due.due("10: with nobody, what " + what, x.now(what), due[what]);
        }
        Due.due("10: -1 is no finding", x.status(-1), 0);
    }

    private static void nowOfEight() {
        ScandalCounter x = Due.eight(Due.PERSON, 0);
        Due.due("10: who has most ROOM, all have none", x.now(5), 0);
        for (int i = 0; i < 8; i++) {
            x.change(i, 1, 9999);
            x.change(i, 3, 9999);
            x.change(i, 4, 9999);
            Due.due("10: those who are OWED, up to " + i, x.now(4), (1 << i + 1) - 1);
            Due.due("10: not EVEN", x.now(7), 0);
        }
        for (int what : new int[] {1, 2, 6}) {
            Due.due("10: most of all together, what " + what, x.now(what), 8 * 9999);
        }
        Due.due("41: most OWED of all together", x.count(2), 8 * 9999);
        Due.due("41: most BORNE of all together", x.count(3), 8 * 9999);
        x.change(7, 0, Due.YOUNG);
        Due.due("10: the 8th has most ROOM", x.now(5), 7);
        x.change(3, 0, Due.YOUNG);
        Due.due("10: of several the least number", x.now(5), 3);
        for (int i = 0; i < 7; i++) {
            x.change(i, 1, 0);
        }
        Due.due("10: the 8th alone is OWED", x.now(4), 128);
        x.change(7, 1, 1);
        Due.due("10: OWED 1 is not EVEN", x.now(7), 0);
        x.change(7, 1, 0);
        Due.due("10: OWED 0 is EVEN", x.now(7), 1);
    }

    private static void aheadOutside() {
        ScandalCounter x = Due.eight(Due.LADY, 0);
        x.change(7, 1, 9999);
        x.change(7, 3, 9999);
        x.change(7, 4, 9999);
        Due.due("11: OWED behind none", x.ahead(7, 1, 0), 9999);
        Due.due("11: BORNE behind none", x.ahead(7, 3, 0), 9999);
        Due.due("11: TOLD behind none", x.ahead(7, 4, 0), 9999);
        Due.due("11: OWED behind 100", x.ahead(7, 1, 100), 9899);
        for (int what : new int[] {1, 3, 4}) {
            for (int person : Due.outside(0, 7)) {
                Due.due("11: person " + person, x.ahead(person, what, 0), Due.BEYOND);
            }
            for (int n : Due.outside(0, 100)) {
                Due.due("11: n " + n, x.ahead(7, what, n), Due.BEYOND);
            }
        }
        for (int what : new int[] {-1, 0, 2, 5, 6, 7, 8, Integer.MIN_VALUE, Integer.MAX_VALUE}) {
            Due.due("11: what " + what, x.ahead(7, what, 0), Due.BEYOND);
        }
        Due.due("11: nothing changes", x.of(7, 1), 9999);
    }

    private static void hintsOutside() {
        ScandalCounter x = new ScandalCounter();
        Due.due("12: behind none, with nobody", x.hints(0), 0);
        Due.due("12: behind 100, with nobody", x.hints(100), 0);
        for (int n : Due.outside(0, 100)) {
            Due.due("12: n " + n, x.hints(n), Due.BEYOND);
        }
    }

    /** Alone a PERSON is OWED 1 less a DAY. */
    private static void evenAtItsEnds() {
        Due.due("13: with nobody", new ScandalCounter().even(), 0);
        int[] owed = {0, 1, 199, 200, 201, 9999};
        int[] due = {0, 1, 199, 200, Due.NONE, Due.NONE};
        for (int i = 0; i < owed.length; i++) {
            ScandalCounter x = Due.eight(Due.PERSON, 0);
            x.change(7, 1, owed[i]);
            Due.due("13: OWED " + owed[i], x.even(), due[i]);
            Due.due("13: nothing changes", x.of(7, 1), owed[i]);
            Due.due("13: NONE is counted", x.status(3), due[i] == Due.NONE ? 1 : 0);
        }
        ScandalCounter x = Due.county(Due.CLERGY);
        x.change(0, 1, 1);
        Due.due("13: a CLERGY ASKS nothing", x.even(), Due.NONE);
        x.change(0, 1, 0);
        x.say(0, 0, 1);
        Due.due("13: now, whatever comes", x.even(), 0);
    }

    private static void whenAtItsEnds() {
        ScandalCounter x = Due.eight(Due.LADY, 0);
        for (int v : Due.outside(0, 9999)) {
            Due.due("14: v " + v, x.when(7, v), Due.BEYOND);
        }
        for (int person : Due.outside(0, 7)) {
            Due.due("14: person " + person, x.when(person, 0), Due.BEYOND);
        }
        Due.due("14: v 0 is so now", x.when(7, 0), 0);
        Due.due("14: v 1 is never so", x.when(7, 1), Due.NONE);
        Due.due("14: v 9999 is never so", x.when(7, 9999), Due.NONE);
        x.change(7, 3, 9998);
        Due.due("14: just as much", x.when(7, 9998), 0);
        Due.due("14: 1 more", x.when(7, 9999), Due.NONE);
        x.say(5, 7, 20);
        Due.due("14: 9999 at most", x.when(7, 9999), 6);
        x.say(5, 7, 0);
        x.change(7, 3, 0);
        x.say(1, 7, 1);
        Due.due("14: on DAY 193, behind 194", x.when(7, 33), 194);
        Due.due("14: on DAY 199, behind 200", x.when(7, 34), 200);
        Due.due("14: no more", x.when(7, 35), Due.NONE);
        x.say(1, 7, 0);
        x.say(2, 7, 1);
        Due.due("14: on DAY 194, behind 195", x.when(7, 33), 195);
        Due.due("14: on DAY 200, behind 201", x.when(7, 34), Due.NONE);
        Due.due("14: nothing changes", x.now(0), 0);
    }

    private static void cleanAtItsEnds() {
        ScandalCounter x = Due.eight(Due.PERSON, 0);
        for (int person : Due.outside(0, 7)) {
            Due.due("15: person " + person, x.clean(person), Due.BEYOND);
        }
        int[] borne = {0, 1, 199, 200, 201, 9999};
        int[] due = {0, 1, 199, 200, Due.NONE, Due.NONE};
        for (int i = 0; i < borne.length; i++) {
            x.change(7, 3, borne[i]);
            Due.due("15: BORNE " + borne[i], x.clean(7), due[i]);
            Due.due("15: nothing changes", x.of(7, 3), borne[i]);
        }
        x.change(7, 0, Due.BISHOP);
        x.change(7, 3, 1200);
        Due.due("15: a BISHOP with 1200", x.clean(7), 200);
        x.change(7, 3, 1201);
        Due.due("15: a BISHOP with 1201", x.clean(7), Due.NONE);
    }
}
