/** The boundary cases of promises 16 to 24: whom, how, and what was borne. */
public final class HowEdgesTest {
    public static void main(String[] args) {
        whomOutside();
        whomOfSeveral();
        whomAtTheEndOfOwed();
        whomWithEight();
        weightForOutside();
        weightForLeastAndMost();
        weightForOnceIsEnough();
        weightForOfWhomItIs();
        buildForOutside();
        buildForLeastAndMost();
        kindForOutside();
        kindForOfSeveral();
        kindForAtTheEndOfBorne();
        refuseOutside();
        refuseAllTheOthers();
        refuseIsNotEnough();
        refuseFromNowOnAlone();
        swapForOutside();
        swapForFewerThanTwo();
        swapForTheLastPair();
        swapForBothBuilds();
        sheetOfNoNumbers();
        sheetOfFortyNumbers();
        sheetOfEachWidth();
        noNumberTells();
        sheetFindingsInOrder();
        Due.end();
    }

    private static void whomOutside() {
        ScandalCounter nobody = new ScandalCounter();
        ScandalCounter x = Due.county(Due.PERSON);
        for (int n : Due.outside(0, 40)) {
            Due.due("16: n " + n, x.whom(n), Due.BEYOND);
            Due.due("16: n " + n + " ahead of NONE", nobody.whom(n), Due.BEYOND);
        }
        for (int n : new int[] {0, 1, 40}) {
            Due.due("16: nobody, n " + n, nobody.whom(n), Due.NONE);
            Due.due("16: one, n " + n, x.whom(n), 0);
        }
        Due.due("16: NONE is counted", nobody.status(3), 3);
    }

    /** Nobody bears anything: a PERSON comes to 9, a DUKE to 4, a LADY to 19, of 10. */
    private static void whomOfSeveral() {
        ScandalCounter x = new ScandalCounter();
        int[] kinds = {Due.PERSON, Due.DUKE, Due.LADY, Due.DUKE, Due.PERSON};
        for (int kind : kinds) {
            x.person(kind, 0);
        }
        x.say(0, 2, 10);
        Due.due("16: the least number of those who come to least", x.whom(1), 1);
        Due.due("16: behind none all are alike", x.whom(0), 0);
        x.change(1, 0, Due.LADY);
        Due.due("16: a later one", x.whom(1), 3);
        x.change(3, 0, Due.LADY);
        Due.due("16: the first", x.whom(1), 0);
        x.say(0, 2, 0);
        Due.due("16: without WEIGHT all are alike", x.whom(40), 0);
    }

    private static void whomAtTheEndOfOwed() {
        ScandalCounter x = Due.eight(Due.CLERGY, 0);
        for (int i = 0; i < 8; i++) {
            x.change(i, 1, 9999);
        }
        Due.due("16: all are OWED most, behind none", x.whom(0), 0);
        Due.due("16: all are OWED most, behind 40", x.whom(40), 0);
        x.say(0, 0, 20);
        x.change(0, 1, 9987);
        Due.due("16: one who is OWED most can't be OWED more", x.whom(1), 1);
    }

    private static void whomWithEight() {
        ScandalCounter x = Due.eight(Due.PERSON, 0);
        x.change(7, 0, Due.COWMAN);
        x.change(7, 3, 9);
        x.say(0, 0, 4);
        Due.due("16: the 8th, a COWMAN, FEELS nothing by 4", x.whom(1), 7);
        x.say(0, 0, 5);
        Due.due("16: by 5 he FEELS as the others", x.whom(1), 0);
    }

    private static void weightForOutside() {
        ScandalCounter x = new ScandalCounter();
        for (int n : Due.outside(1, 40)) {
            Due.due("17: n " + n, x.weightFor(n), Due.BEYOND);
        }
        Due.due("17: nobody, n 1", x.weightFor(1), 20);
        Due.due("17: nobody, n 40", x.weightFor(40), 20);
    }

    /** A CLERGY ASKS nothing; a PERSON alone loses 1 a DAY. */
    private static void weightForLeastAndMost() {
        ScandalCounter x = Due.county(Due.CLERGY);
        Due.due("17: any WEIGHT makes it uneven: 0", x.weightFor(1), 0);
        x.change(0, 1, 1);
        Due.due("17: no WEIGHT is enough", x.weightFor(40), Due.NONE);
        Due.due("17: NONE is counted", x.status(3), 1);
        x = Due.county(Due.PERSON);
        for (int n = 1; n <= 6; n++) {
            Due.due("17: PERSON behind 1 to " + n, x.weightFor(n), n);
        }
        x.change(0, 1, 1);
        Due.due("17: OWED 1 already, n 1", x.weightFor(1), 0);
        x.change(0, 1, 2);
        Due.due("17: OWED 2 already, n 1", x.weightFor(1), Due.NONE);
        x = Due.county(Due.COWMAN, Due.PERSON);
        Due.due("17: of 9 half is 4, which comes back and a COWMAN does not FEEL", x.weightFor(1), 9);
    }

    /** EVEN at least once: behind 1, though no more behind 2. */
    private static void weightForOnceIsEnough() {
        ScandalCounter x = Due.county(Due.COWMAN);
        x.say(0, 0, 9);
        x.say(1, 0, 20);
        for (int n = 1; n <= 6; n++) {
            Due.due("17: once, behind 1 to " + n, x.weightFor(n), 4);
        }
        ScandalCounter y = Due.county(Due.PERSON);
        y.say(3, 0, 20);
        Due.due("17: 3 by the 3rd of 40 DAYS", y.weightFor(40), 3);
        y.say(3, 0, 0);
        y.change(0, 1, 3);
        Due.due("17: EVEN behind n alone", y.weightFor(3), 0);
        Due.due("17: EVEN behind none of 2", y.weightFor(2), Due.NONE);
    }

    /** Of whom it is stays, even where its WEIGHT is 0 or the number is the greatest. */
    private static void weightForOfWhomItIs() {
        ScandalCounter x = Due.eight(Due.COWMAN, 0);
        for (int i = 0; i < 8; i++) {
            x.change(i, 3, 99);
        }
        x.change(0, 0, Due.PERSON);
        x.change(6, 0, Due.PERSON);
        x.say(0, 1, 0);
        Due.due("17: of 1", x.weightFor(1), 4);
        x.say(0, 7, 0);
        Due.due("17: of 7", x.weightFor(1), 4);
        x.say(0, 6, 0);
        Due.due("17: of 6", x.weightFor(1), 1);
        x.say(0, 0, 20);
        Due.due("17: of 0", x.weightFor(1), 1);
    }

    private static void buildForOutside() {
        ScandalCounter x = Due.eight(Due.PERSON, 0);
        for (int n : Due.outside(0, 40)) {
            Due.due("18: n " + n, x.buildFor(7, n), Due.BEYOND);
        }
        for (int person : Due.outside(0, 7)) {
            Due.due("18: person " + person, x.buildFor(person, 0), Due.BEYOND);
        }
    }

    private static void buildForLeastAndMost() {
        ScandalCounter x = Due.eight(Due.PERSON, 0);
        Due.due("18: nothing to bear, behind 40", x.buildFor(7, 40), 0);
        x.change(0, 1, 1);
        Due.due("18: behind none", x.buildFor(7, 0), 0);
        Due.due("18: the 8th must bear 1", x.buildFor(7, 1), 1);
        Due.due("18: one's own BUILD is no help", x.buildFor(0, 1), Due.NONE);
        x.change(7, 3, 98);
        Due.due("18: most", x.buildFor(7, 1), 99);
        x.change(7, 3, 99);
        Due.due("18: more than most", x.buildFor(7, 1), Due.NONE);
        Due.due("18: NONE is counted", x.status(3), 2);
        Due.due("18: BUILD stays", x.of(7, 2), 0);
        Due.text(x, "hints 9999");
        x.change(7, 3, 0);
        Due.due("18: as now, whatever they are", x.buildFor(7, 1), 1);
    }

    private static void kindForOutside() {
        ScandalCounter x = Due.eight(Due.PERSON, 20);
        for (int n : Due.outside(0, 40)) {
            Due.due("19: n " + n, x.kindFor(7, n), Due.BEYOND);
        }
        for (int person : Due.outside(0, 7)) {
            Due.due("19: person " + person, x.kindFor(person, 0), Due.BEYOND);
        }
        Due.due("19: nothing is BORNE by any", x.kindFor(7, 40), 0);
    }

    /** What each FORGETS in a DAY: 1, 0, 3, 3, 6, 1, 1. */
    private static void kindForOfSeveral() {
        ScandalCounter x = Due.county(Due.YOUNG);
        int[] borne = {0, 1, 2, 3, 4, 6, 7};
        int[] due = {0, 0, 2, 2, 4, 4, 4};
        for (int i = 0; i < borne.length; i++) {
            x.change(0, 3, borne[i]);
            Due.due("19: BORNE " + borne[i] + " behind 1", x.kindFor(0, 1), due[i]);
            Due.due("19: BORNE " + borne[i] + " behind none", x.kindFor(0, 0), 0);
        }
        x.change(0, 3, 40);
        Due.due("19: all but a LADY come to 0 behind 40", x.kindFor(0, 40), 0);
        x.change(0, 3, 41);
        Due.due("19: behind 40 the least that come to 0", x.kindFor(0, 40), 2);
        Due.due("19: KIND stays", x.of(0, 0), Due.YOUNG);
    }

    private static void kindForAtTheEndOfBorne() {
        ScandalCounter x = Due.eight(Due.LADY, 20);
        x.change(7, 3, 9999);
        Due.due("19: BORNE most, behind none", x.kindFor(7, 0), 0);
        Due.due("19: BORNE most, behind 1", x.kindFor(7, 1), Due.BISHOP);
    }

    private static void refuseOutside() {
        ScandalCounter x = Due.eight(Due.PERSON, 20);
        for (int person : Due.outside(0, 7)) {
            Due.due("20: person " + person, x.refuse(person, 0, 0), Due.BEYOND);
        }
        for (int v : Due.outside(0, 9999)) {
            Due.due("20: v " + v, x.refuse(7, v, 0), Due.BEYOND);
        }
        for (int n : Due.outside(0, 20)) {
            Due.due("20: n " + n, x.refuse(7, 0, n), Due.BEYOND);
        }
        Due.due("20: least of all, nobody must", x.refuse(7, 0, 0), 0);
        Due.due("20: most of all, nobody must", x.refuse(7, 9999, 20), 0);
    }

    /** Seven have 2 each said of the one with ROOM, who FORGETS 1: k of them make it 2 * k - 1. */
    private static ScandalCounter allAgainst(int person) {
        ScandalCounter x = Due.eight(Due.PERSON, 0);
        for (int i = 0; i < 8; i++) {
            x.change(i, 1, i == person ? 0 : 2);
        }
        x.change(person, 2, 99);
        return x;
    }

    private static void refuseAllTheOthers() {
        int[] fewestFirst = {0, 2, 6, 14, 30, 62, 126, 254};
        int[] fewestLast = {0, 1, 3, 7, 15, 31, 63, 127};
        for (int refusing = 0; refusing <= 7; refusing++) {
            int v = refusing == 7 ? 0 : 2 * (7 - refusing) - 1;
            Due.due("20: of 0, v " + v, allAgainst(0).refuse(0, v, 1), fewestFirst[refusing]);
            Due.due("20: of 7, v " + v, allAgainst(7).refuse(7, v, 1), fewestLast[refusing]);
        }
        Due.due("20: v 13 is so, 12 is not", allAgainst(7).refuse(7, 12, 1), 1);
    }

    private static void refuseIsNotEnough() {
        ScandalCounter x = allAgainst(0);
        x.say(0, 0, 20);
        Due.due("20: what is said of it is borne", x.refuse(0, 18, 1), Due.NONE);
        Due.due("20: 19, if all refuse", x.refuse(0, 19, 1), 254);
        x.say(0, 0, 0);
        x.change(0, 3, 1);
        Due.due("20: what it bears now", x.refuse(0, 0, 0), Due.NONE);
        Due.due("20: NONE is counted", x.status(3), 2);
        ScandalCounter alone = Due.county(Due.PERSON);
        alone.change(0, 3, 1);
        Due.due("20: there are no others", alone.refuse(0, 0, 0), Due.NONE);
        Due.due("20: nor must there be", alone.refuse(0, 0, 1), 0);
    }

    /** Those who refuse do so in what is tried alone. */
    private static void refuseFromNowOnAlone() {
        ScandalCounter x = allAgainst(0);
        x.refuse(0, 0, 20);
        Due.due("20: hints() behind it, as nobody bears what 0 has said", x.hints(2), 1);
        Due.due("20: ahead() behind it", x.ahead(0, 3, 1), 13);
        Due.due("20: all are as OWED as they were", x.now(1), 14);
        Due.due("20: go() behind it", x.go(1), 7);
        Due.due("20: all had it said", x.now(6), 7);
        x = allAgainst(0);
        x.refuse(0, 0, 20);
        Due.text(x, "hints 0");
        Due.due("20: text() behind it", x.go(1), 7);
        x = allAgainst(0);
        x.refuse(0, 0, 20);
        x.image();
        x.undo();
        Due.due("20: undo() behind it", x.go(1), 7);
    }

    private static void swapForOutside() {
        ScandalCounter nobody = new ScandalCounter();
        ScandalCounter x = Due.eight(Due.PERSON, 20);
        for (int n : Due.outside(0, 40)) {
            Due.due("21: n " + n, x.swapFor(n), Due.BEYOND);
            Due.due("21: n " + n + " ahead of NONE", nobody.swapFor(n), Due.BEYOND);
        }
        Due.due("21: all alike, behind none", x.swapFor(0), 1);
        Due.due("21: all alike, behind 40", x.swapFor(40), 1);
    }

    private static void swapForFewerThanTwo() {
        ScandalCounter x = new ScandalCounter();
        for (int n : new int[] {0, 40}) {
            Due.due("21: nobody", x.swapFor(n), Due.NONE);
        }
        x.person(Due.PERSON, 20);
        for (int n : new int[] {0, 40}) {
            Due.due("21: one", x.swapFor(n), Due.NONE);
        }
        Due.due("21: NONE is counted", x.status(3), 4);
        x.person(Due.PERSON, 20);
        Due.due("21: two", x.swapFor(40), 1);
    }

    private static void swapForTheLastPair() {
        ScandalCounter x = Due.eight(Due.PERSON, 0);
        for (int i = 0; i < 6; i++) {
            x.change(i, 3, 9999);
        }
        x.change(6, 1, 1);
        x.change(6, 2, 50);
        Due.due("21: the last pair alone leaves none", x.swapFor(1), 8 * 6 + 7);
        Due.due("21: behind none all pairs are alike", x.swapFor(0), 1);
        x.change(0, 3, 0);
        Due.due("21: a lesser pair that leaves as few", x.swapFor(1), 6);
        Due.due("21: BUILDS stay", x.of(6, 2), 50);
    }

    /** One who bears 5 already is no help; the one who ASKS has the only BUILD, and no ROOM is its own. */
    private static void swapForBothBuilds() {
        ScandalCounter x = Due.county(Due.PERSON, Due.PERSON, Due.PERSON);
        for (int i = 0; i < 3; i++) {
            x.change(i, 2, i == 0 ? 1 : 0);
            x.change(i, 3, i == 1 ? 5 : 0);
        }
        x.change(0, 1, 1);
        Due.due("21: the greater number gets the lesser's", x.swapFor(1), 2);
        for (int i = 0; i < 3; i++) {
            x.change(i, 2, i == 2 ? 1 : 0);
            x.change(i, 3, i == 0 ? 5 : 0);
        }
        x.change(0, 1, 0);
        x.change(2, 1, 1);
        Due.due("21: the lesser number gets the greater's", x.swapFor(1), 8 + 2);
    }

    private static void three(ScandalCounter x, String name, int person, int fits, int weighed, int kinds) {
        Due.due("22: " + name, x.fits(0, person), fits);
        Due.due("23: " + name, x.weighed(0, person), weighed);
        Due.due("24: " + name, x.kinds(0, person), kinds);
    }

    private static void sheetOfNoNumbers() {
        ScandalCounter x = Due.eight(Due.LADY, 0);
        for (int bits : new int[] {8, 16, 32}) {
            x.sheet(0, bits, 0);
            three(x, "no numbers of " + bits + " bits", 7, 21, 0, 127);
        }
        x.sheet(0, 0, 0);
        three(x, "MISSING again", 7, Due.MISSING, Due.MISSING, Due.MISSING);
    }

    /**
     * A DUKE alone FORGETS 18 in 6 DAYS, and on DAYS 0, 6, .. 36 has the tried WEIGHT said of him: behind 39 DAYS
     * it is 3 DAYS since the last, and 20 has left 2 more each time (12 till then), 19 1 more (6), others nothing.
     */
    private static void sheetOfFortyNumbers() {
        ScandalCounter x = Due.county(Due.DUKE);
        x.sheet(0, 8, 40);
        for (int i = 0; i < 40; i++) {
            x.write(0, i, -1);
        }
        three(x, "40 of any", 0, 21, 0, 127);
        x.write(0, 39, 23);
        Due.due("22: the 40th is 23", x.fits(0, 0), 1);
        Due.due("23: the 40th is 23", x.weighed(0, 0), 20);
        x.write(0, 39, 16);
        Due.due("23: the 40th is 16", x.weighed(0, 0), 19);
        x.write(0, 39, 9);
        Due.due("23: the 40th is 9", x.weighed(0, 0), 18);
        x.write(0, 39, 0);
        Due.due("22: the 40th is 0", x.fits(0, 0), 10);
        Due.due("23: the 40th is 0", x.weighed(0, 0), 0);
        x.write(0, 39, 24);
        Due.due("22: the 40th is 24", x.fits(0, 0), 0);
        Due.due("23: the 40th is 24", x.weighed(0, 0), Due.NONE);
        x.change(0, 1, 39);
        x.write(0, 39, 39);
        Due.due("24: OWED 39 stays only if it ASKS nothing", x.kinds(0, 0), 8);
        x.write(0, 39, 34);
        Due.due("24: a BISHOP ASKS on DAYS 6, 13, 20, 27 and 34", x.kinds(0, 0), 16);
        x.write(0, 39, 0);
        Due.due("24: others ASK each DAY", x.kinds(0, 0), 127 - 8 - 16);
        x.write(0, 0, 38);
        Due.due("24: not so now", x.kinds(0, 0), 0);
    }

    private static void sheetOfEachWidth() {
        ScandalCounter x = Due.county(Due.LADY);
        int[] bits = {8, 16, 32};
        int[][] told = {{127, 127}, {127, 127 + 256}, {128, 128}, {255, 255}, {9999, 9999}, {9999, 9999 + 65536}};
        int[][] fits = {{21, 21, 21}, {21, 0, 0}, {0, 21, 21}, {21, 21, 21}, {0, 21, 21}, {0, 21, 0}};
        for (int i = 0; i < told.length; i++) {
            x.change(0, 3, told[i][0]);
            x.change(0, 1, told[i][0]);
            for (int b = 0; b < bits.length; b++) {
                x.sheet(0, bits[b], 1);
                x.write(0, 0, told[i][1]);
                String name = told[i][1] + " of " + bits[b] + " bits for " + told[i][0];
                three(x, name, 0, fits[i][b], fits[i][b] == 0 ? Due.NONE : 0, fits[i][b] == 0 ? 0 : 127);
            }
        }
    }

    /** -1 is any; no other number below 0 is ever so. */
    private static void noNumberTells() {
        ScandalCounter x = Due.county(Due.LADY);
        for (int bits : new int[] {8, 16, 32}) {
            x.sheet(0, bits, 1);
            for (int v : new int[] {-2, -100, Integer.MIN_VALUE + 128, Integer.MIN_VALUE + 32768}) {
                x.write(0, 0, v);
                int so = bits == 8 && v == Integer.MIN_VALUE + 32768 ? 1 : 0;
                three(x, v + " of " + bits + " bits", 0, 21 * so, so == 1 ? 0 : Due.NONE, 127 * so);
            }
            x.write(0, 0, -1);
            three(x, "-1 of " + bits + " bits", 0, 21, 0, 127);
        }
    }

    private static void sheetFindingsInOrder() {
        ScandalCounter x = Due.eight(Due.PERSON, 20);
        int[] people = {-1, 0, 7, 8};
        for (int person : people) {
            for (int s : Due.outside(0, 3)) {
                Due.due("22: sheet " + s, x.fits(s, person), Due.BEYOND);
                Due.due("23: sheet " + s, x.weighed(s, person), Due.BEYOND);
                Due.due("24: sheet " + s, x.kinds(s, person), Due.BEYOND);
            }
            for (int s = 0; s < 4; s++) {
                Due.due("22: MISSING ahead of person " + person, x.fits(s, person), Due.MISSING);
                Due.due("23: MISSING ahead of person " + person, x.weighed(s, person), Due.MISSING);
                Due.due("24: MISSING ahead of person " + person, x.kinds(s, person), Due.MISSING);
            }
        }
        x.sheet(0, 8, 1);
        for (int person : Due.outside(0, 7)) {
            three(x, "person " + person, person, Due.BEYOND, Due.BEYOND, Due.BEYOND);
        }
        three(x, "the 8th", 7, 21, 0, 127);
    }
}
