/** Promises 22 to 24: what was borne, as a sheet tells it. */
public final class BorneTest {
    public static void main(String[] args) {
        weights();
        placesAgain();
        kinds();
        findings();
        Due.end();
    }

    private static void weights() {
        ScandalCounter x = Due.county(Due.PERSON, Due.DUKE);
        x.say(0, 1, 3);
        x.change(0, 2, 0);
        Due.lay(x, 0);
        Due.due("22: an empty sheet", x.fits(0, 1), 21);
        Due.due("23: an empty sheet", x.weighed(0, 1), 0);
        Due.lay(x, 0, 0);
        Due.due("22: now", x.fits(0, 1), 21);
        Due.lay(x, 0, 1);
        Due.due("22: not so now", x.fits(0, 1), 0);
        Due.due("23: not so now", x.weighed(0, 1), Due.NONE);
        Due.lay(x, 0, -1, 0);
        Due.due("22: up to 3 is forgotten at once", x.fits(0, 1), 4);
        Due.due("23: up to 3 is forgotten at once", x.weighed(0, 1), 0);
        Due.lay(x, 0, 0, 9);
        Due.due("22: 12", x.fits(0, 1), 1);
        Due.due("23: 12", x.weighed(0, 1), 12);
        Due.lay(x, 0, 0, 9, 6, -1, 0);
        Due.due("23: day by day", x.weighed(0, 1), 12);
        Due.lay(x, 0, 0, 9, 6, -1, 1);
        Due.due("23: not so behind 4", x.weighed(0, 1), Due.NONE);
        Due.lay(x, 0, 0, -1, -1, -1, 1);
        Due.due("23: 13", x.weighed(0, 1), 13);
        Due.due("22: of another one", x.fits(0, 0), 0);
        Due.due("22: THE LIST stays", x.said(0), 103);
        x.sheet(1, 8, 2);
        x.write(1, 0, 255);
        x.write(1, 1, 17);
        Due.due("23: 255 of 8 bits is any", x.weighed(1, 1), 20);
        x.go(1);
        x.sheet(1, 8, 1);
        x.write(1, 0, 0);
        Due.due("22: nothing was left of 3", x.fits(1, 1), 21);
    }

    /** THE LIST tells a place again behind 6 days. */
    private static void placesAgain() {
        ScandalCounter x = Due.county(Due.PERSON);
        Due.lay(x, 2, -1, -1, -1, -1, -1, -1, 14, 33);
        Due.due("22: again", x.fits(2, 0), 1);
        Due.due("23: again", x.weighed(2, 0), 20);
    }

    private static void kinds() {
        ScandalCounter x = Due.county(Due.LADY);
        x.say(0, 0, 9);
        Due.lay(x, 3);
        Due.due("24: an empty sheet", x.kinds(3, 0), 127);
        Due.lay(x, 3, 0);
        Due.due("24: now", x.kinds(3, 0), 127);
        Due.lay(x, 3, 2);
        Due.due("24: not so now", x.kinds(3, 0), 0);
        Due.lay(x, 3, 0, 8);
        Due.due("24: PERSON or COWMAN", x.kinds(3, 0), 1 + 32);
        Due.lay(x, 3, 0, 5);
        Due.due("24: CLERGY or BISHOP", x.kinds(3, 0), 8 + 16);
        Due.lay(x, 3, 0, -1, 16);
        Due.due("24: LADY", x.kinds(3, 0), 2);
        Due.lay(x, 3, 0, 14);
        Due.due("24: YOUNG", x.kinds(3, 0), 64);
        Due.lay(x, 3, 0, 3, 2, 1, 0);
        Due.due("24: DUKE", x.kinds(3, 0), 4);
        Due.due("24: KIND stays", x.of(0, 0), Due.LADY);
    }

    private static void findings() {
        ScandalCounter x = Due.county(Due.PERSON);
        for (int s : new int[] {-1, 4, Integer.MIN_VALUE, Integer.MAX_VALUE}) {
            three(x, s, 0, Due.BEYOND);
        }
        three(x, 0, 0, Due.MISSING);
        three(x, 0, 5, Due.MISSING);
        x.sheet(0, 32, 1);
        for (int person : new int[] {-1, 1, Integer.MIN_VALUE, Integer.MAX_VALUE}) {
            three(x, 0, person, Due.BEYOND);
        }
    }

    private static void three(ScandalCounter x, int s, int person, int finding) {
        Due.due("22: sheet " + s + ", person " + person, x.fits(s, person), finding);
        Due.due("23: sheet " + s + ", person " + person, x.weighed(s, person), finding);
        Due.due("24: sheet " + s + ", person " + person, x.kinds(s, person), finding);
    }
}
