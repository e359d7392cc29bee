/** Promises 16 to 21: whom, how. */
public final class HowTest {
    private static final int[] OUTSIDE = {-1, 41, Integer.MIN_VALUE, Integer.MAX_VALUE};

    public static void main(String[] args) {
        whom();
        weightFor();
        buildFor();
        kindFor();
        refuse();
        refuseFewest();
        swapFor();
        nothingChanges();
        Due.end();
    }

    private static void whom() {
        ScandalCounter x = new ScandalCounter();
        Due.due("16: nobody", x.whom(0), Due.NONE);
        for (int v : OUTSIDE) {
            Due.due("16: n " + v + ", asked ahead of NONE", x.whom(v), Due.BEYOND);
        }
        x.person(Due.PERSON, 0);
        x.person(Due.DUKE, 0);
        x.person(Due.DUKE, 0);
        Due.due("16: of nothing", x.whom(40), 0);
        x.say(0, 0, 10);
        Due.due("16: behind none", x.whom(0), 0);
        Due.due("16: a DUKE FEELS less", x.whom(1), 1);
        x.say(0, 7, 10);
        Due.due("16: of whom it was does not matter", x.whom(1), 1);
        x.go(1);
        x.say(0, 0, 0);
        Due.due("16: the next DAY's, not the first place", x.whom(1), 0);
        x.say(1, 0, 10);
        Due.due("16: the next DAY's", x.whom(1), 1);
    }

    private static void weightFor() {
        ScandalCounter x = Due.county(Due.PERSON, Due.COWMAN);
        for (int v : OUTSIDE) {
            Due.due("17: n " + v, x.weightFor(v), Due.BEYOND);
        }
        Due.due("17: n 0", x.weightFor(0), Due.BEYOND);
        x.say(0, 1, 20);
        Due.due("17: a COWMAN FEELS nothing below 5", x.weightFor(1), 4);
        x.say(0, 2, 3);
        Due.due("17: of nobody", x.weightFor(1), 20);
        ScandalCounter y = Due.county(Due.CLERGY);
        y.change(0, 1, 1);
        Due.due("17: CLERGY who is OWED stays so", y.weightFor(40), Due.NONE);
        y.change(0, 1, 0);
        Due.due("17: EVEN now does not count, but with 0 it stays so", y.weightFor(40), 0);
        ScandalCounter z = Due.county(Due.PERSON);
        Due.due("17: 3 by hints in 3 days", z.weightFor(3), 3);
        Due.due("17: 6 in 6 days", z.weightFor(6), 6);
        Due.due("17: no more, as THE LIST tells it again behind 6 days", z.weightFor(40), 6);
    }

    private static void buildFor() {
        ScandalCounter x = Due.county(Due.PERSON, Due.PERSON);
        x.change(0, 1, 7);
        Due.text(x, "hints 5");
        Due.due("18: behind none", x.buildFor(1, 0), 0);
        Due.due("18: behind 40", x.buildFor(1, 40), 7);
        Due.due("18: 7 must be borne", x.buildFor(1, 1), 7);
        Due.due("18: and 1 of it again", x.buildFor(1, 2), 7);
        x.change(1, 3, 92);
        Due.due("18: most", x.buildFor(1, 1), 99);
        x.change(1, 3, 93);
        Due.due("18: none is enough", x.buildFor(1, 1), Due.NONE);
        for (int v : OUTSIDE) {
            Due.due("18: n " + v, x.buildFor(0, v), Due.BEYOND);
            Due.due("19: n " + v, x.kindFor(0, v), Due.BEYOND);
        }
        for (int v : new int[] {-1, 2, Integer.MIN_VALUE, Integer.MAX_VALUE}) {
            Due.due("18: person " + v, x.buildFor(v, 1), Due.BEYOND);
            Due.due("19: person " + v, x.kindFor(v, 1), Due.BEYOND);
        }
    }

    private static void kindFor() {
        ScandalCounter x = Due.county(Due.LADY);
        x.say(0, 0, 10);
        Due.due("19: behind none", x.kindFor(0, 0), 0);
        Due.due("19: a BISHOP FORGETS most", x.kindFor(0, 1), Due.BISHOP);
        Due.due("19: a DUKE is the least of those who come to 0", x.kindFor(0, 4), Due.DUKE);
        x.say(0, 1, 10);
        Due.due("19: nothing to bear", x.kindFor(0, 40), 0);
    }

    private static void refuse() {
        ScandalCounter x = new ScandalCounter();
        x.person(Due.PERSON, 30);
        x.person(Due.PERSON, 20);
        x.person(Due.PERSON, 20);
        x.change(1, 1, 5);
        x.change(2, 1, 5);
        Due.due("20: nobody has to", x.refuse(0, 9, 1), 0);
        Due.due("20: one, the least", x.refuse(0, 8, 1), 2);
        Due.due("20: one, at the edge", x.refuse(0, 4, 1), 2);
        Due.due("20: two", x.refuse(0, 3, 1), 6);
        Due.due("20: two, at the edge", x.refuse(0, 0, 1), 6);
        Due.due("20: behind none", x.refuse(0, 0, 0), 0);
        Due.due("20: behind 20", x.refuse(0, 9999, 20), 0);
        x.change(0, 3, 5);
        Due.due("20: what is borne already", x.refuse(0, 4, 0), Due.NONE);
        Due.due("20: but for what is forgotten", x.refuse(0, 4, 1), 6);
        for (int v : new int[] {-1, 3, Integer.MIN_VALUE, Integer.MAX_VALUE}) {
            Due.due("20: person " + v, x.refuse(v, 1, 1), Due.BEYOND);
        }
        for (int v : new int[] {-1, 10000, Integer.MIN_VALUE, Integer.MAX_VALUE}) {
            Due.due("20: v " + v, x.refuse(0, v, 1), Due.BEYOND);
        }
        for (int v : new int[] {-1, 21, Integer.MIN_VALUE, Integer.MAX_VALUE}) {
            Due.due("20: n " + v, x.refuse(0, 1, v), Due.BEYOND);
        }
    }

    /** One great number goes ahead of two small ones. */
    private static void refuseFewest() {
        ScandalCounter x = Due.county(Due.CLERGY, Due.PERSON, Due.PERSON, Due.DUKE);
        x.change(1, 1, 1);
        x.change(2, 1, 1);
        x.change(3, 1, 10);
        Due.due("20: 12 less 3", x.ahead(0, 3, 1), 9);
        Due.due("20: the fewest", x.refuse(0, 4, 1), 8);
        Due.due("20: one of a great number ahead of two of small ones", x.refuse(0, 7, 1), 8);
        x.change(3, 1, 0);
        x.change(0, 3, 9);
        x.change(0, 1, 10);
        x.change(0, 0, Due.PERSON);
        x.change(0, 2, 99);
        Due.due("20: itself is none of the others", x.refuse(0, 10, 1), 2);
        Due.due("20: two, the least", x.refuse(0, 8, 1), 6);
    }

    private static void swapFor() {
        ScandalCounter x = new ScandalCounter();
        Due.due("21: nobody", x.swapFor(1), Due.NONE);
        for (int v : OUTSIDE) {
            Due.due("21: n " + v + ", asked ahead of NONE", x.swapFor(v), Due.BEYOND);
        }
        x.person(Due.PERSON, 0);
        Due.due("21: one", x.swapFor(0), Due.NONE);
        x.person(Due.PERSON, 0);
        Due.due("21: two", x.swapFor(40), 1);
        x.person(Due.PERSON, 50);
        x.change(2, 1, 10);
        Due.due("21: behind none", x.swapFor(0), 1);
        Due.due("21: the asker's BUILD to another one", x.swapFor(1), 2);
        x.change(0, 3, 45);
        Due.due("21: to one with ROOM", x.swapFor(1), 8 + 2);
    }

    private static void nothingChanges() {
        ScandalCounter x = Due.county(Due.PERSON, Due.LADY);
        x.say(0, 0, 6);
        x.whom(40);
        x.weightFor(40);
        x.buildFor(1, 40);
        x.kindFor(0, 40);
        x.refuse(0, 0, 20);
        x.swapFor(40);
        Due.due("16 to 21: THE LIST", x.said(0), 6);
        Due.due("16 to 21: KIND", x.of(0, 0), Due.PERSON);
        Due.due("16 to 21: BUILD", x.of(1, 2), 20);
        Due.due("16 to 21: DAY", x.now(0), 0);
        Due.due("16 to 21: all ASK as ever", x.go(1), 3);
    }
}
