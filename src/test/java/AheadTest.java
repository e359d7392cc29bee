/** Promises 11 to 15: what will be. */
public final class AheadTest {
    public static void main(String[] args) {
        asTheDaysWillBe();
        nothingChanges();
        wrongInputs();
        even();
        when();
        clean();
        Due.end();
    }

    /** The days that DaysTest reckons. */
    private static ScandalCounter personAndLady() {
        ScandalCounter x = Due.county(Due.PERSON, Due.LADY);
        x.say(0, 0, 6);
        return x;
    }

    private static void asTheDaysWillBe() {
        ScandalCounter x = personAndLady();
        int[] owed = {0, 2, 1, 0};
        int[] borne = {0, 10, 12, 12};
        int[] told = {0, 1, 2, 3};
        int[] borneByLady = {0, 6, 8, 9};
        for (int n = 0; n < 4; n++) {
            Due.due("11: OWED behind " + n, x.ahead(0, 1, n), owed[n]);
            Due.due("11: BORNE behind " + n, x.ahead(0, 3, n), borne[n]);
            Due.due("11: TOLD behind " + n, x.ahead(0, 4, n), told[n]);
            Due.due("11: BORNE of the LADY behind " + n, x.ahead(1, 3, n), borneByLady[n]);
        }
        x = Due.county(Due.LADY);
        x.change(0, 1, 150);
        Due.text(x, "hints 7");
        Due.due("12: behind none", x.hints(0), 7);
        Due.due("12: behind 1", x.hints(1), 8);
        Due.due("12: behind 100", x.hints(100), 107);
        Due.due("11: behind 100", x.ahead(0, 1, 100), 50);
    }

    private static void nothingChanges() {
        ScandalCounter x = personAndLady();
        x.ahead(0, 1, 100);
        x.hints(100);
        x.even();
        x.when(0, 9999);
        x.clean(1);
        Due.due("11 to 15: DAY", x.now(0), 0);
        Due.due("11 to 15: BORNE", x.now(2), 0);
        Due.due("11 to 15: the days that come", x.go(1), 3);
        Due.due("11: seen from a later day", x.ahead(0, 3, 1), 12);
    }

    private static void wrongInputs() {
        ScandalCounter x = personAndLady();
        for (int v : new int[] {-1, 101, Integer.MIN_VALUE, Integer.MAX_VALUE}) {
            Due.due("11: n " + v, x.ahead(0, 1, v), Due.BEYOND);
            Due.due("12: n " + v, x.hints(v), Due.BEYOND);
        }
        for (int v : new int[] {-1, 2, Integer.MIN_VALUE, Integer.MAX_VALUE}) {
            Due.due("11: person " + v, x.ahead(v, 1, 1), Due.BEYOND);
            Due.due("14: person " + v, x.when(v, 1), Due.BEYOND);
            Due.due("15: person " + v, x.clean(v), Due.BEYOND);
        }
        for (int v : new int[] {-1, 0, 2, 5, 6, 7, 8, Integer.MIN_VALUE, Integer.MAX_VALUE}) {
            Due.due("11: what " + v, x.ahead(0, v, 1), Due.BEYOND);
        }
        for (int v : new int[] {-1, 10000, Integer.MIN_VALUE, Integer.MAX_VALUE}) {
            Due.due("14: v " + v, x.when(0, v), Due.BEYOND);
        }
    }

    private static void even() {
        ScandalCounter x = personAndLady();
        Due.due("13: now", x.even(), 0);
        x.go(1);
        Due.due("13: behind 2", x.even(), 2);
        x = Due.county(Due.PERSON);
        x.change(0, 1, 200);
        Due.due("13: behind 200", x.even(), 200);
        x.change(0, 1, 201);
        Due.due("13: behind 201", x.even(), Due.NONE);
        Due.due("13: nobody at all", new ScandalCounter().even(), 0);
    }

    private static void when() {
        ScandalCounter x = personAndLady();
        Due.due("14: 0 is so now", x.when(0, 0), 0);
        Due.due("14: 10", x.when(0, 10), 1);
        Due.due("14: 11", x.when(0, 11), 2);
        Due.due("14: of the LADY", x.when(1, 9), 3);
        x = Due.county(Due.LADY);
        for (int i = 0; i < 6; i++) {
            x.say(i, 0, 20);
        }
        Due.due("14: behind 200", x.when(0, 4000), 200);
        Due.due("14: behind 201", x.when(0, 4001), Due.NONE);
        x.change(0, 3, 9999);
        Due.due("14: most", x.when(0, 9999), 0);
    }

    private static void clean() {
        ScandalCounter x = Due.county(Due.PERSON, Due.LADY, Due.BISHOP);
        Due.due("15: now", x.clean(0), 0);
        x.change(0, 3, 200);
        x.change(1, 3, 1);
        x.change(2, 3, 13);
        Due.due("15: behind 200", x.clean(0), 200);
        Due.due("15: a LADY never FORGETS", x.clean(1), Due.NONE);
        Due.due("15: a BISHOP by 6", x.clean(2), 3);
        x.change(0, 3, 201);
        Due.due("15: behind 201", x.clean(0), Due.NONE);
    }
}
