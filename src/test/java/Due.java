/** What the tests share: it counts and prints every answer that is not the one that is due. */
final class Due {
    static final int BEYOND = -1000001;
    static final int FULL = -1000002;
    static final int KIND = -1000003;
    static final int NONE = -1000004;
    static final int STATE = -1000005;
    static final int MISSING = -1000006;
    static final int SIZE = -1000007;

    static final int PERSON = 0;
    static final int LADY = 1;
    static final int DUKE = 2;
    static final int CLERGY = 3;
    static final int BISHOP = 4;
    static final int COWMAN = 5;
    static final int YOUNG = 6;

    private static int asked = 0;
    private static int wrong = 0;

    private Due() {
    }

    static void due(String call, long got, long want) {
        asked++;
        if (got != want) {
            wrong++;
            System.out.println(call + " answered " + got + ", due is " + want);
        }
    }

    /** Exits with 1 if an answer was wrong. */
    static void end() {
        System.out.println(wrong + " of " + asked + " answers are not as due");
        if (wrong != 0 || asked == 0) {
            System.exit(1);
        }
    }

    /** What an argument from least to most is just not, and the ends of an int. */
    static int[] outside(int least, int most) {
        return new int[] {least - 1, most + 1, Integer.MIN_VALUE, Integer.MAX_VALUE};
    }

    /** The most PEOPLE, of one kind and BUILD. */
    static ScandalCounter eight(int kind, int build) {
        ScandalCounter x = new ScandalCounter();
        for (int i = 0; i < 8; i++) {
            x.person(kind, build);
        }
        return x;
    }

    static ScandalCounter county(int... kinds) {
        ScandalCounter x = new ScandalCounter();
        for (int kind : kinds) {
            x.person(kind, 20);
        }
        return x;
    }

    static void feed(ScandalCounter x, String text) {
        for (int i = 0; i < text.length(); i++) {
            x.feed(text.charAt(i), 1);
        }
    }

    static int text(ScandalCounter x, String text) {
        feed(x, text);
        return x.text();
    }

    /** Lays a sheet of 16 bits with these numbers. */
    static void lay(ScandalCounter x, int s, int... numbers) {
        x.sheet(s, 16, numbers.length);
        for (int i = 0; i < numbers.length; i++) {
            x.write(s, i, numbers[i]);
        }
    }
}
