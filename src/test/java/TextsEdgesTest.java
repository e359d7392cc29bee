/** The boundary cases of promises 25 to 30: gossip, THE TAPE, and each TOKEN of a TEXT. */
public final class TextsEdgesTest {
    private static final String[] TOKENS = {
        "person", "lady", "duke", "clergy", "bishop", "cowman", "young", "build", "owed", "bore", "said", "hints",
        "told", "z", "0", "5", "6", "7", "8", "20", "21", "99", "100", "9999", "10000", ";", "#", "",
    };
    private static final String KINDS = "person lady duke clergy bishop cowman young";

    public static void main(String[] args) {
        gossipOutside();
        gossipPassesTheEndsOfAnInt();
        gossipOfNobody();
        oddsOutside();
        oddsAtTheirEnds();
        oddsOfRoomAboveZero();
        seedAtTheEndsOfAnInt();
        feedOutside();
        feedFillsTheTape();
        feedTooMuch();
        feedNegative();
        wipeEmptyAndFull();
        textOfNothing();
        textOfAFullTape();
        textEndsTooEarly();
        tokenThatCantStand();
        numbersAtTheirEnds();
        ninthOne();
        faultChangesNothing();
        tokensAsLongAsCanBe();
        Due.end();
    }

    private static void gossipOutside() {
        ScandalCounter x = Due.county(Due.PERSON);
        for (int n : Due.outside(1, 20)) {
            Due.due("25: n " + n, x.gossip(n), Due.BEYOND);
        }
        Due.due("25: BEYOND draws nothing", x.count(6), 1);
        Due.due("25: BEYOND lets no DAY go by", x.now(0), 0);
        x.gossip(1);
        Due.due("25: fewest", x.now(0), 1);
        x.gossip(20);
        Due.due("25: most", x.now(0), 21);
    }

    /** z * 1103515245 + 12345 as it is in 64 bits, of which an int keeps the lowest. */
    private static int next(int z) {
        return (int) (z * 1103515245L + 12345L);
    }

    private static int drawn(int z) {
        return (int) ((z & 0xFFFFFFFFL) / 256);
    }

    private static void gossipPassesTheEndsOfAnInt() {
        int[] seeds = {Integer.MAX_VALUE, Integer.MIN_VALUE, -1, 0, 1, 2, Integer.MAX_VALUE - 1, 1 << 30, -12345};
        for (int seed : seeds) {
            ScandalCounter x = new ScandalCounter();
            x.seed(seed);
            int first = next(seed);
            int second = next(first);
            x.gossip(1);
            Due.due("25: whom and WEIGHT from " + seed, x.said(0), 100 * (drawn(first) % 8) + drawn(second) % 21);
            Due.due("25: z from " + seed, x.count(6), second);
            Due.due("27: z from " + seed, x.seed(seed), second);
        }
        ScandalCounter x = new ScandalCounter();
        x.seed(0);
        x.gossip(1);
        Due.due("25: 12345 gives 48, of 0; 3554416254 gives 13884438, a WEIGHT of 15", x.said(0), 15);
    }

    private static void gossipOfNobody() {
        ScandalCounter x = new ScandalCounter();
        Due.due("25: nobody is OWED anything", x.gossip(20), 0);
        for (int i = 0; i < 6; i++) {
            Due.due("25: a SAYING in place " + i, x.said(i) / 100 < 8 && x.said(i) % 100 < 21 ? 1 : 0, 1);
        }
        Due.due("25: DAYS", x.now(0), 20);
    }

    private static void oddsOutside() {
        ScandalCounter x = Due.eight(Due.PERSON, 20);
        for (int n : Due.outside(0, 20)) {
            Due.due("26: n " + n, x.odds(n, 0), Due.BEYOND);
            Due.due("26: n " + n + ", below", x.odds(n, 1), Due.BEYOND);
        }
        for (int what : Due.outside(0, 1)) {
            Due.due("26: what " + what, x.odds(0, what), Due.BEYOND);
        }
        Due.due("26: each was counted", x.status(0), 12);
    }

    private static void fraction(String name, ScandalCounter x, int n, long above, long below) {
        Due.due("26: above, " + name, x.odds(n, 0), above);
        Due.due("26: below, " + name, x.odds(n, 1), below);
    }

    private static void oddsAtTheirEnds() {
        ScandalCounter x = new ScandalCounter();
        fraction("no draws, nobody", x, 0, 1, 1);
        fraction("one draw, nobody", x, 1, 0, 1);
        fraction("20 draws, nobody", x, 20, 0, 1);
        long[] above = {1, 1, 3, 1, 5, 3, 7, 1};
        long[] below = {8, 4, 8, 2, 8, 4, 8, 1};
        for (int i = 0; i < 8; i++) {
            x.person(Due.PERSON, 1);
            long aboveAll = 1;
            long belowAll = 1;
            for (int n = 0; n <= 20; n++) {
                fraction(n + " draws, " + (i + 1) + " with ROOM", x, n, aboveAll, belowAll);
                aboveAll *= above[i];
                belowAll *= below[i];
            }
        }
    }

    private static void oddsOfRoomAboveZero() {
        ScandalCounter x = Due.eight(Due.PERSON, 1);
        fraction("ROOM 1 each", x, 20, 1, 1);
        x.change(7, 3, 1);
        fraction("ROOM 0 of the 8th", x, 1, 7, 8);
        x.change(7, 3, 0);
        x.change(0, 0, Due.LADY);
        fraction("half of 1 is 0", x, 1, 7, 8);
        x.change(0, 0, Due.YOUNG);
        fraction("and 5", x, 1, 1, 1);
        for (int i = 0; i < 8; i++) {
            x.change(i, 0, Due.PERSON);
            x.change(i, 2, 0);
        }
        fraction("none with ROOM, no draws", x, 0, 1, 1);
        fraction("none with ROOM, one draw", x, 1, 0, 1);
    }

    private static void seedAtTheEndsOfAnInt() {
        ScandalCounter x = new ScandalCounter();
        int was = 1;
        for (int v : new int[] {Integer.MAX_VALUE, Integer.MIN_VALUE, 0, -1, Due.BEYOND, Due.SIZE, 1}) {
            Due.due("27: becomes " + v, x.seed(v), was);
            Due.due("41: is " + v, x.count(6), v);
            was = v;
        }
        Due.due("27: none is a finding", x.status(-1), 0);
    }

    private static void feedOutside() {
        ScandalCounter x = new ScandalCounter();
        for (int n : Due.outside(1, 4)) {
            Due.due("28: n " + n, x.feed('l', n), Due.BEYOND);
        }
        Due.due("28: BEYOND changes nothing", x.count(5), 0);
        Due.due("28: fewest", x.feed('l', 1), 1);
        Due.due("28: most", x.feed('a' << 24 | 'd' << 16 | 'y' << 8 | ' ', 4), 5);
        Due.due("30: lady", x.text(), 1);
    }

    private static ScandalCounter taped(int bytes) {
        ScandalCounter x = new ScandalCounter();
        for (int i = 0; i < bytes; i++) {
            x.feed(' ', 1);
        }
        return x;
    }

    private static void feedFillsTheTape() {
        for (int n = 1; n <= 4; n++) {
            ScandalCounter x = taped(120 - n);
            Due.due("28: the last " + n, x.feed(0, n), 120);
            for (int more = 1; more <= 4; more++) {
                Due.due("28: " + more + " behind a full one", x.feed(0, more), Due.FULL);
            }
            Due.due("28: FULL is counted", x.status(1), 4);
            for (int wrong : Due.outside(1, 4)) {
                Due.due("28: BEYOND ahead of FULL", x.feed(0, wrong), Due.BEYOND);
            }
            Due.due("41: 120 bytes", x.count(5), 120);
        }
    }

    private static void feedTooMuch() {
        for (int n = 2; n <= 4; n++) {
            ScandalCounter x = taped(121 - n);
            Due.due("28: 1 too many of " + n, x.feed(0x61616161, n), Due.FULL);
            Due.due("28: FULL changes nothing", x.count(5), 121 - n);
            Due.due("30: none of them came", x.text(), -1 - (121 - n));
        }
    }

    private static void feedNegative() {
        ScandalCounter x = new ScandalCounter();
        Due.due("28: a number below 0", x.feed(-1, 4), 4);
        Due.due("30: 255 begins no TOKEN", x.text(), -1);
        Due.due("28: the higher bytes are left out", x.feed(0xFF000000 | 'l' << 16 | 'a' << 8 | 'd', 3), 3);
        x.feed(0xFFFFFF00 | 'y', 1);
        Due.due("30: lady", x.text(), 1);
        x.feed('d' << 24 | 'u' << 16 | 'k' << 8 | 'e', 4);
        x.feed(Integer.MIN_VALUE | ' ' << 16 | ' ' << 8 | ' ', 4);
        Due.due("30: 128 begins no TOKEN", x.text(), -1 - 4);
    }

    private static void wipeEmptyAndFull() {
        Due.due("29: an empty one", taped(0).wipe(), 0);
        ScandalCounter x = taped(120);
        Due.due("29: a full one", x.wipe(), 120);
        Due.due("29: empty then", x.wipe(), 0);
        Due.due("28: there is place again", x.feed(0, 4), 4);
    }

    private static void textOfNothing() {
        ScandalCounter x = new ScandalCounter();
        Due.due("30: an empty TAPE ends too early", x.text(), -1);
        Due.due("30: and again", x.text(), -1);
        for (int blanks = 1; blanks <= 120; blanks++) {
            Due.due("30: " + blanks + " blanks end too early", taped(blanks).text(), -1 - blanks);
        }
        Due.due("30: no finding", x.status(-1), 0);
    }

    private static void full(String text, int due) {
        ScandalCounter x = new ScandalCounter();
        Due.feed(x, text);
        Due.due("28: it fills THE TAPE: " + text, x.count(5), 120);
        Due.due("30: " + text, x.text(), due);
        Due.due("30: empty then", x.count(5), 0);
    }

    private static void textOfAFullTape() {
        String blanks = " ".repeat(116);
        full("lady" + blanks, 1);
        full(blanks + "lady", 1);
        full(" ".repeat(115) + "lady;", -1 - 120);
        full("lady" + " ".repeat(115) + ";", -1 - 120);
        full("lady" + " ".repeat(115) + "#", -1 - 119);
        full("lady" + " ".repeat(115) + "5", -1 - 119);
        full("lady" + " ".repeat(115) + "x", -1 - 119);
        full(" ".repeat(114) + "hints5", 1);
        full("hints" + "0".repeat(111) + "9999", 1);
        full("hints" + "0".repeat(110) + "10000", -1 - 5);
        full("hints" + "9".repeat(115), -1 - 5);
        full("z".repeat(120), -1);
        full("hints 1;".repeat(15), -1 - 120);
        full("hints 1;".repeat(14) + "hints 12", 15);
        full("lady;duke;lady;duke;lady;duke;lady;duke;" + "hints1; ".repeat(9) + "hints  9", 18);
    }

    private static void fault(String text, int fault) {
        ScandalCounter x = new ScandalCounter();
        Due.due("30: \"" + text + "\"", Due.text(x, text), -1 - fault);
        Due.due("30: nobody came by \"" + text + "\"", x.count(1), 0);
        Due.due("30: no HINTS came by \"" + text + "\"", x.count(4), 0);
        Due.due("30: no SAYING came by \"" + text + "\"", x.said(0), 0);
        Due.due("30: THE TAPE is empty behind \"" + text + "\"", x.count(5), 0);
        Due.due("30: no finding by \"" + text + "\"", x.status(-1), 0);
    }

    private static void textEndsTooEarly() {
        String[] begun = {
            "lady;", "hints 5;", "said 0 0 5;", "lady build", "lady owed", "lady bore", "lady build 5 owed",
            "lady build 5 bore", "lady owed 5 bore", "lady build 5 owed 5 bore", "said", "said 0", "said 0 0", "hints",
            "lady;said", "lady;said 0 0", "lady;hints",
        };
        for (String text : begun) {
            fault(text, text.length());
            fault(text + "   ", text.length() + 3);
            fault("  " + text, text.length() + 2);
        }
    }

    /** Behind what has been read each TOKEN that isn't told among those that may stand is the FAULT. */
    private static void onlyThese(String read, String may) {
        for (String token : TOKENS) {
            boolean stands = (" " + may + " ").contains(" " + token + " ");
            String text = read + " " + token;
            if (token.isEmpty()) {
                continue;
            }
            if (!stands) {
                fault(text, read.length() + 1);
                fault(text + " ;lady", read.length() + 1);
                fault(text + " 5;#", read.length() + 1);
            } else {
                ScandalCounter x = new ScandalCounter();
                int answer = Due.text(x, text + " #");
                Due.due("30: it may stand: \"" + text + "\"", answer, -1 - text.length() - 1);
            }
        }
    }

    private static void tokenThatCantStand() {
        String item = KINDS + " said hints";
        String upTo99 = "0 5 6 7 8 20 21 99";
        String upTo9999 = upTo99 + " 100 9999";
        onlyThese("", item);
        onlyThese("lady;", item);
        onlyThese("hints 5;", item);
        onlyThese("said 0 0 5;", item);
        for (String kind : KINDS.split(" ")) {
            onlyThese(kind, "build owed bore ;");
        }
        onlyThese("lady build", upTo99);
        onlyThese("lady build 5", "owed bore ;");
        onlyThese("lady owed", upTo9999);
        onlyThese("lady owed 5", "bore ;");
        onlyThese("lady build 5 owed 5", "bore ;");
        onlyThese("lady bore", upTo9999);
        onlyThese("lady bore 5", ";");
        onlyThese("lady build 5 bore 5", ";");
        onlyThese("lady owed 5 bore 5", ";");
        onlyThese("lady build 5 owed 5 bore 5", ";");
        onlyThese("said", "0 5");
        onlyThese("said 0", "0 5 6 7");
        onlyThese("said 0 0", "0 5 6 7 8 20");
        onlyThese("said 0 0 5", ";");
        onlyThese("hints", upTo9999);
        onlyThese("hints 5", ";");
    }

    private static void numbersAtTheirEnds() {
        ScandalCounter x = new ScandalCounter();
        Due.due("30: least", Due.text(x, "lady build 0 owed 0 bore 0;said 0 0 0;hints 0"), 3);
        Due.due("30: BUILD least", x.of(0, 2), 0);
        Due.due("30: most", Due.text(x, "lady build 99 owed 9999 bore 9999;said 5 7 20;hints 9999"), 3);
        int[] due = {Due.LADY, 9999, 99, 9999, 0};
        for (int what = 0; what < 5; what++) {
            Due.due("30: most, what " + what, x.of(1, what), due[what]);
        }
        Due.due("30: SAYING most", x.said(5), 720);
        Due.due("30: HINTS most", x.count(4), 9999);
        for (String tooGreat : new String[] {"10000", "010000", "65536", "2147483648", "4294967296", "18446744073709551616"}) {
            fault("lady owed " + tooGreat, 10);
            fault("lady bore " + tooGreat, 10);
            fault("lady build " + tooGreat, 11);
            fault("hints " + tooGreat, 6);
            fault("said " + tooGreat + " 0 0", 5);
            fault("said 0 " + tooGreat + " 0", 7);
            fault("said 0 0 " + tooGreat, 9);
        }
        fault("hints -1", 6);
    }

    private static void ninthOne() {
        for (int there = 0; there <= 8; there++) {
            StringBuilder text = new StringBuilder("hints 3;");
            ScandalCounter x = new ScandalCounter();
            for (int i = 0; i < 8; i++) {
                if (i < there) {
                    x.person(Due.PERSON, 20);
                } else {
                    text.append("duke;");
                }
            }
            int place = text.length();
            Due.due("30: the 9th, " + there + " there", Due.text(x, text + "lady"), -1 - place);
            Due.due("30: the 9th, wherever it ends", Due.text(x, text + "lady build 500;#"), -1 - place);
            Due.due("30: the 9th, blanks ahead", Due.text(x, text + "  lady"), -1 - place - 2);
            Due.due("30: a FAULT ahead of it", Due.text(x, text + "#;lady"), -1 - place);
            Due.due("30: none came", x.count(1), there);
            Due.due("30: no HINTS came", x.count(4), 0);
            Due.due("30: no finding", x.status(-1), 0);
            Due.due("30: no 9th", Due.text(x, text + "said 0 7 5"), 2 + 8 - there);
            Due.due("30: eight", x.count(1), 8);
            Due.due("30: HINTS came", x.count(4), 3);
        }
        for (String kind : KINDS.split(" ")) {
            ScandalCounter x = Due.eight(Due.PERSON, 20);
            Due.due("30: a 9th " + kind, Due.text(x, kind), -1);
            Due.due("4: a 9th by person()", x.person(0, 20), Due.FULL);
        }
    }

    private static void faultChangesNothing() {
        ScandalCounter x = Due.county(Due.DUKE);
        x.say(0, 3, 4);
        x.hold(2, 0);
        x.seed(5);
        x.change(0, 1, 77);
        x.go(1);
        int[] before = new int[8];
        for (int what = 0; what < 8; what++) {
            before[what] = x.count(what);
        }
        Due.due("30: all but the last", Due.text(x, "young owed 5;hints 44;said 0 1 1;lady owed 6 bore"), -1 - 49);
        for (int what = 0; what < 8; what++) {
            Due.due("30: a FAULT changes no count " + what, x.count(what), before[what]);
        }
        Due.due("30: a FAULT changes no SAYING", x.said(0), 304);
        Due.due("30: a FAULT changes no KIND", x.of(0, 0), Due.DUKE);
        Due.due("30: a FAULT changes no SPOT", x.as(2, 0), 0);
        Due.due("30: nor who comes then", x.person(Due.PERSON, 20), 1);
        for (int what : new int[] {1, 3, 4}) {
            Due.due("30: all as at first, what " + what, x.of(1, what), 0);
        }
    }

    private static void tokensAsLongAsCanBe() {
        fault("ladylady", 0);
        fault("ladybuild 5", 0);
        fault("lady buildowed 5", 5);
        fault("lady build 55 5", 14);
        fault("said 000", 8);
        fault("hintsx 5", 0);
        fault("lady Build 5", 5);
        fault("Lady", 0);
        fault("l ady", 0);
        fault("lady build 9 9", 13);
        ScandalCounter x = new ScandalCounter();
        Due.due("30: no blanks are needed", Due.text(x, "lady build5owed6bore7;said0 1 2;hints3;duke"), 4);
        int[] due = {Due.LADY, 6, 5, 7, 0};
        for (int what = 0; what < 5; what++) {
            Due.due("30: no blanks, what " + what, x.of(0, what), due[what]);
        }
        Due.due("30: no blanks, SAYING", x.said(0), 102);
        Due.due("30: no blanks, HINTS", x.count(4), 3);
        Due.due("30: blanks wherever they may", Due.text(x, "   lady   build   5   ;   said   1   2   3   "), 2);
        Due.due("30: blanks, SAYING", x.said(1), 203);
    }
}
