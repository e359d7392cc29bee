/** Promises 25 to 27: gossip. */
public final class GossipTest {
    public static void main(String[] args) {
        gossip();
        asSaid();
        odds();
        seed();
        Due.end();
    }

    private static void gossip() {
        ScandalCounter x = new ScandalCounter();
        for (int v : new int[] {0, -1, 21, Integer.MIN_VALUE, Integer.MAX_VALUE}) {
            Due.due("25: n " + v, x.gossip(v), Due.BEYOND);
        }
        Due.due("25: a finding draws nothing", x.count(6), 1);
        Due.due("25: of nobody", x.gossip(1), 0);
        Due.due("25: 4310654 leaves 6 by 8, 9862832 leaves 14 by 21", x.said(0), 614);
        Due.due("25: two draws", x.count(6), (int) 2524885223L);
        Due.due("25: a DAY", x.now(0), 1);
        x.gossip(20);
        Due.due("25: 20 DAYS", x.now(0), 21);
    }

    /** What gossip does is what draws, say() and go() do one by one. */
    private static void asSaid() {
        ScandalCounter x = Due.county(0, 1, 2, 3, 4, 5, 6, 0);
        ScandalCounter y = Due.county(0, 1, 2, 3, 4, 5, 6, 0);
        x.seed(-77);
        int z = -77;
        for (int i = 0; i < 20; i++) {
            z = z * 1103515245 + 12345;
            int whom = (z >>> 8) % 8;
            z = z * 1103515245 + 12345;
            y.say(i % 6, whom, (z >>> 8) % 21);
            y.go(1);
        }
        Due.due("25: OWED", x.gossip(20), y.now(1));
        Due.due("25: z", x.count(6), z);
        for (int i = 0; i < 8; i++) {
            Due.due("25: OWED of " + i, x.of(i, 1), y.of(i, 1));
            Due.due("25: BORNE of " + i, x.of(i, 3), y.of(i, 3));
        }
        for (int i = 0; i < 6; i++) {
            Due.due("25: THE LIST, " + i, x.said(i), y.said(i));
        }
    }

    private static void odds() {
        ScandalCounter x = new ScandalCounter();
        fraction(x, 0, 1, 1);
        fraction(x, 1, 0, 1);
        fraction(x, 20, 0, 1);
        x.person(Due.PERSON, 1);
        fraction(x, 0, 1, 1);
        fraction(x, 1, 1, 8);
        fraction(x, 20, 1, 1152921504606846976L);
        x.person(Due.LADY, 1);
        fraction(x, 1, 1, 8);
        x.change(1, 2, 2);
        fraction(x, 1, 1, 4);
        x.person(Due.YOUNG, 0);
        fraction(x, 2, 9, 64);
        x.person(Due.COWMAN, 0);
        fraction(x, 3, 1, 8);
        x.person(Due.CLERGY, 1);
        x.change(4, 3, 9999);
        x.person(Due.DUKE, 99);
        fraction(x, 20, 3486784401L, 1099511627776L);
        x.person(Due.BISHOP, 1);
        fraction(x, 20, 79792266297612001L, 1152921504606846976L);
        x.person(Due.BISHOP, 1);
        fraction(x, 20, 1, 1);
        for (int v : new int[] {-1, 21, Integer.MIN_VALUE, Integer.MAX_VALUE}) {
            Due.due("26: n " + v, x.odds(v, 0), Due.BEYOND);
        }
        for (int v : new int[] {-1, 2, Integer.MIN_VALUE, Integer.MAX_VALUE}) {
            Due.due("26: what " + v, x.odds(1, v), Due.BEYOND);
        }
        Due.due("26: nothing is drawn", x.count(6), 1);
    }

    private static void fraction(ScandalCounter x, int n, long above, long below) {
        Due.due("26: above, n " + n, x.odds(n, 0), above);
        Due.due("26: below, n " + n, x.odds(n, 1), below);
    }

    private static void seed() {
        ScandalCounter x = new ScandalCounter();
        Due.due("27: at first", x.seed(Integer.MIN_VALUE), 1);
        Due.due("27: least", x.seed(Due.BEYOND), Integer.MIN_VALUE);
        Due.due("27: no finding", x.seed(0), Due.BEYOND);
        x.seed(Due.FULL);
        Due.due("27: no finding in count()", x.count(6), Due.FULL);
        Due.due("27: none is counted", x.status(-1), 0);
    }
}
