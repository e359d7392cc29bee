/** The boundary cases of promises 1 to 8, and of KINDS in the terms. */
public final class PeopleEdgesTest {
    public static void main(String[] args) {
        newObjectHasNobody();
        everySaying();
        sayOutside();
        saidOutside();
        mostPeople();
        personOutside();
        ofOutside();
        ofTheLastOne();
        changeEnds();
        changeOutside();
        feelsOutside();
        feelsZeroAtLeast();
        feelsCut();
        feelsOfBorne();
        cowmanFeelsFromFive();
        asksNoMoreThanOwed();
        bishopAsksEverySeventhDay();
        roomZeroAtLeast();
        roomCut();
        cowmanWithNothingBorne();
        bearerOutside();
        bearerJustEnough();
        bearerOfSeveral();
        bearerAmongEight();
        Due.end();
    }

    private static void newObjectHasNobody() {
        ScandalCounter x = new ScandalCounter();
        for (int i = 0; i < 8; i++) {
            Due.due("1: nobody, of " + i, x.of(i, 0), Due.BEYOND);
            Due.due("1: nobody, change " + i, x.change(i, 0, 0), Due.BEYOND);
            Due.due("1: nobody, feels " + i, x.feels(i, 0), Due.BEYOND);
            Due.due("1: nobody, bearer " + i, x.bearer(i, 1), Due.BEYOND);
            Due.due("1: nobody, ahead " + i, x.ahead(i, 1, 0), Due.BEYOND);
            Due.due("1: nobody, when " + i, x.when(i, 0), Due.BEYOND);
            Due.due("1: nobody, clean " + i, x.clean(i), Due.BEYOND);
            Due.due("1: nobody, buildFor " + i, x.buildFor(i, 0), Due.BEYOND);
            Due.due("1: nobody, kindFor " + i, x.kindFor(i, 0), Due.BEYOND);
            Due.due("1: nobody, refuse " + i, x.refuse(i, 9999, 0), Due.BEYOND);
            Due.due("1: nobody, hold " + i, x.hold(0, i), Due.BEYOND);
        }
        Due.due("1: each was counted", x.status(0), 88);
        Due.due("1: THE TAPE is empty", x.wipe(), 0);
        Due.due("1: no image is kept", x.tear(), 0);
        Due.due("1: an empty county is EVEN", x.even(), 0);
        Due.due("1: days without anybody", x.go(60), 0);
    }

    private static void everySaying() {
        for (int i = 0; i < 6; i++) {
            ScandalCounter x = new ScandalCounter();
            int was = 0;
            for (int whom = 0; whom < 8; whom++) {
                for (int weight = 0; weight <= 20; weight++) {
                    Due.due("2: place " + i, x.say(i, whom, weight), was);
                    was = 100 * whom + weight;
                    Due.due("3: place " + i, x.said(i), was);
                }
            }
            for (int other = 0; other < 6; other++) {
                Due.due("2: only place " + i, x.said(other), other == i ? 720 : 0);
            }
        }
    }

    private static void sayOutside() {
        ScandalCounter x = new ScandalCounter();
        for (int i : Due.outside(0, 5)) {
            Due.due("2: i " + i, x.say(i, 7, 20), Due.BEYOND);
        }
        for (int whom : Due.outside(0, 7)) {
            Due.due("2: whom " + whom, x.say(5, whom, 20), Due.BEYOND);
        }
        for (int weight : Due.outside(0, 20)) {
            Due.due("2: weight " + weight, x.say(5, 7, weight), Due.BEYOND);
        }
        for (int i = 0; i < 6; i++) {
            Due.due("2: BEYOND changes nothing in place " + i, x.said(i), 0);
        }
    }

    private static void saidOutside() {
        ScandalCounter x = new ScandalCounter();
        for (int i : Due.outside(0, 5)) {
            Due.due("3: i " + i, x.said(i), Due.BEYOND);
        }
        Due.due("3: each was counted", x.status(0), 4);
    }

    private static void mostPeople() {
        ScandalCounter x = new ScandalCounter();
        for (int i = 0; i < 8; i++) {
            Due.due("4: number", x.person(i % 7, i % 2 == 0 ? 0 : 99), i);
        }
        for (int i = 0; i < 8; i++) {
            Due.due("4: KIND of " + i, x.of(i, 0), i % 7);
            Due.due("4: BUILD of " + i, x.of(i, 2), i % 2 == 0 ? 0 : 99);
        }
        Due.due("4: FULL", x.person(0, 0), Due.FULL);
        Due.due("4: FULL again", x.person(6, 99), Due.FULL);
        Due.due("4: FULL changes nothing", x.count(1), 8);
        Due.due("4: FULL is counted", x.status(1), 2);
    }

    private static void personOutside() {
        ScandalCounter x = new ScandalCounter();
        ScandalCounter full = Due.eight(Due.PERSON, 20);
        for (int kind : Due.outside(0, 6)) {
            Due.due("4: kind " + kind, x.person(kind, 0), Due.BEYOND);
            Due.due("4: kind " + kind + ", ahead of FULL", full.person(kind, 0), Due.BEYOND);
        }
        for (int build : Due.outside(0, 99)) {
            Due.due("4: build " + build, x.person(0, build), Due.BEYOND);
            Due.due("4: build " + build + ", ahead of FULL", full.person(0, build), Due.BEYOND);
        }
        Due.due("4: BEYOND changes nothing", x.count(1), 0);
        Due.due("4: FULL was never asked", full.status(1), 0);
    }

    private static void ofOutside() {
        ScandalCounter x = Due.county(Due.LADY);
        ScandalCounter full = Due.eight(Due.LADY, 20);
        for (int what = 0; what < 8; what++) {
            for (int person : Due.outside(0, 0)) {
                Due.due("5: person " + person, x.of(person, what), Due.BEYOND);
            }
            for (int person : Due.outside(0, 7)) {
                Due.due("5: person " + person + " of eight", full.of(person, what), Due.BEYOND);
            }
        }
        for (int what : Due.outside(0, 7)) {
            Due.due("5: what " + what, full.of(7, what), Due.BEYOND);
        }
    }

    private static void ofTheLastOne() {
        ScandalCounter x = Due.eight(Due.YOUNG, 99);
        x.change(7, 1, 9999);
        x.change(7, 3, 9999);
        x.change(7, 4, 9999);
        int[] due = {Due.YOUNG, 9999, 99, 9999, 9999, 15, 5, 1};
        for (int what = 0; what < 8; what++) {
            Due.due("5: what " + what + " of the 8th", x.of(7, what), due[what]);
        }
    }

    private static void changeEnds() {
        int[] most = {6, 9999, 99, 9999, 9999};
        for (int what = 0; what < 5; what++) {
            ScandalCounter x = Due.eight(Due.PERSON, 20);
            int was = what == 2 ? 20 : 0;
            for (int v : new int[] {0, 1, most[what] - 1, most[what], most[what], 0}) {
                Due.due("6: what " + what + " becomes " + v, x.change(7, what, v), was);
                Due.due("6: what " + what + " is " + v, x.of(7, what), v);
                was = v;
            }
            Due.due("6: of the others what " + what + " stays", x.of(6, what), what == 2 ? 20 : 0);
        }
    }

    private static void changeOutside() {
        int[] most = {6, 9999, 99, 9999, 9999};
        ScandalCounter x = Due.county(Due.PERSON, Due.LADY);
        for (int what = 0; what < 5; what++) {
            int was = x.of(1, what);
            for (int v : Due.outside(0, most[what])) {
                Due.due("6: what " + what + ", v " + v, x.change(1, what, v), Due.BEYOND);
            }
            for (int person : Due.outside(0, 1)) {
                Due.due("6: person " + person, x.change(person, what, 0), Due.BEYOND);
            }
            Due.due("6: BEYOND changes nothing, what " + what, x.of(1, what), was);
        }
        for (int what : new int[] {-1, 5, 6, 7, 8, Integer.MIN_VALUE, Integer.MAX_VALUE}) {
            Due.due("6: what " + what, x.change(1, what, 0), Due.BEYOND);
        }
    }

    private static void feelsOutside() {
        ScandalCounter x = Due.eight(Due.PERSON, 20);
        Due.due("7: least WEIGHT", x.feels(7, 0), 0);
        Due.due("7: most WEIGHT", x.feels(7, 20), 20);
        for (int weight : Due.outside(0, 20)) {
            Due.due("7: weight " + weight, x.feels(7, weight), Due.BEYOND);
        }
        for (int person : Due.outside(0, 7)) {
            Due.due("7: person " + person, x.feels(person, 0), Due.BEYOND);
        }
    }

    /** YOUNG: as a LADY, less 3 (0 at least). */
    private static void feelsZeroAtLeast() {
        ScandalCounter x = Due.county(Due.YOUNG, Due.LADY);
        int[] due = {0, 0, 1, 3, 5};
        for (int weight = 0; weight < due.length; weight++) {
            Due.due("7: YOUNG by " + weight, x.feels(0, weight), due[weight]);
            Due.due("7: LADY by " + weight, x.feels(1, weight), 2 * weight);
        }
        Due.due("7: YOUNG by most", x.feels(0, 20), 37);
        Due.due("7: LADY by most", x.feels(1, 20), 40);
    }

    /** DUKE: half (cut) of a PERSON. */
    private static void feelsCut() {
        ScandalCounter x = Due.county(Due.DUKE, Due.CLERGY);
        int[] due = {0, 0, 1, 1, 2};
        for (int weight = 0; weight < due.length; weight++) {
            Due.due("7: DUKE by " + weight, x.feels(0, weight), due[weight]);
            Due.due("7: CLERGY by " + weight, x.feels(1, weight), due[weight] + 1);
        }
        Due.due("7: DUKE by 19", x.feels(0, 19), 9);
        Due.due("7: CLERGY by 20", x.feels(1, 20), 11);
    }

    /** BISHOP: a tenth (cut) of BORNE. */
    private static void feelsOfBorne() {
        ScandalCounter x = Due.county(Due.BISHOP, Due.CLERGY);
        int[] borne = {0, 9, 10, 19, 20, 9990, 9999};
        int[] more = {0, 0, 1, 1, 2, 999, 999};
        for (int i = 0; i < borne.length; i++) {
            x.change(0, 3, borne[i]);
            x.change(1, 3, borne[i]);
            Due.due("7: BISHOP with " + borne[i], x.feels(0, 0), 1 + more[i]);
            Due.due("7: BISHOP with " + borne[i] + " by most", x.feels(0, 20), 11 + more[i]);
            Due.due("7: CLERGY with " + borne[i], x.feels(1, 0), 1);
        }
    }

    /** COWMAN: w, but 0, if w is below 5. */
    private static void cowmanFeelsFromFive() {
        ScandalCounter x = Due.county(Due.COWMAN);
        for (int weight = 0; weight <= 20; weight++) {
            Due.due("7: COWMAN by " + weight, x.feels(0, weight), weight < 5 ? 0 : weight);
        }
    }

    private static void asksNoMoreThanOwed() {
        int[] most = {10, 5, 20, 0, 0, 10, 15};
        for (int kind = 0; kind < 7; kind++) {
            ScandalCounter x = Due.county(kind);
            for (int owed = 0; owed <= 22; owed++) {
                x.change(0, 1, owed);
                Due.due("5: kind " + kind + " OWED " + owed, x.of(0, 5), owed < most[kind] ? owed : most[kind]);
            }
            x.change(0, 1, 9999);
            Due.due("5: kind " + kind + " OWED most", x.of(0, 5), most[kind]);
        }
    }

    /** BISHOP: as a CLERGY, but 3, if DAY leaves 6 by 7; no more than it is OWED. */
    private static void bishopAsksEverySeventhDay() {
        ScandalCounter x = Due.county(Due.BISHOP);
        for (int day = 0; day <= 20; day++) {
            for (int owed = 0; owed <= 4; owed++) {
                x.change(0, 1, owed);
                int due = day == 6 || day == 13 || day == 20 ? new int[] {0, 1, 2, 3, 3}[owed] : 0;
                Due.due("5: BISHOP OWED " + owed + " on day " + day, x.of(0, 5), due);
            }
            x.go(1);
        }
    }

    /** PERSON: BUILD less BORNE (0 at least); others by it. */
    private static void roomZeroAtLeast() {
        int[] borne = {19, 20, 21, 9999};
        int[][] due = {{1, 0, 0, 0}, {0, 0, 0, 0}, {1, 0, 0, 0}, {21, 20, 20, 20}, {21, 20, 20, 20}, {1, 0, 0, 0}, {5, 5, 5, 5}};
        for (int kind = 0; kind < 7; kind++) {
            ScandalCounter x = Due.county(kind);
            for (int i = 0; i < borne.length; i++) {
                x.change(0, 3, borne[i]);
                Due.due("5: ROOM of kind " + kind + " with " + borne[i], x.of(0, 6), due[kind][i]);
            }
        }
    }

    /** LADY: half (cut) of a PERSON. */
    private static void roomCut() {
        int[] build = {0, 1, 2, 3, 98, 99};
        int[] lady = {0, 0, 1, 1, 49, 49};
        for (int i = 0; i < build.length; i++) {
            ScandalCounter x = Due.county(Due.LADY, Due.YOUNG, Due.CLERGY);
            for (int person = 0; person < 3; person++) {
                x.change(person, 2, build[i]);
            }
            Due.due("5: ROOM of a LADY of " + build[i], x.of(0, 6), lady[i]);
            Due.due("5: ROOM of a YOUNG of " + build[i], x.of(1, 6), lady[i] + 5);
            Due.due("5: ROOM of a CLERGY of " + build[i], x.of(2, 6), 2 * build[i]);
        }
    }

    /** COWMAN: as a PERSON, but 99, if BORNE is 0. */
    private static void cowmanWithNothingBorne() {
        ScandalCounter x = Due.county(Due.COWMAN);
        x.change(0, 2, 0);
        Due.due("5: ROOM of a COWMAN of no BUILD", x.of(0, 6), 99);
        x.change(0, 3, 1);
        Due.due("5: ROOM of a COWMAN who bears 1", x.of(0, 6), 0);
        x.change(0, 2, 99);
        Due.due("5: ROOM of a COWMAN of most BUILD who bears 1", x.of(0, 6), 98);
    }

    private static void bearerOutside() {
        ScandalCounter x = Due.eight(Due.PERSON, 99);
        Due.due("8: least WEIGHT", x.bearer(7, 1), 0);
        Due.due("8: most WEIGHT", x.bearer(7, 20), 0);
        for (int weight : Due.outside(1, 20)) {
            Due.due("8: weight " + weight, x.bearer(7, weight), Due.BEYOND);
        }
        for (int person : Due.outside(0, 7)) {
            Due.due("8: person " + person, x.bearer(person, 1), Due.BEYOND);
        }
        ScandalCounter alone = Due.county(Due.PERSON);
        Due.due("8: nobody else, least WEIGHT", alone.bearer(0, 1), Due.NONE);
        Due.due("8: BEYOND is asked ahead of NONE", alone.bearer(0, 0), Due.BEYOND);
        Due.due("8: nobody else, most WEIGHT", alone.bearer(0, 20), Due.NONE);
    }

    private static void bearerJustEnough() {
        ScandalCounter x = Due.county(Due.PERSON, Due.PERSON);
        for (int weight = 1; weight <= 20; weight++) {
            x.change(1, 2, weight);
            Due.due("8: ROOM is " + weight, x.bearer(0, weight), 1);
            x.change(1, 2, weight - 1);
            Due.due("8: ROOM is 1 less than " + weight, x.bearer(0, weight), Due.NONE);
        }
        Due.due("8: the asker's own ROOM does not count", x.of(0, 6), 20);
    }

    private static void bearerOfSeveral() {
        ScandalCounter x = Due.eight(Due.PERSON, 20);
        for (int person = 0; person < 8; person++) {
            Due.due("8: of several the least number, but " + person, x.bearer(person, 20), person == 0 ? 1 : 0);
        }
        x.change(5, 2, 21);
        x.change(7, 2, 21);
        Due.due("8: of those with most the least number", x.bearer(0, 1), 5);
        Due.due("8: of the others", x.bearer(5, 1), 7);
    }

    private static void bearerAmongEight() {
        ScandalCounter x = Due.eight(Due.PERSON, 0);
        Due.due("8: none of eight has ROOM", x.bearer(0, 1), Due.NONE);
        x.change(7, 2, 1);
        Due.due("8: the 8th has", x.bearer(0, 1), 7);
        Due.due("8: but for itself", x.bearer(7, 1), Due.NONE);
        Due.due("8: nothing changes", x.now(2), 0);
    }
}
