/** Each promise by its number: ordinary inputs, the edges that the document names, wrong inputs. */
public final class PromisesTest {
    private static final int UNKNOWN = -1, OUTSIDE = -2, STATE = -3, FULL = -4, NO = -5, NONE = -6;

    public static void main(String[] args) {
        p1NewObject();
        p2Say();
        p3Wipe();
        p4FaultOfHouse();
        p4FaultOfDay();
        p5House();
        p6Tube();
        p7Set();
        p8Way();
        p8WayOfSeveral();
        p9Loud();
        p10Heard();
        p11Judge();
        p11JudgeTaken();
        p12Day();
        p13Know();
        p14Knows();
        p14KnowsAtOneMinute();
        p15Call();
        p16Clear();
        p17Soonest();
        p17SoonestDouble();
        p18ByDue();
        p19Locked();
        p19LockedRing();
        p20Tried();
        p21Forget();
        p22Stopped();
        p23Far();
        p24Further();
        p25Bridges();
        p26Image();
        p27Restore();
        p28Told();
        Check.end("PromisesTest");
    }

    private static void due(String what, long got, long want) {
        Check.due(what, got, want);
    }

    private static void p1NewObject() {
        SpeakTubes x = new SpeakTubes();
        due("1 signs", x.told(0), 0);
        due("1 tubes", x.told(1), 0);
        due("1 carries", x.told(2), 20);
        due("1 stoppers", x.told(3), 255);
        due("1 waiting", x.told(4), 0);
        due("1 tries", x.told(5), 0);
        for (int room = 0; room < 8; room++) {
            due("1 matters", x.told(10 + room), 0);
        }
        due("1 no tube", x.tube(0, 0), UNKNOWN);
        due("1 none is stopped", x.stopped(0), 4096);
        due("1 no image", x.restore(0), STATE);
        due("1 no image", x.restore(1), STATE);
    }

    private static void p2Say() {
        SpeakTubes x = new SpeakTubes();
        due("2 below", x.say(32), OUTSIDE);
        due("2 above", x.say(127), OUTSIDE);
        due("2 least", x.say(33), 1);
        due("2 most", x.say(126), 2);
        for (int v : Check.WILD) {
            due("2 wild", x.say(v), OUTSIDE);
        }
        for (int n = 3; n <= 60; n++) {
            due("2 more", x.say('A'), n);
        }
        due("2 full", x.say('A'), FULL);
        due("2 outside ahead of full", x.say(32), OUTSIDE);
        due("2 nothing changed", x.told(0), 60);
    }

    private static void p3Wipe() {
        SpeakTubes x = new SpeakTubes();
        due("3 none", x.wipe(), 0);
        Check.tell(x, "ABC");
        due("3 three", x.wipe(), 3);
        due("3 gone", x.told(0), 0);
        due("3 from the beginning", x.say('A'), 1);
    }

    private static void fault(int how, String text, int want) {
        SpeakTubes x = new SpeakTubes();
        Check.tell(x, text);
        due("4 fault(" + how + ") of " + text, x.fault(how), want);
    }

    private static void p4FaultOfHouse() {
        fault(0, "", NONE);
        fault(0, "A", 1);
        fault(0, "A-", 2);
        fault(0, "A-B", 3);
        fault(0, "A-B1", NONE);
        fault(0, "A-B1H>G9B~C2C=D3D" + "xE4", NONE);
        fault(0, "a-B1", 0);
        fault(0, "I-B1", 0);
        fault(0, "A+B1", 1);
        fault(0, "A-A1", 2);
        fault(0, "A-I1", 2);
        fault(0, "A-B0", 3);
        fault(0, "A-B1A-B:", 7);
        fault(0, "A-B1A", 5);
        fault(0, "A-B1.1", 4);
        fault(0, "A-B1A-B1A-B1A-B1A-B1A-B1A-B1A-B1A-B1A-B1A-B1A-B1", NONE);
        fault(0, "A-B1A-B1A-B1A-B1A-B1A-B1A-B1A-B1A-B1A-B1A-B1A-B1A", 48);
        fault(0, "A-B1A-B1A-B1A-B1A-B1A-B1A-B1A-B1A-B1A-B1A-B1A-B1A-B1A-B1A-B1", 48);
        SpeakTubes x = new SpeakTubes();
        due("4 how", x.fault(2), OUTSIDE);
        due("4 how", x.fault(-1), OUTSIDE);
        for (int v : Check.WILD) {
            due("4 wild", x.fault(v), OUTSIDE);
        }
    }

    private static void p4FaultOfDay() {
        fault(1, "", NONE);
        fault(1, "AB1", NONE);
        fault(1, ".9", NONE);
        fault(1, "HG9.1AB1", NONE);
        fault(1, "A", 1);
        fault(1, "AB", 2);
        fault(1, ".", 1);
        fault(1, ".0", 1);
        fault(1, "..", 1);
        fault(1, "AA1", 1);
        fault(1, "AI1", 1);
        fault(1, "IA1", 0);
        fault(1, "AB0", 2);
        fault(1, "AB.", 2);
        fault(1, "A.1", 1);
        fault(1, "AB1-", 3);
        String twenty = ".1.1.1.1.1.1.1.1.1.1.1.1.1.1.1.1.1.1.1.1";
        fault(1, twenty, NONE);
        fault(1, twenty + ".1", 40);
        fault(1, twenty + "A", 40);
        fault(1, "AB1" + twenty, 41);
        fault(1, "AB1AB1AB1AB1AB1AB1AB1AB1AB1AB1AB1AB1AB1AB1AB1AB1AB1AB1AB1AB1", NONE);
    }

    private static void p5House() {
        SpeakTubes x = Check.houseOf("A-B1");
        due("5 pad is empty", x.told(0), 0);
        x.set(0, 33);
        x.set(1, 7);
        x.know(3, 9);
        x.call(0, 1, 1, 1);
        x.tried(0, 1, false);
        x.image(1);
        Check.tell(x, "A-B1B-C");
        due("5 fault", x.house(), NO);
        due("5 pad stays", x.told(0), 7);
        due("5 tubes stay", x.told(1), 1);
        due("5 calls stay", x.told(4), 1);
        due("5 tries stay", x.told(5), 1);
        x.say('2');
        due("5 two", x.house(), 2);
        due("5 calls go", x.told(4), 0);
        due("5 tries go", x.told(5), 0);
        due("5 can be", x.stopped(0), 4096 + 3);
        due("5 carries stay", x.told(2), 33);
        due("5 stoppers stay", x.told(3), 7);
        due("5 matters stay", x.told(13), 9);
        due("5 image stays", x.restore(1), 1);
        due("5 no signs", x.house(), 0);
        due("5 no tubes", x.told(1), 0);
        Check.houseOf("A-B1A-B2A-B3A-B4A-B5A-B6A-B7A-B8A-B9A>B1A~B1A=B1");
    }

    private static void p6Tube() {
        SpeakTubes x = Check.houseOf("A-B1H>G9B~C2C=D3DxE4");
        int[][] want = {{0, 1, '-', 1}, {7, 6, '>', 9}, {1, 2, '~', 2}, {2, 3, '=', 3}, {3, 4, 'x', 4}};
        for (int t = 0; t < 5; t++) {
            for (int what = 0; what < 4; what++) {
                due("6 tube " + t, x.tube(t, what), want[t][what]);
            }
        }
        due("6 unknown", x.tube(5, 0), UNKNOWN);
        due("6 unknown", x.tube(-1, 0), UNKNOWN);
        due("6 unknown ahead of outside", x.tube(5, 4), UNKNOWN);
        due("6 outside", x.tube(4, 4), OUTSIDE);
        due("6 outside", x.tube(0, -1), OUTSIDE);
        for (int v : Check.WILD) {
            due("6 wild", x.tube(v, 0), UNKNOWN);
            due("6 wild", x.tube(0, v), OUTSIDE);
        }
    }

    private static void p7Set() {
        SpeakTubes x = new SpeakTubes();
        due("7 carries", x.set(0, 1), 20);
        due("7 carries", x.set(0, 60), 1);
        due("7 carries", x.told(2), 60);
        due("7 low", x.set(0, 0), OUTSIDE);
        due("7 high", x.set(0, 61), OUTSIDE);
        due("7 stoppers", x.set(1, 0), 255);
        due("7 stoppers", x.set(1, 255), 0);
        due("7 low", x.set(1, -1), OUTSIDE);
        due("7 high", x.set(1, 256), OUTSIDE);
        due("7 which", x.set(2, 5), OUTSIDE);
        due("7 which", x.set(-1, 5), OUTSIDE);
        for (int v : Check.WILD) {
            due("7 wild", x.set(v, 1), OUTSIDE);
            due("7 wild", x.set(0, v), OUTSIDE);
            due("7 wild", x.set(1, v), OUTSIDE);
        }
        due("7 nothing changed", x.told(2), 60);
        due("7 nothing changed", x.told(3), 255);
    }

    private static void ways(SpeakTubes x, int from, int to, int length, int... tubes) {
        due("8 length", x.way(from, to, -1), length);
        due("8 count", x.way(from, to, -2), tubes.length);
        for (int i = 0; i < tubes.length; i++) {
            due("8 tube " + i, x.way(from, to, i), tubes[i]);
        }
        due("8 behind the last", x.way(from, to, tubes.length), NONE);
    }

    private static void p8Way() {
        SpeakTubes x = Check.houseOf("A-B5B~C3C>A9CxD1D=E9");
        ways(x, 0, 2, 8, 0, 1);
        ways(x, 2, 0, 8, 1, 0);
        ways(x, 4, 3, 9, 4);
        due("8 sealed", x.way(2, 3, -1), NONE);
        due("8 sealed", x.way(3, 2, -2), NONE);
        due("8 none", x.way(0, 7, 0), NONE);
        due("8 both one", x.way(0, 0, -1), UNKNOWN);
        due("8 unknown", x.way(8, 0, -1), UNKNOWN);
        due("8 unknown", x.way(0, -1, -1), UNKNOWN);
        due("8 i", x.way(0, 2, -3), NONE);
        x.set(0, 8);
        ways(x, 0, 2, 8, 0, 1);
        x.set(0, 7);
        due("8 too far", x.way(0, 2, -1), NONE);
        due("8 too far", x.way(0, 2, 0), NONE);
        for (int v : Check.WILD) {
            due("8 wild", x.way(v, 0, 0), UNKNOWN);
            due("8 wild", x.way(0, v, 0), UNKNOWN);
            due("8 wild", x.way(0, 1, v), NONE);
        }
    }

    private static void p8WayOfSeveral() {
        ways(Check.houseOf("A-B1B-C1A-C3"), 0, 2, 2, 0, 1);
        ways(Check.houseOf("A-B1B-C1A-C2"), 0, 2, 2, 2);
        ways(Check.houseOf("A-B2A-B1A-B1"), 0, 1, 1, 1);
        SpeakTubes x = Check.houseOf("B-D1A-C1A-B1C-D1");
        ways(x, 0, 3, 2, 1, 3);
        ways(x, 3, 0, 2, 0, 2);
        ways(Check.houseOf("B>A1A>C1C>B1"), 0, 1, 2, 1, 2);
        ways(Check.houseOf("A-B9B-C9C-D9D-E9E-F9F-G9G-H6"), 0, 2, 18, 0, 1);
        x = Check.houseOf("A-B9B-C9C-D9D-E9E-F9F-G9G-H6");
        x.set(0, 60);
        ways(x, 0, 7, 60, 0, 1, 2, 3, 4, 5, 6);
        ways(x, 7, 0, 60, 6, 5, 4, 3, 2, 1, 0);
        x.set(0, 59);
        due("8 too far", x.way(0, 7, -1), NONE);
    }

    private static void p9Loud() {
        SpeakTubes x = Check.houseOf("A-B5B~C3C>A9");
        due("9 beginning", x.loud(0, 2, 0), 20);
        due("9 between", x.loud(0, 2, 1), 15);
        due("9 end", x.loud(0, 2, 2), 12);
        due("9 back", x.loud(2, 0, 1), 17);
        due("9 not on it", x.loud(0, 2, 3), NONE);
        due("9 not on it", x.loud(0, 1, 2), NONE);
        due("9 no way", x.loud(0, 3, 0), NONE);
        due("9 both one", x.loud(1, 1, 1), UNKNOWN);
        due("9 room", x.loud(0, 2, 8), UNKNOWN);
        due("9 room", x.loud(0, 2, -1), UNKNOWN);
        due("9 rooms", x.loud(8, 2, 0), UNKNOWN);
        x.set(0, 8);
        due("9 nothing left", x.loud(0, 2, 2), 0);
        for (int v : Check.WILD) {
            due("9 wild", x.loud(v, 0, 0), UNKNOWN);
            due("9 wild", x.loud(0, v, 0), UNKNOWN);
            due("9 wild", x.loud(0, 1, v), UNKNOWN);
        }
    }

    private static void p10Heard() {
        SpeakTubes x = Check.houseOf("A-B1B-C1C~D1D-E1");
        due("10 end alone", x.heard(0, 2), 4);
        due("10 leaky", x.heard(0, 4), 4 + 8 + 16);
        due("10 leaky first", x.heard(2, 4), 4 + 8 + 16);
        due("10 leaky last", x.heard(0, 3), 4 + 8);
        x.set(1, 255 - 2);
        due("10 stopper out", x.heard(0, 2), 2 + 4);
        due("10 stopper at the beginning", x.heard(1, 2), 4);
        due("10 stopper at the end", x.heard(0, 1), 2);
        x.set(1, 0);
        due("10 all out", x.heard(4, 0), 1 + 2 + 4 + 8);
        due("10 no way", x.heard(0, 5), NONE);
        due("10 both one", x.heard(2, 2), UNKNOWN);
        due("10 unknown", x.heard(8, 2), UNKNOWN);
        due("10 unknown", x.heard(2, -1), UNKNOWN);
        for (int v : Check.WILD) {
            due("10 wild", x.heard(v, 0), UNKNOWN);
            due("10 wild", x.heard(0, v), UNKNOWN);
        }
    }

    private static void judged(SpeakTubes x, String day, int call, int why) {
        Check.tell(x, day);
        due("11 call in " + day, x.judge(0), call);
        due("11 why in " + day, x.judge(1), why);
        due("11 pad stays", x.told(0), day.length());
        if (call != NONE) {
            due("12 day of " + day, x.day(0), STATE);
            due("14 knows of " + day, x.knows(0, 0), STATE);
        }
    }

    private static void p11Judge() {
        SpeakTubes x = Check.houseOf("A-B1B-C1C-D1A>E1");
        judged(x, "", NONE, NONE);
        judged(x, ".9", NONE, NONE);
        judged(x, "AB1CD1", NONE, NONE);
        judged(x, "AB1EA1", 1, 1);
        judged(x, "AB1AH1", 1, 1);
        judged(x, "AB3AD1", 1, 2);
        judged(x, "AB3BA1", 1, 2);
        judged(x, "AB3DB1", 1, 3);
        judged(x, "AC3BD1", 1, 4);
        judged(x, "AB1AC1AD1", 1, 2);
        judged(x, "AC3.2BD1", 1, 4);
        judged(x, "AC3.3BD1", NONE, NONE);
        judged(x, "AC3.2.1CA1", NONE, NONE);
        judged(x, "AC3.2CA1", 1, 2);
        due("11 what", x.judge(2), OUTSIDE);
        due("11 what", x.judge(-1), OUTSIDE);
        Check.tell(x, "AB");
        due("11 fault", x.judge(0), NO);
        due("11 outside ahead of fault", x.judge(2), OUTSIDE);
        for (int v : Check.WILD) {
            due("11 wild", x.judge(v), OUTSIDE);
        }
    }

    private static void p11JudgeTaken() {
        SpeakTubes x = Check.houseOf("A=B1B=C1C-D1D-A1");
        judged(x, "AC9BD9", NONE, NONE);
        x = Check.houseOf("A=B1B=C1C-D1E=B1");
        judged(x, "AC9BD9", NONE, NONE);
        judged(x, "AC9BD9.8EA1", 2, 3);
        judged(x, "AC9EB9", NONE, NONE);
        x = Check.houseOf("A=B1B=C1C=D1D-E1F-B1");
        judged(x, "AD9BE9CF9", 2, 4);
        judged(x, "AD9BE9CF9.9CF1", 2, 4);
        judged(x, "AD9BE8.8CF9", NONE, NONE);
        x = Check.houseOf("A-B1A-C1C-B1D-A1");
        judged(x, "AB3DC3", NONE, NONE);
        x = Check.houseOf("A-B1A-C1C-B1A-D1D-C9");
        judged(x, "AB2DC9", NONE, NONE);
        x = Check.houseOf("A-B1C-A1B-D1A-E9E-B9");
        judged(x, "AB2CD2", NONE, NONE);
        x.set(0, 19);
        judged(x, "AB2CD2", 1, 4);
        x = Check.houseOf("A-B1B-C1B-C1C-D1");
        judged(x, "AC9BD9", NONE, NONE);
        judged(x, "AC9BD9.5CB1", 2, 2);
        x = Check.houseOf("A-B1C-D1E=F1G=E1H=E1");
        judged(x, "EF9AB9CD9.1BA1", 3, 2);
        x = Check.houseOf("A-C1B-C1D-C1C-E1C-F1");
        judged(x, "AE9BF9", NONE, NONE);
        x = Check.houseOf("A-C1A=B1D=A1B=E1F-A1A-G1");
        judged(x, "AC9BD9FE9", NONE, NONE);
        judged(x, "AC9BD9FG9", NONE, NONE);
        x = Check.houseOf("B=A1A=C1A=D1A=E1A-F1A-G1");
        judged(x, "BC9AF9DE9GB1", 3, 3);
        x = Check.houseOf("A=B1A-C1A-D1B-E1B-F1B-G1A-H1");
        judged(x, "CE9DF9AB9", 2, 4);
        judged(x, "CE9DF9.8HG1", 2, 4);
        judged(x, "CE9DF8.9HG1", NONE, NONE);
        x = Check.houseOf("A=B1A-C1A-D1B-E1B-F1G-H1");
        judged(x, "CE9DF9GH9AB9", 3, 4);
        judged(Check.houseOf("A-B1A-C1B-E1G-H1"), "CE9GH9AB9", 2, 4);
    }

    private static void dayOf(SpeakTubes x, String day, int last, int most, int used) {
        Check.tell(x, day);
        due("12 last of " + day, x.day(0), last);
        due("12 most of " + day, x.day(1), most);
        due("12 taken of " + day, x.day(2), used);
    }

    private static void p12Day() {
        SpeakTubes x = Check.houseOf("A-B2B-C2C-D2E=F1F=G1");
        dayOf(x, "", 0, 0, 0);
        dayOf(x, ".9", 0, 0, 0);
        dayOf(x, "AC9", 9, 1, 3);
        dayOf(x, "AB9CD9", 9, 2, 5);
        dayOf(x, "AB9.1CD3", 9, 2, 5);
        dayOf(x, "AB3.3BC3", 6, 1, 3);
        dayOf(x, "AB3.2CD3", 5, 2, 5);
        dayOf(x, "AB9.9AB9.9AB9", 27, 1, 1);
        dayOf(x, "EG1", 1, 1, 24);
        SpeakTubes y = Check.houseOf("A-B1A-B1C=D1");
        dayOf(y, "AB1", 1, 1, 1);
        dayOf(y, "AB1CD9.1BA9", 10, 2, 5);
        y = Check.houseOf("C-A1C-A1A-B1A-D1");
        dayOf(y, "CB3.1AD3", 4, 2, 1 + 4 + 8);
        dayOf(y, "CB3.1AD3.2.1CB1", 5, 2, 1 + 4 + 8);
        y = Check.houseOf("A-B1B-C1B-C1C-D1");
        dayOf(y, "AC9BD9", 9, 2, 15);
        due("12 what", x.day(3), OUTSIDE);
        due("12 what", x.day(-1), OUTSIDE);
        Check.tell(x, "A.");
        due("12 fault", x.day(0), NO);
        due("12 outside ahead of fault", x.day(3), OUTSIDE);
        Check.tell(x, "AH1");
        due("12 outside ahead of state", x.day(3), OUTSIDE);
        due("12 state", x.day(2), STATE);
        for (int v : Check.WILD) {
            due("12 wild", x.day(v), OUTSIDE);
        }
    }

    private static void p13Know() {
        SpeakTubes x = new SpeakTubes();
        due("13 first", x.know(0, 255), 0);
        due("13 second", x.know(0, 1), 255);
        due("13 last room", x.know(7, 4), 0);
        due("13 none", x.know(5, 0), 0);
        due("13 told", x.told(17), 4);
        due("13 room", x.know(8, 1), UNKNOWN);
        due("13 room", x.know(-1, 1), UNKNOWN);
        due("13 unknown ahead of outside", x.know(8, 256), UNKNOWN);
        due("13 high", x.know(0, 256), OUTSIDE);
        due("13 low", x.know(0, -1), OUTSIDE);
        for (int v : Check.WILD) {
            due("13 wild", x.know(v, 1), UNKNOWN);
            due("13 wild", x.know(1, v), OUTSIDE);
        }
        due("13 nothing changed", x.told(10), 1);
        due("13 nothing changed", x.told(11), 0);
    }

    private static void known(SpeakTubes x, String day, int room, int knows, int could) {
        Check.tell(x, day);
        due("14 knows behind " + day, x.knows(room, 0), knows);
        due("14 could know behind " + day, x.knows(room, 1), could);
    }

    private static void p14Knows() {
        SpeakTubes x = Check.houseOf("A-B1B-C1C~D1D-E1");
        x.know(0, 1);
        x.know(1, 2);
        known(x, "", 0, 1, 1);
        known(x, "AB1", 1, 3, 3);
        known(x, "AB1", 0, 1, 1);
        known(x, "AC1", 1, 2, 3);
        known(x, "AE1", 1, 2, 3);
        known(x, "AE1", 2, 1, 1);
        known(x, "AE1", 4, 1, 1);
        known(x, "BC1.1CD1", 3, 2, 2);
        known(x, "BC2.1DE2", 4, 0, 0);
        x.set(1, 255 - 2);
        known(x, "AC1", 1, 3, 3);
        due("14 matters stay", x.told(11), 2);
        due("14 pad stays", x.told(0), 3);
        due("14 room", x.knows(8, 0), UNKNOWN);
        due("14 room", x.knows(-1, 0), UNKNOWN);
        due("14 unknown ahead of outside", x.knows(8, 2), UNKNOWN);
        due("14 could", x.knows(0, 2), OUTSIDE);
        due("14 could", x.knows(0, -1), OUTSIDE);
        Check.tell(x, "AC");
        due("14 fault", x.knows(0, 0), NO);
        due("14 fault", x.knows(0, 1), NO);
        due("14 outside ahead of fault", x.knows(0, 2), OUTSIDE);
        Check.tell(x, "AH1");
        due("14 state", x.knows(0, 1), STATE);
        for (int v : Check.WILD) {
            due("14 wild", x.knows(v, 0), UNKNOWN);
            due("14 wild", x.knows(0, v), OUTSIDE);
        }
    }

    private static void p14KnowsAtOneMinute() {
        SpeakTubes x = Check.houseOf("A-B1B~C1C-D1D-E1");
        x.know(0, 1);
        x.know(3, 8);
        known(x, "AB2.1DC1.1BE1", 4, 1, 1);
        known(x, "AB2.1DC1.1BE1", 2, 9, 9);
        known(x, "AB2.2BC1", 2, 1, 1);
        known(x, "AB3.2CD1", 3, 8, 8);
        known(x, "AB2.1DC1.1DE1", 4, 8, 8);
        known(x, "AD3.3CE1", 4, 1, 1);
        known(x, "AD3.2.9CE1", 4, 1, 1);
        x = Check.houseOf("A=B1B~C9B=D1D=C1D-E1");
        x.know(0, 1);
        x.know(1, 2);
        known(x, "AC3.1BE2.2CA1", 4, 2, 2);
        known(x, "AC3.1BE2.2CA1", 0, 1, 1);
        known(x, "AC3.1BE2.2CA1", 3, 0, 3);
        x = Check.houseOf("B-A1A-C1C-H1");
        x.know(1, 5);
        known(x, "BC1", 0, 0, 5);
        known(x, "BA1", 0, 5, 5);
        known(x, "BH1", 2, 0, 5);
        x.set(1, 254);
        known(x, "BH1", 0, 5, 5);
    }

    private static void p15Call() {
        SpeakTubes x = new SpeakTubes();
        due("15 first", x.call(0, 7, 1, 1), 0);
        due("15 rooms", x.call(0, 8, 1, 1), UNKNOWN);
        due("15 rooms", x.call(-1, 0, 1, 1), UNKNOWN);
        due("15 both one", x.call(3, 3, 1, 1), UNKNOWN);
        due("15 unknown ahead of outside", x.call(3, 3, 0, 0), UNKNOWN);
        due("15 minutes", x.call(0, 1, 0, 1), OUTSIDE);
        due("15 minutes", x.call(0, 1, 10, 1), OUTSIDE);
        due("15 due", x.call(0, 1, 1, 0), OUTSIDE);
        due("15 due", x.call(0, 1, 1, 61), OUTSIDE);
        for (int v : Check.WILD) {
            due("15 wild", x.call(v, 1, 1, 1), UNKNOWN);
            due("15 wild", x.call(1, v, 1, 1), UNKNOWN);
            due("15 wild", x.call(0, 1, v, 1), OUTSIDE);
            due("15 wild", x.call(0, 1, 1, v), OUTSIDE);
        }
        due("15 nothing changed", x.told(4), 1);
        due("15 most", x.call(1, 0, 9, 60), 1);
        due("15 alike", x.call(1, 0, 9, 60), 2);
        due("15 more", x.call(1, 0, 9, 60), 3);
        due("15 last", x.call(1, 0, 9, 60), 4);
        due("15 full", x.call(1, 0, 9, 60), FULL);
        due("15 outside ahead of full", x.call(1, 0, 9, 61), OUTSIDE);
        due("15 unknown ahead of full", x.call(1, 1, 9, 60), UNKNOWN);
    }

    private static void p16Clear() {
        SpeakTubes x = new SpeakTubes();
        due("16 none", x.clear(), 0);
        x.call(0, 1, 1, 1);
        x.call(0, 2, 1, 1);
        due("16 two", x.clear(), 2);
        due("16 gone", x.told(4), 0);
        due("16 from the beginning", x.call(0, 1, 1, 1), 0);
    }

    private static void soonest(SpeakTubes x, int minute, int... order) {
        due("17 minute", x.soonest(-1), minute);
        for (int i = 0; i < order.length; i++) {
            due("17 call " + i, x.soonest(i), order[i]);
        }
        due("17 behind the last", x.soonest(order.length), NONE);
        due("17 ahead of the minute", x.soonest(-2), NONE);
        for (int v : Check.WILD) {
            due("17 wild", x.soonest(v), NONE);
        }
    }

    private static void p17Soonest() {
        SpeakTubes x = Check.houseOf("A-B1B-C1C-D1E-F1");
        soonest(x, 0);
        x.call(0, 1, 3, 60);
        soonest(x, 3, 0);
        x.call(2, 3, 4, 60);
        soonest(x, 4, 0, 1);
        x.call(0, 3, 5, 60);
        soonest(x, 9, 0, 1, 2);
        x.call(4, 5, 9, 60);
        soonest(x, 9, 0, 1, 2, 3);
        x.call(4, 7, 1, 60);
        due("17 no way", x.soonest(-1), NONE);
        due("17 no way", x.soonest(0), NONE);
        x.clear();
        x.call(0, 1, 2, 60);
        x.call(1, 2, 9, 60);
        x.call(2, 3, 7, 60);
        x.call(0, 3, 9, 60);
        soonest(x, 25, 0, 2, 1, 3);
        x = Check.houseOf("A-B1B-C1C-D1D-E1E-F1F-G1");
        x.call(0, 1, 1, 60);
        x.call(0, 6, 9, 60);
        x.call(2, 3, 1, 60);
        soonest(x, 10, 0, 1, 2);
    }

    private static void p17SoonestDouble() {
        SpeakTubes x = Check.houseOf("A=B1B=C1C=D1B-E9E-F9");
        x.call(0, 2, 4, 60);
        x.call(1, 3, 4, 60);
        soonest(x, 4, 0, 1);
        x.call(0, 3, 2, 60);
        soonest(x, 6, 0, 1, 2);
        x.clear();
        x = Check.houseOf("A=B1B=C1C-D1C-E1C-F1A-G1A-H1");
        x.call(3, 0, 3, 60);
        x.call(4, 6, 3, 60);
        soonest(x, 3, 0, 1);
        x.call(5, 7, 3, 60);
        soonest(x, 6, 0, 1, 2);
        x.call(5, 1, 1, 60);
        soonest(x, 6, 0, 2, 1, 3);
    }

    private static void byDue(SpeakTubes x, int... order) {
        due("18 one", x.byDue(-1), order.length == 0 ? NONE : 1);
        for (int i = 0; i < order.length; i++) {
            due("18 call " + i, x.byDue(i), order[i]);
        }
        due("18 behind the last", x.byDue(order.length), NONE);
        due("18 ahead", x.byDue(-2), NONE);
        for (int v : Check.WILD) {
            due("18 wild", x.byDue(v), NONE);
        }
    }

    private static void p18ByDue() {
        SpeakTubes x = Check.houseOf("A-B1B-C1");
        due("18 without calls", x.byDue(-1), 1);
        due("18 without calls", x.byDue(0), NONE);
        x.call(0, 1, 4, 9);
        byDue(x, 0);
        x.call(1, 2, 3, 3);
        byDue(x, 1, 0);
        x.call(0, 2, 2, 9);
        byDue(x, 1, 0, 2);
        x.call(0, 1, 1, 60);
        byDue(x, 1, 0, 2, 3);
        x.call(2, 1, 1, 9);
        byDue(x);
        x.clear();
        x.call(0, 1, 4, 3);
        byDue(x);
        x.clear();
        x.call(0, 1, 4, 4);
        byDue(x, 0);
        x.call(0, 5, 1, 60);
        byDue(x);
    }

    private static void p19Locked() {
        SpeakTubes x = Check.houseOf("A-B1B-C1C-A9");
        due("19 of none", x.locked(0, 0), NONE);
        due("19 no call", x.locked(1, 0), OUTSIDE);
        x.call(0, 2, 4, 9);
        x.call(2, 0, 3, 3);
        x.call(1, 0, 2, 60);
        due("19 two", x.locked(3, 0), 1011000);
        due("19 by numbers", x.locked(3, 1), NONE);
        due("19 three", x.locked(7, 0), 1011000);
        due("19 one", x.locked(2, 0), NONE);
        due("19 one waits, none locks", x.locked(5, 0), NONE);
        due("19 set", x.locked(8, 0), OUTSIDE);
        due("19 set", x.locked(-1, 0), OUTSIDE);
        due("19 rule", x.locked(1, 2), OUTSIDE);
        due("19 rule", x.locked(1, -1), OUTSIDE);
        x.call(0, 3, 1, 1);
        due("19 no way", x.locked(8, 0), STATE);
        due("19 no way", x.locked(15, 1), STATE);
        due("19 outside ahead of state", x.locked(8, 2), OUTSIDE);
        due("19 not of the set", x.locked(3, 0), 1011000);
        for (int v : Check.WILD) {
            due("19 wild", x.locked(v, 0), OUTSIDE);
            due("19 wild", x.locked(1, v), OUTSIDE);
        }
        x.set(0, 1);
        due("19 ways as they are now", x.locked(3, 0), STATE);
    }

    private static void p19LockedRing() {
        SpeakTubes x = Check.houseOf("A>B1B>C1C>D1D>A1");
        x.call(0, 2, 1, 1);
        x.call(1, 3, 1, 1);
        x.call(2, 0, 1, 1);
        x.call(3, 1, 1, 1);
        due("19 ring", x.locked(15, 0), 1011110);
        due("19 ring by numbers", x.locked(15, 1), NONE);
        due("19 broken ring", x.locked(7, 0), NONE);
        x.call(0, 3, 1, 1);
        due("19 a longer one", x.locked(31, 0), 1000112);
        due("19 a longer one", x.locked(16 + 8 + 4 + 1, 0), 1000112);
        x = Check.houseOf("A=B1B=C1");
        for (int i = 0; i < 5; i++) {
            x.call(i < 3 ? 0 : 2, i < 3 ? 2 : 0, 1, 1);
        }
        due("19 double", x.locked(15, 0), NONE);
        due("19 double", x.locked(31, 0), 1001111);
        due("19 double by numbers", x.locked(31, 1), NONE);
    }

    private static void p20Tried() {
        SpeakTubes x = Check.houseOf("A-B1B-C1C-D1DxE1");
        due("20 not heard", x.tried(0, 3, false), 3);
        due("20 heard", x.tried(0, 2, true), 1);
        due("20 not heard", x.tried(0, 1, false), 0);
        due("20 none can be", x.tried(0, 1, true), 0);
        due("20 rooms", x.tried(0, 8, true), UNKNOWN);
        due("20 rooms", x.tried(-1, 0, true), UNKNOWN);
        due("20 both one", x.tried(1, 1, false), UNKNOWN);
        due("20 no way", x.tried(3, 4, true), STATE);
        due("20 told", x.told(5), 4);
        x.forget();
        for (int n = 1; n <= 99; n++) {
            due("20 heard", x.tried(0, 1, true), 3);
        }
        due("20 full", x.tried(0, 2, false), FULL);
        due("20 state ahead of full", x.tried(0, 4, false), STATE);
        due("20 unknown ahead of full", x.tried(4, 4, false), UNKNOWN);
        due("20 nothing changed", x.stopped(0), 4096 + 6);
        for (int v : Check.WILD) {
            due("20 wild", x.tried(v, 0, true), UNKNOWN);
            due("20 wild", x.tried(0, v, false), UNKNOWN);
        }
        x = Check.houseOf("A-B1B-C9A-C1");
        due("20 by the way as it was", x.tried(1, 2, false), 2);
        x.set(0, 1);
        due("20 by the way as it was", x.stopped(0), 5);
    }

    private static void p21Forget() {
        SpeakTubes x = Check.houseOf("A-B1B-C1CxD1");
        due("21 none", x.forget(), 0);
        x.tried(0, 1, false);
        x.tried(0, 2, false);
        due("21 two", x.forget(), 2);
        due("21 gone", x.told(5), 0);
        due("21 all can be", x.stopped(0), 4096 + 3);
    }

    private static void p22Stopped() {
        SpeakTubes x = Check.houseOf("A-B1B-C1C-D1DxE1");
        due("22 can be", x.stopped(0), 4096 + 7);
        due("22 next", x.stopped(1), 2);
        due("22 tries", x.stopped(2), 2);
        x.tried(0, 3, true);
        due("22 none is", x.stopped(0), 4096);
        due("22 one is left", x.stopped(1), NONE);
        due("22 one is left", x.stopped(2), 0);
        x.tried(0, 3, false);
        due("22 none can be", x.stopped(0), 0);
        due("22 none can be", x.stopped(1), NONE);
        due("22 none can be", x.stopped(2), NONE);
        due("22 what", x.stopped(3), OUTSIDE);
        due("22 what", x.stopped(-1), OUTSIDE);
        for (int v : Check.WILD) {
            due("22 wild", x.stopped(v), OUTSIDE);
        }
        x = Check.houseOf("A-B1A-B2");
        due("22 a longer one beside", x.stopped(0), 4096 + 3);
        due("22 it can be parted from the others", x.stopped(1), 1);
        due("22 not all", x.stopped(2), NONE);
        x.tried(0, 1, true);
        due("22 no try parts them", x.stopped(1), NONE);
        due("22 no try parts them", x.stopped(2), NONE);
        x = Check.houseOf("A>B1C>D1E>F1");
        due("22 one by one", x.stopped(2), 3);
        due("22 the least", x.stopped(1), 1);
        x = Check.houseOf("H>A1");
        due("22 to the first room", x.stopped(1), 70);
        due("22 to the first room", x.stopped(2), 1);
        x = Check.houseOf("H>G1F>E1");
        due("22 the least", x.stopped(1), 54);
        x = Check.houseOf("A-B1B-C1C-D1D-E1E-F1F-G1G-H1");
        due("22 eight", x.stopped(2), 3);
        due("22 eight", x.stopped(1), 4);
        x.set(0, 1);
        due("22 ways as they are now", x.stopped(2), 7);
    }

    private static void p23Far() {
        SpeakTubes x = Check.houseOf("A-B5B>C3CxD1");
        due("23 one tube", x.far(0, 1), 5);
        due("23 two", x.far(0, 2), 8);
        due("23 none back", x.far(2, 0), 99);
        due("23 sealed", x.far(2, 3), 99);
        x.set(0, 7);
        due("23 too far", x.far(0, 2), 99);
        due("23 both one", x.far(2, 2), UNKNOWN);
        due("23 rooms", x.far(8, 2), UNKNOWN);
        due("23 rooms", x.far(2, -1), UNKNOWN);
        for (int v : Check.WILD) {
            due("23 wild", x.far(v, 0), UNKNOWN);
            due("23 wild", x.far(0, v), UNKNOWN);
        }
    }

    private static void further(SpeakTubes x, int length, int rooms, int then, int now) {
        due("24 rooms", x.further(length, 0), rooms);
        due("24 sum then", x.further(length, 1), then);
        due("24 sum as it is", x.further(length, 2), now);
    }

    private static void p24Further() {
        SpeakTubes x = new SpeakTubes();
        further(x, 9, 1, 54 * 99 + 18, 56 * 99);
        x = Check.houseOf("G-H2");
        further(x, 3, 6, 50 * 99 + 2 * (2 + 3 + 5), 54 * 99 + 4);
        x.set(0, 4);
        further(x, 3, 1, 52 * 99 + 2 * (2 + 3), 54 * 99 + 4);
        further(x, 9, 1, 54 * 99 + 4, 54 * 99 + 4);
        x.set(0, 60);
        x = Check.houseOf("A>B1B>C1C>A1");
        x.set(0, 2);
        further(x, 2, 3, 48 * 99 + 3 * 1 + 3 * 2 + 2 * 2, 50 * 99 + 3 * 1 + 3 * 2);
        x.set(0, 60);
        due("24 tubes", x.told(1), 3);
        due("24 length", x.further(0, 0), OUTSIDE);
        due("24 length", x.further(10, 2), OUTSIDE);
        due("24 what", x.further(1, 3), OUTSIDE);
        due("24 what", x.further(1, -1), OUTSIDE);
        for (int v : Check.WILD) {
            due("24 wild", x.further(v, 0), OUTSIDE);
            due("24 wild", x.further(1, v), OUTSIDE);
        }
        due("24 nothing changed", x.told(1), 3);
        x = Check.houseOf("A-B1A-B1A-B1A-B1A-B1A-B1A-B1A-B1A-B1A-B1A-B1A-B1");
        further(x, 1, 2, 50 * 99 + 2 * (1 + 1 + 2), 54 * 99 + 2);
    }

    private static void p25Bridges() {
        due("25 no tubes", new SpeakTubes().bridges(), 0);
        due("25 a row", Check.houseOf("A-B1B-C1CxD1").bridges(), 3);
        due("25 a ring", Check.houseOf("A-B1B-C1C-A1").bridges(), 0);
        due("25 beside", Check.houseOf("A-B1A-B9B-C1").bridges(), 4);
        due("25 one way ring", Check.houseOf("A>B1B>C1C>A1").bridges(), 7);
        due("25 one way beside", Check.houseOf("A-B1A>B1").bridges(), 1);
        SpeakTubes x = Check.houseOf("A-B5B-C5C-D5D-A5");
        due("25 a ring", x.bridges(), 0);
        x.set(0, 15);
        due("25 a ring that is just short enough", x.bridges(), 0);
        x.set(0, 14);
        due("25 a ring that is too long", x.bridges(), 15);
        x.set(0, 4);
        due("25 no ways", x.bridges(), 0);
        x = Check.houseOf("A-B1B-C1C-D1D-E1E-F1F-G1G-H1H-A1A>E1B>F1C>G1D>H1");
        due("25 twelve", x.bridges(), 0);
    }

    private static void p26Image() {
        SpeakTubes x = Check.houseOf("A-B1");
        due("26 first", x.image(0), 1);
        due("26 second", x.image(1), 1);
        due("26 again", x.image(1), 1);
        due("26 high", x.image(2), OUTSIDE);
        due("26 low", x.image(-1), OUTSIDE);
        Check.tell(x, "AB");
        x.image(0);
        due("26 pad stays", x.told(0), 2);
        for (int v : Check.WILD) {
            due("26 wild", x.image(v), OUTSIDE);
        }
    }

    private static void p27Restore() {
        SpeakTubes x = Check.houseOf("A-B1B-C2");
        due("27 not kept", x.restore(0), STATE);
        due("27 high", x.restore(2), OUTSIDE);
        due("27 low", x.restore(-1), OUTSIDE);
        for (int v : Check.WILD) {
            due("27 wild", x.restore(v), OUTSIDE);
        }
        x.set(0, 30);
        x.set(1, 5);
        x.know(2, 77);
        x.call(0, 2, 3, 4);
        x.tried(0, 1, true);
        x.image(0);
        due("27 the other one is not kept", x.restore(1), STATE);
        Check.tell(x, "H>G9");
        x.house();
        x.set(0, 2);
        x.set(1, 6);
        x.know(2, 1);
        x.know(0, 1);
        x.call(7, 6, 1, 1);
        x.call(7, 6, 1, 1);
        x.image(1);
        Check.tell(x, "AB");
        due("27 first", x.restore(0), 1);
        due("27 pad stays", x.told(0), 2);
        due("27 tubes", x.told(1), 2);
        due("27 tube", x.tube(1, 3), 2);
        due("27 tube", x.tube(0, 3), 1);
        due("27 tube", x.tube(1, 0), 1);
        due("27 tube", x.tube(0, 1), 1);
        due("27 tube", x.tube(0, 2), '-');
        due("27 carries", x.told(2), 30);
        due("27 stoppers", x.told(3), 5);
        due("27 waiting", x.told(4), 1);
        due("27 tries", x.told(5), 1);
        due("27 can be", x.stopped(0), 4096 + 2);
        due("27 matters", x.told(12), 77);
        due("27 matters", x.told(10), 0);
        due("27 call", x.soonest(-1), 3);
        due("27 call", x.byDue(0), 0);
        x.know(2, 3);
        x.call(0, 1, 9, 1);
        due("27 second", x.restore(1), 1);
        due("27 tubes", x.told(1), 1);
        due("27 waiting", x.told(4), 2);
        due("27 matters", x.told(10), 1);
        due("27 can be", x.stopped(0), 4096 + 1);
        due("27 first again", x.restore(0), 1);
        due("27 as it was kept", x.told(12), 77);
        due("27 as it was kept", x.told(4), 1);
        due("27 call", x.soonest(-1), 3);
    }

    private static void p28Told() {
        SpeakTubes x = Check.houseOf("A-B1B-C2");
        x.say('A');
        x.set(0, 11);
        x.set(1, 12);
        x.call(0, 1, 1, 1);
        x.tried(0, 1, true);
        x.tried(0, 1, true);
        for (int room = 0; room < 8; room++) {
            x.know(room, 100 + room);
        }
        int[] want = {1, 2, 11, 12, 1, 2};
        for (int what = 0; what < 6; what++) {
            due("28 told", x.told(what), want[what]);
        }
        for (int room = 0; room < 8; room++) {
            due("28 matters", x.told(10 + room), 100 + room);
        }
        int[] outside = {-1, 6, 7, 8, 9, 18};
        for (int what : outside) {
            due("28 outside", x.told(what), OUTSIDE);
        }
        for (int v : Check.WILD) {
            due("28 wild", x.told(v), OUTSIDE);
        }
    }
}
