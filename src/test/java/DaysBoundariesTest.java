/** Promises 11 to 14: for each sentence that names a boundary a test of its own, at the boundary and on both sides of it. */
public final class DaysBoundariesTest {
    private static final int UNKNOWN = -1, OUTSIDE = -2, STATE = -3, NO = -5, NONE = -6;
    private static final String ROW = "A-B1B-C1C-D1D-E1E-F1F-G1G-H1";

    public static void main(String[] args) {
        Check.promises(DaysBoundariesTest.class, 11, 14);
    }

    private static void due(long got, long want) {
        Check.due(got, want);
    }

    private static SpeakTubes houseOf(String text) {
        return Check.houseOf(text);
    }

    private static void judged(SpeakTubes x, String day, int call, int why) {
        Check.tell(x, day);
        due(x.judge(0), call);
        due(x.judge(1), why);
        due(x.day(0) == STATE ? 1 : 0, call == NONE ? 0 : 1);
    }

    private static void canBegin(SpeakTubes x, String day) {
        judged(x, day, NONE, NONE);
    }

    private static void dayOf(SpeakTubes x, String day, int last, int most, int taken) {
        Check.tell(x, day);
        due(x.day(0), last);
        due(x.day(1), most);
        due(x.day(2), taken);
    }

    private static void knows(SpeakTubes x, String day, int room, int knows, int could) {
        Check.tell(x, day);
        due(x.knows(room, 0), knows);
        due(x.knows(room, 1), could);
    }

    // ---- 11: judge

    static void promise11JudgeWithoutParts() {
        canBegin(new SpeakTubes(), "");
        canBegin(houseOf(ROW), "");
    }

    static void promise11JudgeWithoutCalls() {
        canBegin(new SpeakTubes(), ".1");
        canBegin(new SpeakTubes(), ".9".repeat(20));
    }

    static void promise11JudgeNoWayAtAll() {
        judged(new SpeakTubes(), "AB1", 0, 1);
        judged(houseOf("A>B1"), "BA1", 0, 1);
        canBegin(houseOf("A>B1"), "AB1");
        judged(houseOf("AxB1"), "AB1", 0, 1);
    }

    static void promise11JudgeNoWayLongerThanCarries() {
        SpeakTubes x = houseOf("A-B9B-C9");
        x.set(0, 19);
        canBegin(x, "AC1");
        x.set(0, 18);
        canBegin(x, "AC1");
        x.set(0, 17);
        judged(x, "AC1", 0, 1);
    }

    static void promise11JudgeFirstRoomTillThatMinute() {
        SpeakTubes x = houseOf("A-B1A-C1");
        judged(x, "AB2AC1", 1, 2);
        judged(x, "AB2.1AC1", 1, 2);
        canBegin(x, "AB2.2AC1");
        canBegin(x, "AB2.3AC1");
        canBegin(x, "AB2.1.1AC1");
        judged(x, "AB9.8AC1", 1, 2);
        canBegin(x, "AB9.9AC1");
    }

    static void promise11JudgeFirstRoomIsTheOtherOneOfACall() {
        SpeakTubes x = houseOf("A-B1B-C1");
        judged(x, "AB2.1BC1", 1, 2);
        canBegin(x, "AB2.2BC1");
    }

    static void promise11JudgeOtherRoomTillThatMinute() {
        SpeakTubes x = houseOf("A-B1A-C1B-D1");
        judged(x, "AB2CA1", 1, 3);
        judged(x, "AB2.1CA1", 1, 3);
        canBegin(x, "AB2.2CA1");
        judged(x, "AB2.1DB1", 1, 3);
        canBegin(x, "AB2.2DB1");
    }

    static void promise11JudgeRoomsBetweenAreInNone() {
        SpeakTubes x = houseOf("A-B1B-C1B-D1B-E1");
        canBegin(x, "AC9BD1");
        canBegin(x, "AC9DB1");
        canBegin(x, "BD9AC1");
        judged(x, "AC9AD1", 1, 2);
        judged(x, "AC9DC1", 1, 3);
    }

    static void promise11JudgeTubesTakenTillThatMinute() {
        SpeakTubes x = houseOf("A-B1B-C1C-D1");
        judged(x, "AC2BD1", 1, 4);
        judged(x, "AC2.1BD1", 1, 4);
        canBegin(x, "AC2.2BD1");
        canBegin(x, "AC2.1.1BD1");
        judged(x, "BD2.1CA1", 1, 4);
    }

    static void promise11JudgeATubeOfEachKindIsTakenByOne() {
        for (String kind : new String[] {"-", ">", "~"}) {
            SpeakTubes x = houseOf("A" + kind + "B1C-A1D-A1B-E1B-F1");
            canBegin(x, "CE2");
            judged(x, "CE2DF2", 1, 4);
            canBegin(x, "CE2.2DF2");
        }
    }

    static void promise11JudgeADoubleTubeIsTakenByTwo() {
        SpeakTubes x = houseOf("A=B1C-A1D-A1E-A1F-B1G-B1H-B1");
        canBegin(x, "CF2");
        canBegin(x, "CF2DG2");
        judged(x, "CF2DG2EH2", 2, 4);
        judged(x, "CF2DG2.1EH2", 2, 4);
        canBegin(x, "CF2DG2.2EH2");
        canBegin(x, "CF1DG2.1EH2");
        canBegin(x, "CF2DG1.1EH2");
    }

    static void promise11JudgeADoubleTubeIsTakenBothWaysAlike() {
        SpeakTubes x = houseOf("A=B1C-A1D-A1E-A1F-B1G-B1H-B1");
        canBegin(x, "CF2GD2");
        judged(x, "CF2GD2EH2", 2, 4);
        judged(x, "FC2GD2EH2", 2, 4);
    }

    static void promise11JudgeADoubleTubeOfTwoThatAreOverAtOnce() {
        SpeakTubes x = houseOf("A=B1C-A1D-A1E-A1F-B1G-B1H-B1");
        canBegin(x, "CF2.1DG1.1EH9AB9");
        judged(x, "CF2.1DG2.1EH9AB9", 3, 4);
    }

    static void promise11JudgeGoesAroundWhatIsTaken() {
        SpeakTubes x = houseOf("A-B1B-C1C-D1B-E1E-D1");
        canBegin(x, "AC2BD2");
        due(x.day(2), 27);
        Check.tell(x, "AC2.2BD2");
        due(x.day(2), 7);
    }

    static void promise11JudgeAWayAroundIsNoLongerThanCarries() {
        SpeakTubes x = houseOf("A-B1B-C1C-D1B-E9E-D2");
        x.set(0, 12);
        canBegin(x, "AC2BD2");
        x.set(0, 11);
        canBegin(x, "AC2BD2");
        x.set(0, 10);
        judged(x, "AC2BD2", 1, 4);
    }

    static void promise11JudgeNoWayAheadOfTheRooms() {
        SpeakTubes x = houseOf("A-B1");
        judged(x, "AB2AH1", 1, 1);
        judged(x, "AB2HA1", 1, 1);
        x = houseOf("A>B1");
        judged(x, "AB2BA1", 1, 1);
    }

    static void promise11JudgeTheFirstRoomAheadOfTheOther() {
        SpeakTubes x = houseOf("A-B1C-D1A-C1");
        judged(x, "AB2CD2AC1", 2, 2);
        judged(x, "AB2CD2CA1", 2, 2);
        judged(x, "AB2BA1", 1, 2);
    }

    static void promise11JudgeTheRoomsAheadOfTheTubes() {
        SpeakTubes x = houseOf("A-B1A-C1");
        judged(x, "AB2BC1", 1, 2);
        judged(x, "AB2CB1", 1, 3);
        x = houseOf("A-B1B-C1B-D1");
        judged(x, "AC2DB1", NONE, NONE);
        judged(x, "AC2DC1", 1, 3);
    }

    static void promise11JudgeTheFirstSuchCall() {
        SpeakTubes x = houseOf(ROW);
        judged(x, "AB2AB1AB1", 1, 2);
        judged(x, "AC2BD1AC1", 1, 4);
        judged(houseOf("A-B1"), "AH1AB1", 0, 1);
        judged(houseOf("A-B1"), "AB1AH1AB1", 1, 1);
    }

    static void promise11JudgeNumbersCallsAlone() {
        SpeakTubes x = houseOf(ROW);
        judged(x, ".1AB1.1.1AB2.1AB1", 2, 2);
        judged(x, "AB1.1AB1.1AB1.1AB1AB1", 4, 2);
    }

    static void promise11JudgeTheTwentiethCall() {
        SpeakTubes x = houseOf("A-B1C-D1E-F1G-H1");
        judged(x, "AB1CD1EF1GH1" + "AB1".repeat(16), 4, 2);
        judged(x, "AB1.1".repeat(9) + "AB1AB1", 10, 2);
        canBegin(x, "AB1.1".repeat(10));
        canBegin(x, "AB1CD1EF1GH1.1".repeat(4));
        due(x.day(0), 4);
    }

    static void promise11JudgeWaitingCallsTakeNothing() {
        SpeakTubes x = houseOf("A-B1");
        x.call(0, 1, 9, 60);
        canBegin(x, "AB1");
    }

    static void promise11JudgeWhat() {
        SpeakTubes x = houseOf("A-B1");
        Check.tell(x, "AB1BA1");
        due(x.judge(-1), OUTSIDE);
        due(x.judge(0), 1);
        due(x.judge(1), 2);
        due(x.judge(2), OUTSIDE);
        for (int what : Check.WILD) {
            due(x.judge(what), OUTSIDE);
        }
    }

    static void promise11JudgeWithAFault() {
        for (String day : new String[] {"A", "AB", ".", "AB0", "AB1.", "A-B1", ".1".repeat(21), "AH1A", "AB1AB1?"}) {
            SpeakTubes x = houseOf("A-B1");
            Check.tell(x, day);
            due(x.judge(0), NO);
            due(x.judge(1), NO);
            due(x.judge(2), OUTSIDE);
            due(x.told(0), day.length());
        }
    }

    // ---- 12: day

    static void promise12DayWithoutCalls() {
        dayOf(new SpeakTubes(), "", 0, 0, 0);
        dayOf(houseOf(ROW), ".1", 0, 0, 0);
        dayOf(houseOf(ROW), ".9".repeat(20), 0, 0, 0);
    }

    static void promise12DayMinuteAtWhichTheLastIsOver() {
        SpeakTubes x = houseOf(ROW);
        dayOf(x, "AB1", 1, 1, 1);
        dayOf(x, "AB9", 9, 1, 1);
        dayOf(x, "AB1.9", 1, 1, 1);
        dayOf(x, ".9AB1", 10, 1, 1);
        dayOf(x, ".1AB1.1AB1", 3, 1, 1);
    }

    static void promise12DayLastIsNotTheOneThatBeganLast() {
        SpeakTubes x = houseOf(ROW);
        dayOf(x, "AB9CD1", 9, 2, 5);
        dayOf(x, "AB9.7CD1", 9, 2, 5);
        dayOf(x, "AB9.8CD1", 9, 2, 5);
        dayOf(x, "AB9.8CD2", 10, 2, 5);
        dayOf(x, "AB9.9CD1", 10, 1, 5);
    }

    static void promise12DayOfTheMostMinutes() {
        dayOf(houseOf(ROW), ".9".repeat(19) + "AB9", 180, 1, 1);
        dayOf(houseOf(ROW), "AB9" + ".9".repeat(19), 9, 1, 1);
    }

    static void promise12DayMostCallsAtOnce() {
        SpeakTubes x = houseOf(ROW);
        dayOf(x, "AB1CD1EF1GH1", 1, 4, 85);
        dayOf(x, "AB1CD1EF1", 1, 3, 21);
        dayOf(x, "AB1CD1.1EF1", 2, 2, 21);
        dayOf(x, "AB1.1CD1.1EF1", 3, 1, 21);
    }

    static void promise12DayMostWithoutThoseThatAreOverThen() {
        SpeakTubes x = houseOf(ROW);
        dayOf(x, "AB2.1CD2", 3, 2, 5);
        dayOf(x, "AB2.2CD2", 4, 1, 5);
        dayOf(x, "AB2CD3.2AB1", 3, 2, 5);
        dayOf(x, "AB2CD2.2AB1", 3, 2, 5);
        dayOf(x, "AB2.2AB2CD1", 4, 2, 5);
    }

    static void promise12DayTubesAsBits() {
        SpeakTubes x = houseOf("A-B1A-B2A-B2A-B2A-B2A-B2A-B2A-B2A-B2A-B2A-B2C-D1");
        dayOf(x, "AB1", 1, 1, 1);
        dayOf(x, "CD1", 1, 1, 2048);
        dayOf(x, "AB1CD1", 1, 2, 2049);
        dayOf(x, "AB1.1AB1", 2, 1, 1);
    }

    static void promise12DayTubesBackAndForth() {
        SpeakTubes x = houseOf(ROW);
        dayOf(x, "HA1", 1, 1, 127);
        dayOf(x, "CE1.1DB1", 2, 1, 14);
    }

    /** A double tube is taken at all as soon as one call goes through it; barred it is for a third one. */
    static void promise12DayTubesTakenAtAll() {
        SpeakTubes x = houseOf("A=B1B-C1");
        dayOf(x, "AB1", 1, 1, 1);
        dayOf(x, "AC1", 1, 1, 3);
        dayOf(x, "AC1.1AB1", 2, 1, 3);
    }

    static void promise12DayWhat() {
        SpeakTubes x = houseOf("A-B1");
        Check.tell(x, "AB7");
        due(x.day(-1), OUTSIDE);
        due(x.day(0), 7);
        due(x.day(1), 1);
        due(x.day(2), 1);
        due(x.day(3), OUTSIDE);
        for (int what : Check.WILD) {
            due(x.day(what), OUTSIDE);
        }
    }

    static void promise12DayWithAFault() {
        SpeakTubes x = houseOf("A-B1");
        for (String day : new String[] {"A", "AB", ".", "AB0", "AB1A", ".1".repeat(21), "AH1A", "AB1AB1?"}) {
            Check.tell(x, day);
            for (int what = 0; what < 3; what++) {
                due(x.day(what), NO);
            }
            due(x.day(3), OUTSIDE);
        }
    }

    static void promise12DayOfWhichACallCanNotBegin() {
        SpeakTubes x = houseOf("A-B1A-C1D-A1");
        for (String day : new String[] {"AH1", "AB2.1AC1", "AB2.1CA1", "DB2.1AH1"}) {
            Check.tell(x, day);
            for (int what = 0; what < 3; what++) {
                due(x.day(what), STATE);
            }
            due(x.day(3), OUTSIDE);
        }
        Check.tell(x, "AB2.2AC1");
        due(x.day(0), 3);
    }

    // ---- 13: know

    static void promise13KnowMatters0To255() {
        SpeakTubes x = new SpeakTubes();
        due(x.know(0, -1), OUTSIDE);
        due(x.know(0, 0), 0);
        due(x.know(0, 1), 0);
        due(x.know(0, 254), 1);
        due(x.know(0, 255), 254);
        due(x.know(0, 256), OUTSIDE);
        due(x.told(10), 255);
    }

    static void promise13KnowRooms() {
        SpeakTubes x = new SpeakTubes();
        due(x.know(-1, 1), UNKNOWN);
        due(x.know(0, 1), 0);
        due(x.know(7, 2), 0);
        due(x.know(8, 1), UNKNOWN);
        for (int v : Check.WILD) {
            due(x.know(v, 1), UNKNOWN);
            due(x.know(3, v), OUTSIDE);
        }
        due(x.told(10), 1);
        due(x.told(13), 0);
        due(x.told(17), 2);
    }

    static void promise13KnowIsUnknownAheadOfOutside() {
        SpeakTubes x = new SpeakTubes();
        due(x.know(8, 256), UNKNOWN);
        due(x.know(-1, -1), UNKNOWN);
        due(x.know(7, 256), OUTSIDE);
    }

    static void promise13KnowPutsOneInThePlaceOfTheOther() {
        SpeakTubes x = new SpeakTubes();
        due(x.know(4, 240), 0);
        due(x.know(4, 15), 240);
        due(x.know(4, 0), 15);
        due(x.know(4, 9), 0);
    }

    // ---- 14: knows

    static void promise14KnowsWithoutCalls() {
        SpeakTubes x = houseOf(ROW);
        x.know(0, 255);
        x.know(7, 1);
        knows(x, "", 0, 255, 255);
        knows(x, "", 7, 1, 1);
        knows(x, ".9", 1, 0, 0);
    }

    static void promise14KnowsBothItsRooms() {
        SpeakTubes x = houseOf(ROW);
        x.know(0, 5);
        x.know(1, 2);
        knows(x, "AB1", 0, 5, 5);
        knows(x, "AB1", 1, 7, 7);
        knows(x, "BA1", 0, 7, 7);
        knows(x, "BA1", 1, 2, 2);
    }

    static void promise14KnowsAllMatters() {
        SpeakTubes x = houseOf(ROW);
        x.know(0, 255);
        knows(x, "AB1", 1, 255, 255);
        knows(x, "AB1", 2, 0, 0);
    }

    static void promise14KnowsBehindTheLastPartAllComeToTheirEnd() {
        SpeakTubes x = houseOf(ROW);
        x.know(0, 1);
        x.know(2, 2);
        knows(x, "AB9", 1, 1, 1);
        knows(x, "AB9.8", 1, 1, 1);
        knows(x, ".1AB9CD1", 1, 1, 1);
        knows(x, "AB9.1CD1", 3, 2, 2);
    }

    static void promise14KnowsWhatTheFirstOneKnewWhenItBegan() {
        SpeakTubes x = houseOf("A-B1B-C1C-D1B-E1");
        x.set(1, 255 - 2);
        x.know(0, 1);
        x.know(1, 2);
        knows(x, "AC2.1BE2", 1, 3, 3);
        knows(x, "AC2.1BE2", 4, 2, 2);
        knows(x, "AC2.2BE2", 4, 3, 3);
        knows(x, "AC2.3BE2", 4, 3, 3);
        knows(x, "AC2BE9", 4, 2, 2);
    }

    static void promise14KnowsThatAreOverAtOneMinuteTogether() {
        SpeakTubes x = houseOf("A-B1B-C1C-D1B-E1E-F1");
        x.set(1, 255 - 2);
        x.know(0, 1);
        x.know(1, 2);
        knows(x, "AC2.1BE1", 4, 2, 2);
        knows(x, "BE2AC2", 4, 2, 2);
        knows(x, "AC2BE2.2EF1", 5, 2, 2);
        knows(x, "AC2.1BE1.1BE1", 4, 3, 3);
    }

    static void promise14KnowsAheadOfThoseThatBeginThen() {
        SpeakTubes x = houseOf(ROW);
        x.know(0, 1);
        x.know(1, 2);
        x.know(2, 4);
        knows(x, "AB1.1BC1", 2, 7, 7);
        knows(x, "AB1.1BC1.1CD1", 3, 7, 7);
        knows(x, "CB1.1AB1", 1, 7, 7);
        knows(x, "AB1.1BC1.1CD1.1DE1", 4, 7, 7);
        knows(x, "DE1.1CD1.1BC1.1AB1", 4, 0, 0);
    }

    static void promise14KnowsWhereItWasHeard() {
        SpeakTubes x = houseOf("A-B1B-C1C~D1D-E1");
        x.know(0, 1);
        knows(x, "AE1", 1, 0, 1);
        knows(x, "AE1", 2, 1, 1);
        knows(x, "AE1", 3, 1, 1);
        knows(x, "AE1", 4, 1, 1);
        knows(x, "AE1", 5, 0, 0);
        x.set(1, 253);
        knows(x, "AE1", 1, 1, 1);
    }

    static void promise14KnowsByTheWayThatTheCallTook() {
        SpeakTubes x = houseOf("A-B1B-C1C-D1B-E9E~D2");
        x.know(1, 8);
        x.set(1, 0);
        knows(x, "BD2", 2, 8, 8);
        knows(x, "BD2", 4, 0, 0);
        knows(x, "AC2BD2", 2, 0, 0);
        knows(x, "AC2BD2", 4, 8, 8);
    }

    static void promise14KnowsCouldAsIfAllStoppersWereOut() {
        SpeakTubes x = houseOf(ROW);
        x.know(0, 1);
        for (int room = 1; room < 7; room++) {
            knows(x, "AH1", room, 0, 1);
        }
        knows(x, "AH1", 7, 1, 1);
        x.set(1, 0);
        knows(x, "AH1", 1, 1, 1);
        due(x.told(3), 0);
    }

    static void promise14KnowsCouldInTheFirstAndTheLastRoomBetween() {
        SpeakTubes x = houseOf("B-A1A-H1H-C1");
        x.know(1, 128);
        knows(x, "BC1", 0, 0, 128);
        knows(x, "BC1", 7, 0, 128);
        knows(x, "BC1", 2, 128, 128);
    }

    static void promise14KnowsCouldGoesOnFromRoomToRoom() {
        SpeakTubes x = houseOf("A-B1B-C1B-D1");
        x.know(0, 1);
        knows(x, "AC1.1BD1", 3, 0, 1);
        knows(x, "AC2.1BD1", 3, 0, 0);
    }

    static void promise14KnowsChangesNothing() {
        SpeakTubes x = houseOf(ROW);
        x.know(0, 1);
        knows(x, "AB1", 1, 1, 1);
        due(x.told(11), 0);
        due(x.told(3), 255);
        due(x.told(0), 3);
        knows(x, "", 1, 0, 0);
    }

    static void promise14KnowsRooms() {
        SpeakTubes x = houseOf("A-H1");
        x.know(0, 1);
        Check.tell(x, "AH1");
        due(x.knows(-1, 0), UNKNOWN);
        due(x.knows(0, 0), 1);
        due(x.knows(7, 0), 1);
        due(x.knows(8, 0), UNKNOWN);
        for (int v : Check.WILD) {
            due(x.knows(v, 0), UNKNOWN);
            due(x.knows(0, v), OUTSIDE);
        }
    }

    static void promise14KnowsCould0Or1() {
        SpeakTubes x = new SpeakTubes();
        due(x.knows(0, -1), OUTSIDE);
        due(x.knows(0, 0), 0);
        due(x.knows(0, 1), 0);
        due(x.knows(0, 2), OUTSIDE);
        due(x.knows(8, 2), UNKNOWN);
        due(x.knows(-1, -1), UNKNOWN);
    }

    static void promise14KnowsWithAFault() {
        SpeakTubes x = houseOf("A-B1");
        for (String day : new String[] {"A", "AB", ".", "AB0", "AB1A", ".1".repeat(21), "AH1A"}) {
            Check.tell(x, day);
            due(x.knows(0, 0), NO);
            due(x.knows(0, 1), NO);
            due(x.knows(0, 2), OUTSIDE);
            due(x.knows(8, 0), UNKNOWN);
        }
    }

    static void promise14KnowsOfADayOfWhichACallCanNotBegin() {
        SpeakTubes x = houseOf("A-B1A-C1D-A1");
        for (String day : new String[] {"AH1", "AB2.1AC1", "AB2.1CA1", "DB2.1AH1"}) {
            Check.tell(x, day);
            due(x.knows(0, 0), STATE);
            due(x.knows(7, 1), STATE);
            due(x.knows(0, 2), OUTSIDE);
            due(x.knows(8, 0), UNKNOWN);
        }
        Check.tell(x, "AB2.2AC1");
        due(x.knows(0, 0), 0);
    }
}
