/** Promises 20 to 28: for each sentence that names a boundary a test of its own, at the boundary and on both sides of it. */
public final class StretchesBoundariesTest {
    private static final int UNKNOWN = -1, OUTSIDE = -2, STATE = -3, FULL = -4, NONE = -6;
    private static final int NONE_IS = 4096;
    private static final String ROW = "A-B1B-C1C-D1D-E1E-F1F-G1G-H1";
    private static final String APART = "A-B1A-C1A-D1A-E1A-F1A-G1A-H1B-C1B-D1B-E1B-F1B-G1";

    public static void main(String[] args) {
        Check.promises(StretchesBoundariesTest.class, 20, 28);
    }

    private static void due(long got, long want) {
        Check.due(got, want);
    }

    private static SpeakTubes houseOf(String text) {
        return Check.houseOf(text);
    }

    // ---- 20: tried

    static void promise20TriedNinetyNine() {
        SpeakTubes x = houseOf("A-B1B-C1");
        for (int n = 1; n <= 98; n++) {
            due(x.tried(0, 1, true), 2);
        }
        due(x.told(5), 98);
        due(x.tried(0, 1, true), 2);
        due(x.told(5), 99);
        due(x.tried(0, 1, true), FULL);
        due(x.tried(1, 2, false), FULL);
        due(x.told(5), 99);
        due(x.stopped(0), NONE_IS + 2);
        due(x.forget(), 99);
        due(x.tried(1, 2, false), 1);
    }

    static void promise20TriedHeardOrNot() {
        SpeakTubes x = houseOf("A-B1B-C1C-D1");
        due(x.tried(0, 2, true), 2);
        due(x.stopped(0), NONE_IS + 4);
        x.forget();
        due(x.tried(0, 2, false), 2);
        due(x.stopped(0), 3);
    }

    static void promise20TriedTillNoneIsLeft() {
        SpeakTubes x = houseOf("A-B1");
        due(x.tried(0, 1, false), 1);
        due(x.stopped(0), 1);
        due(x.tried(0, 1, true), 0);
        due(x.tried(0, 1, false), 0);
        due(x.tried(0, 1, true), 0);
        due(x.told(5), 4);
        x = houseOf("A-B1");
        due(x.tried(0, 1, true), 1);
        due(x.stopped(0), NONE_IS);
        due(x.tried(0, 1, false), 0);
    }

    static void promise20TriedOfTwelveTubes() {
        SpeakTubes x = houseOf(APART);
        due(x.tried(0, 1, true), 12);
        due(x.stopped(0), 8191 - 1);
        due(x.tried(1, 6, true), 11);
        due(x.stopped(0), 8191 - 1 - 2048);
        due(x.tried(1, 6, false), 0);
    }

    static void promise20TriedRooms() {
        SpeakTubes x = houseOf("A-H1");
        due(x.tried(-1, 7, true), UNKNOWN);
        due(x.tried(8, 7, true), UNKNOWN);
        due(x.tried(0, -1, true), UNKNOWN);
        due(x.tried(0, 8, true), UNKNOWN);
        for (int v : Check.WILD) {
            due(x.tried(v, 7, true), UNKNOWN);
            due(x.tried(0, v, false), UNKNOWN);
        }
        due(x.told(5), 0);
        due(x.tried(0, 7, true), 1);
        due(x.tried(7, 0, true), 1);
    }

    static void promise20TriedBothAreOne() {
        SpeakTubes x = houseOf("A-H1");
        for (int room = 0; room < 8; room++) {
            due(x.tried(room, room, false), UNKNOWN);
        }
        due(x.told(5), 0);
        due(x.stopped(0), NONE_IS + 1);
    }

    static void promise20TriedWithoutAWay() {
        SpeakTubes x = houseOf("A>B8CxD1");
        due(x.tried(1, 0, true), STATE);
        due(x.tried(2, 3, true), STATE);
        due(x.tried(0, 2, false), STATE);
        x.set(0, 7);
        due(x.tried(0, 1, true), STATE);
        due(x.told(5), 0);
        x.set(0, 8);
        due(x.tried(0, 1, true), 1);
    }

    static void promise20TriedTheFirstRefusalThatFits() {
        SpeakTubes x = houseOf("A-B1");
        for (int n = 1; n <= 99; n++) {
            x.tried(0, 1, true);
        }
        due(x.tried(2, 2, true), UNKNOWN);
        due(x.tried(0, 8, true), UNKNOWN);
        due(x.tried(0, 2, true), STATE);
        due(x.tried(0, 1, true), FULL);
    }

    static void promise20TriedByTheWayWhenItWasTold() {
        SpeakTubes x = houseOf("A-B1B-C9A-C1");
        due(x.tried(1, 2, false), 2);
        due(x.stopped(0), 1 + 4);
        x.set(0, 1);
        due(x.stopped(0), 1 + 4);
        due(x.tried(0, 1, false), 1);
        due(x.stopped(0), 1);
    }

    // ---- 21: forget

    static void promise21ForgetNoneOneAndNinetyNine() {
        SpeakTubes x = houseOf("A-B1B-C1");
        due(x.forget(), 0);
        x.tried(0, 1, false);
        due(x.forget(), 1);
        due(x.forget(), 0);
        for (int n = 1; n <= 99; n++) {
            x.tried(0, 1, true);
        }
        due(x.tried(0, 1, true), FULL);
        due(x.forget(), 99);
        due(x.told(5), 0);
    }

    static void promise21ForgetAllCanBeAgain() {
        SpeakTubes x = houseOf("A-B1BxC1C-D1");
        x.tried(0, 1, false);
        x.tried(0, 1, true);
        due(x.stopped(0), 0);
        due(x.forget(), 2);
        due(x.stopped(0), NONE_IS + 1 + 4);
    }

    static void promise21ForgetRefusedTriesWereNotTold() {
        SpeakTubes x = houseOf("A-B1");
        x.tried(0, 0, true);
        x.tried(0, 2, true);
        x.tried(0, 1, true);
        due(x.forget(), 1);
    }

    static void promise21ForgetLeavesWaitingCalls() {
        SpeakTubes x = houseOf("A-B1");
        x.call(0, 1, 1, 1);
        x.tried(0, 1, true);
        x.say('A');
        due(x.forget(), 1);
        due(x.told(4), 1);
        due(x.told(1), 1);
        due(x.told(0), 1);
    }

    // ---- 22: stopped

    static void promise22StoppedWhat() {
        SpeakTubes x = houseOf("A-B1");
        due(x.stopped(-1), OUTSIDE);
        due(x.stopped(0), NONE_IS + 1);
        due(x.stopped(1), 1);
        due(x.stopped(2), 1);
        due(x.stopped(3), OUTSIDE);
        for (int what : Check.WILD) {
            due(x.stopped(what), OUTSIDE);
        }
    }

    static void promise22StoppedWithoutTubes() {
        SpeakTubes x = new SpeakTubes();
        due(x.stopped(0), NONE_IS);
        due(x.stopped(1), NONE);
        due(x.stopped(2), 0);
    }

    static void promise22StoppedCanBeOfTubesThatAreNotSealed() {
        due(houseOf("A-B1A>B1A~B1A=B1AxB1").stopped(0), NONE_IS + 15);
        due(houseOf("AxB1").stopped(0), NONE_IS);
        due(houseOf(APART).stopped(0), 8191);
        due(houseOf("A-B1A-B1A-B1A-B1A-B1A-B1A-B1A-B1A-B1A-B1A-B1AxB1").stopped(0), NONE_IS + 2047);
    }

    static void promise22StoppedOneIsLeft() {
        SpeakTubes x = houseOf("A-B1");
        x.tried(0, 1, true);
        due(x.stopped(0), NONE_IS);
        due(x.stopped(1), NONE);
        due(x.stopped(2), 0);
        x = houseOf("A-B1");
        x.tried(0, 1, false);
        due(x.stopped(0), 1);
        due(x.stopped(1), NONE);
        due(x.stopped(2), 0);
    }

    static void promise22StoppedNoneCanBe() {
        SpeakTubes x = houseOf("A-B1B-C1");
        x.tried(0, 2, true);
        x.tried(0, 2, false);
        due(x.stopped(0), 0);
        due(x.stopped(1), NONE);
        due(x.stopped(2), NONE);
    }

    static void promise22StoppedNextLeavesFewestInTheWorseCase() {
        due(houseOf("A-B1B-C1C-D1").stopped(1), 2);
        due(houseOf(ROW).stopped(1), 4);
        due(houseOf(APART).stopped(1), 17);
    }

    static void promise22StoppedNextTheLeastByTheRooms() {
        due(houseOf("A-B1").stopped(1), 1);
        due(houseOf("B>A1").stopped(1), 10);
        due(houseOf("H>A1").stopped(1), 70);
        due(houseOf("H>G1G>H1").stopped(1), 67);
        due(houseOf("H>G1F>E1").stopped(1), 54);
        due(houseOf("B-C1").stopped(1), 12);
    }

    static void promise22StoppedNextOfThoseThatAreLeft() {
        SpeakTubes x = houseOf("A-B1B-C1C-D1");
        due(x.tried(1, 3, true), 2);
        due(x.stopped(1), 1);
        x.forget();
        due(x.tried(0, 1, true), 3);
        due(x.stopped(1), 2);
        due(x.tried(0, 2, true), 2);
        due(x.stopped(1), 3);
    }

    static void promise22StoppedNoTryPartsThem() {
        SpeakTubes x = houseOf("A-B1A-B2");
        due(x.stopped(1), 1);
        due(x.tried(0, 1, true), 2);
        due(x.stopped(0), NONE_IS + 2);
        due(x.stopped(1), NONE);
        due(x.stopped(2), NONE);
    }

    static void promise22StoppedByWaysAsTheyAreNow() {
        SpeakTubes x = houseOf("A-B5B-C5");
        due(x.stopped(2), 2);
        x.set(0, 5);
        due(x.stopped(2), 2);
        due(x.stopped(1), 1);
        x.set(0, 4);
        due(x.stopped(1), NONE);
        due(x.stopped(2), NONE);
        due(x.stopped(0), NONE_IS + 3);
        x = houseOf(ROW);
        due(x.stopped(2), 3);
        x.set(0, 1);
        due(x.stopped(2), 7);
        x.set(0, 20);
        due(x.stopped(2), 3);
    }

    static void promise22StoppedLeavesNothingOfTheWaysBefore() {
        SpeakTubes x = houseOf("A-B5");
        due(x.stopped(1), 1);
        due(x.stopped(2), 1);
        x.set(0, 4);
        due(x.stopped(1), NONE);
        due(x.stopped(2), NONE);
        x.set(0, 5);
        due(x.stopped(2), 1);
    }

    static void promise22StoppedTriesOfFewAndOfMany() {
        due(houseOf("A-B1").stopped(2), 1);
        due(houseOf("A-B1B-C1").stopped(2), 2);
        due(houseOf("A-B1B-C1C-D1").stopped(2), 2);
        due(houseOf("A-B1B-C1C-D1D-E1").stopped(2), 3);
        due(houseOf(ROW).stopped(2), 3);
    }

    static void promise22StoppedTriesOneByOne() {
        SpeakTubes x = houseOf(APART);
        x.set(0, 1);
        due(x.stopped(1), 1);
        due(x.stopped(2), 12);
        x.tried(0, 1, true);
        due(x.stopped(1), 2);
        due(x.stopped(2), 11);
        x = houseOf(ROW);
        x.set(0, 1);
        due(x.stopped(2), 7);
    }

    static void promise22StoppedTriesOfSomeThatCanNotBeParted() {
        SpeakTubes x = houseOf("A-B1B-C1C-D1A-B9");
        due(x.stopped(2), NONE);
        due(x.tried(0, 3, false), 3);
        due(x.stopped(2), 2);
    }

    // ---- 23: far

    static void promise23FarWithoutAWay() {
        SpeakTubes x = houseOf("A>B5CxD1");
        due(x.far(0, 1), 5);
        due(x.far(1, 0), 99);
        due(x.far(2, 3), 99);
        due(x.far(0, 7), 99);
        due(new SpeakTubes().far(0, 7), 99);
    }

    static void promise23FarNoLongerThanCarries() {
        SpeakTubes x = houseOf("A-B9B-C9");
        x.set(0, 19);
        due(x.far(0, 2), 18);
        x.set(0, 18);
        due(x.far(0, 2), 18);
        x.set(0, 17);
        due(x.far(0, 2), 99);
        due(x.far(0, 1), 9);
    }

    static void promise23FarUpTo60() {
        SpeakTubes x = houseOf("A-B9B-C9C-D9D-E9E-F9F-G9G-H6");
        x.set(0, 60);
        due(x.far(0, 7), 60);
        x.set(0, 59);
        due(x.far(0, 7), 99);
    }

    static void promise23FarRooms() {
        SpeakTubes x = houseOf("A-H1");
        due(x.far(-1, 7), UNKNOWN);
        due(x.far(0, 7), 1);
        due(x.far(7, 0), 1);
        due(x.far(8, 7), UNKNOWN);
        due(x.far(0, -1), UNKNOWN);
        due(x.far(0, 8), UNKNOWN);
        for (int v : Check.WILD) {
            due(x.far(v, 7), UNKNOWN);
            due(x.far(0, v), UNKNOWN);
        }
    }

    static void promise23FarBothAreOne() {
        SpeakTubes x = houseOf("A-B1B-A1");
        for (int room = 0; room < 8; room++) {
            due(x.far(room, room), UNKNOWN);
        }
    }

    // ---- 24: further

    private static void further(SpeakTubes x, int length, int rooms, int then, int now) {
        due(x.further(length, 0), rooms);
        due(x.further(length, 1), then);
        due(x.further(length, 2), now);
    }

    static void promise24FurtherLength1To9() {
        SpeakTubes x = new SpeakTubes();
        due(x.further(-1, 0), OUTSIDE);
        due(x.further(0, 0), OUTSIDE);
        for (int length = 1; length <= 9; length++) {
            further(x, length, 1, 54 * 99 + 2 * length, 56 * 99);
        }
        due(x.further(10, 0), OUTSIDE);
        due(x.further(0, 2), OUTSIDE);
        due(x.further(10, 2), OUTSIDE);
    }

    static void promise24FurtherWhat() {
        SpeakTubes x = new SpeakTubes();
        due(x.further(1, -1), OUTSIDE);
        due(x.further(1, 0), 1);
        due(x.further(1, 2), 56 * 99);
        due(x.further(1, 3), OUTSIDE);
        for (int v : Check.WILD) {
            due(x.further(v, 0), OUTSIDE);
            due(x.further(1, v), OUTSIDE);
        }
    }

    static void promise24FurtherTheLeastByTheRooms() {
        SpeakTubes x = houseOf("A-B1");
        x.set(0, 1);
        further(x, 1, 2, 52 * 99 + 4, 54 * 99 + 2);
        x = houseOf("A-B1A-C1A-D1A-E1A-F1A-G1A-H1");
        x.set(0, 1);
        further(x, 1, 12, 40 * 99 + 16, 42 * 99 + 14);
    }

    static void promise24FurtherTheLastRooms() {
        SpeakTubes x = houseOf("A-G1B-G1C-G1D-H1E-H1F-H1");
        further(x, 1, 67, 36 + 80, 36 + 32 * 99);
        further(x, 9, 67, 36 + 80 + 32 * 8, 36 + 32 * 99);
    }

    static void promise24FurtherNoLongerThanCarries() {
        SpeakTubes x = new SpeakTubes();
        x.set(0, 6);
        further(x, 5, 1, 54 * 99 + 10, 56 * 99);
        x.set(0, 5);
        further(x, 5, 1, 54 * 99 + 10, 56 * 99);
        x.set(0, 4);
        further(x, 5, 1, 56 * 99, 56 * 99);
    }

    static void promise24FurtherWaysThatJustReach() {
        SpeakTubes x = houseOf("G-H2");
        x.set(0, 5);
        further(x, 3, 6, 50 * 99 + 2 * (2 + 3 + 5), 54 * 99 + 4);
        x.set(0, 4);
        further(x, 3, 1, 52 * 99 + 2 * (2 + 3), 54 * 99 + 4);
    }

    static void promise24FurtherBothWays() {
        SpeakTubes x = houseOf("A>B1");
        x.set(0, 1);
        further(x, 1, 2, 53 * 99 + 3, 55 * 99 + 1);
        x = houseOf("A-B1C-D1E-F1G-H1A-C1E-G1");
        due(x.further(1, 2), 2 * (2 * (1 + 1 + 1 + 2 + 2 + 3) + 16 * 99));
    }

    static void promise24FurtherOfTwelveTubes() {
        SpeakTubes x = houseOf("A-B1".repeat(12));
        further(x, 1, 2, 50 * 99 + 2 * (1 + 1 + 2), 54 * 99 + 2);
        due(x.told(1), 12);
    }

    static void promise24FurtherChangesNothing() {
        SpeakTubes x = houseOf("A-B1");
        due(x.further(1, 0), 2);
        due(x.told(1), 1);
        due(x.far(0, 2), 99);
        due(x.stopped(0), NONE_IS + 1);
        due(x.further(1, 0), 2);
    }

    // ---- 25: bridges

    static void promise25BridgesWithoutTubes() {
        due(new SpeakTubes().bridges(), 0);
        due(houseOf("AxB1").bridges(), 0);
    }

    static void promise25BridgesOfARow() {
        due(houseOf("A-B1").bridges(), 1);
        due(houseOf(ROW).bridges(), 127);
    }

    static void promise25BridgesTheTwelfthTube() {
        due(houseOf("A-B1".repeat(11) + "C-D1").bridges(), 2048);
        due(houseOf("A-B1" + "C-D1".repeat(11)).bridges(), 1);
    }

    static void promise25BridgesOneBesideAnother() {
        due(houseOf("A-B1A-B9").bridges(), 0);
        due(houseOf("A-B1A>B9").bridges(), 1);
        due(houseOf("A>B1B>A9").bridges(), 3);
        due(houseOf("A-B1AxB1").bridges(), 1);
    }

    static void promise25BridgesWhenTheWayAroundIsNoLongerThanCarries() {
        SpeakTubes x = houseOf("A-B5B-C5C-D5D-A5");
        x.set(0, 16);
        due(x.bridges(), 0);
        x.set(0, 15);
        due(x.bridges(), 0);
        x.set(0, 14);
        due(x.bridges(), 15);
        x.set(0, 5);
        due(x.bridges(), 15);
        x.set(0, 4);
        due(x.bridges(), 0);
    }

    static void promise25BridgesOfSomeTwoRooms() {
        due(houseOf("A>B1B>C1C>A1").bridges(), 7);
        due(houseOf("A>B1B>C1C>A1B>A1").bridges(), 7);
        due(houseOf("A-B1B-C1C-A1C-D1").bridges(), 8);
    }

    // ---- 26: image

    static void promise26ImageNumbers() {
        SpeakTubes x = houseOf("A-B1");
        due(x.image(-1), OUTSIDE);
        due(x.image(0), 1);
        due(x.restore(1), STATE);
        due(x.image(1), 1);
        due(x.image(2), OUTSIDE);
        for (int n : Check.WILD) {
            due(x.image(n), OUTSIDE);
        }
        due(x.restore(1), 1);
    }

    static void promise26ImageOfANewObject() {
        SpeakTubes x = new SpeakTubes();
        due(x.image(0), 1);
        Check.tell(x, "A-B1");
        x.house();
        due(x.restore(0), 1);
        due(x.told(1), 0);
        due(x.stopped(0), NONE_IS);
    }

    static void promise26ImagePutsOneInThePlaceOfTheOther() {
        SpeakTubes x = houseOf("A-B1");
        x.image(0);
        x.set(0, 7);
        due(x.image(0), 1);
        x.set(0, 9);
        due(x.restore(0), 1);
        due(x.told(2), 7);
    }

    static void promise26ImageLeavesAll() {
        SpeakTubes x = houseOf("A-B1");
        x.call(0, 1, 1, 1);
        x.tried(0, 1, true);
        x.say('A');
        due(x.image(1), 1);
        due(x.told(0), 1);
        due(x.told(1), 1);
        due(x.told(4), 1);
        due(x.told(5), 1);
    }

    // ---- 27: restore

    static void promise27RestoreNumbers() {
        SpeakTubes x = new SpeakTubes();
        x.image(0);
        x.image(1);
        due(x.restore(-1), OUTSIDE);
        due(x.restore(0), 1);
        due(x.restore(1), 1);
        due(x.restore(2), OUTSIDE);
        for (int n : Check.WILD) {
            due(x.restore(n), OUTSIDE);
        }
    }

    static void promise27RestoreOfOneThatWasNotKept() {
        SpeakTubes x = houseOf("A-B1");
        due(x.restore(0), STATE);
        due(x.restore(1), STATE);
        due(x.told(1), 1);
        x.image(1);
        due(x.restore(0), STATE);
        due(x.restore(1), 1);
        due(x.restore(2), OUTSIDE);
    }

    static void promise27RestoreLeavesThePad() {
        SpeakTubes x = houseOf("A-B1");
        Check.tell(x, "A-B1C");
        x.image(0);
        Check.tell(x, "AB1");
        due(x.restore(0), 1);
        due(x.told(0), 3);
        due(x.fault(1), NONE);
    }

    static void promise27RestoreTheHouse() {
        SpeakTubes x = houseOf(ROW);
        x.image(0);
        Check.tell(x, "C=D9");
        x.house();
        x.image(1);
        due(x.restore(0), 1);
        due(x.told(1), 7);
        due(x.tube(6, 1), 7);
        due(x.tube(0, 2), '-');
        due(x.way(0, 7, -1), 7);
        due(x.restore(1), 1);
        due(x.told(1), 1);
        due(x.tube(0, 0), 2);
        due(x.tube(0, 1), 3);
        due(x.tube(0, 2), '=');
        due(x.tube(0, 3), 9);
        due(x.tube(1, 0), UNKNOWN);
        due(x.way(0, 7, -1), NONE);
    }

    static void promise27RestoreCarriesStoppersAndMatters() {
        SpeakTubes x = new SpeakTubes();
        x.set(0, 60);
        x.set(1, 0);
        x.know(0, 255);
        x.know(7, 1);
        x.image(0);
        x.set(0, 1);
        x.set(1, 255);
        x.know(0, 0);
        x.know(7, 0);
        due(x.restore(0), 1);
        due(x.told(2), 60);
        due(x.told(3), 0);
        due(x.told(10), 255);
        due(x.told(17), 1);
    }

    static void promise27RestoreWaitingCalls() {
        SpeakTubes x = houseOf("A-B1C-D1");
        x.call(0, 1, 4, 7);
        x.call(0, 1, 3, 3);
        x.image(0);
        x.clear();
        x.call(2, 3, 9, 1);
        due(x.restore(0), 1);
        due(x.told(4), 2);
        due(x.soonest(-1), 7);
        due(x.byDue(0), 1);
        due(x.byDue(1), 0);
        due(x.call(2, 3, 9, 60), 2);
        due(x.soonest(-1), 9);
    }

    static void promise27RestoreTries() {
        SpeakTubes x = houseOf("A-B1B-C1");
        for (int n = 1; n <= 99; n++) {
            x.tried(0, 1, true);
        }
        x.image(0);
        x.forget();
        due(x.stopped(0), NONE_IS + 3);
        due(x.restore(0), 1);
        due(x.told(5), 99);
        due(x.stopped(0), NONE_IS + 2);
        due(x.tried(0, 1, true), FULL);
        due(x.forget(), 99);
        due(x.stopped(0), NONE_IS + 3);
    }

    static void promise27RestoreAgainAndAgain() {
        SpeakTubes x = houseOf("A-B1");
        x.image(0);
        due(x.call(0, 1, 1, 1), 0);
        x.tried(0, 1, false);
        x.know(0, 3);
        due(x.restore(0), 1);
        due(x.told(4), 0);
        x.set(0, 3);
        x.call(0, 1, 1, 1);
        due(x.restore(0), 1);
        due(x.told(4), 0);
        due(x.told(2), 20);
        due(x.told(10), 0);
        due(x.stopped(0), NONE_IS + 1);
    }

    // ---- 28: told

    static void promise28ToldWhat() {
        SpeakTubes x = houseOf("A-B1B-C1");
        x.say('A');
        x.say('B');
        x.say('C');
        x.set(0, 21);
        x.set(1, 22);
        for (int n = 0; n < 4; n++) {
            x.call(0, 1, 1, 1);
        }
        x.tried(0, 1, true);
        for (int room = 0; room < 8; room++) {
            x.know(room, 31 + room);
        }
        int[] want = {3, 2, 21, 22, 4, 1, OUTSIDE, OUTSIDE, OUTSIDE, OUTSIDE, 31, 32, 33, 34, 35, 36, 37, 38, OUTSIDE, OUTSIDE};
        due(x.told(-1), OUTSIDE);
        for (int what = 0; what < want.length; what++) {
            due(x.told(what), want[what]);
        }
        for (int what : Check.WILD) {
            due(x.told(what), OUTSIDE);
        }
    }

    static void promise28ToldAtTheMost() {
        SpeakTubes x = houseOf("A-B1".repeat(12));
        Check.tell(x, "?".repeat(60));
        x.set(0, 60);
        for (int n = 0; n < 6; n++) {
            x.call(0, 1, 1, 1);
        }
        for (int n = 0; n < 100; n++) {
            x.tried(0, 1, true);
        }
        int[] want = {60, 12, 60, 255, 5, 99};
        for (int what = 0; what < want.length; what++) {
            due(x.told(what), want[what]);
        }
    }

    static void promise28ToldInCall512() {
        SpeakTubes x = new SpeakTubes();
        for (int call = 1; call < 512; call++) {
            due(x.know(0, call % 256), (call - 1) % 256);
        }
        due(x.told(10), 255);
    }
}
