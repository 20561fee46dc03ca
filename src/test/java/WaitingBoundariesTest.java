/** Promises 15 to 19: for each sentence that names a boundary a test of its own, at the boundary and on both sides of it. */
public final class WaitingBoundariesTest {
    private static final int UNKNOWN = -1, OUTSIDE = -2, STATE = -3, FULL = -4, NONE = -6;
    private static final String ROW = "A-B1B-C1C-D1D-E1E-F1F-G1G-H1";

    public static void main(String[] args) {
        Check.promises(WaitingBoundariesTest.class, 15, 19);
    }

    private static void due(long got, long want) {
        Check.due(got, want);
    }

    private static SpeakTubes houseOf(String text) {
        return Check.houseOf(text);
    }

    /** Calls as a day tells them ("AB3" goes on for 3 minutes), all of them due at the minute 60. */
    private static SpeakTubes waiting(String house, String calls) {
        SpeakTubes x = houseOf(house);
        for (int i = 0; i < calls.length(); i += 3) {
            due(x.call(calls.charAt(i) - 'A', calls.charAt(i + 1) - 'A', calls.charAt(i + 2) - '0', 60), i / 3);
        }
        return x;
    }

    private static void soonest(SpeakTubes x, int minute, int... order) {
        due(x.soonest(-1), minute);
        for (int i = 0; i < order.length; i++) {
            due(x.soonest(i), order[i]);
        }
        due(x.soonest(order.length), NONE);
    }

    private static void byDue(SpeakTubes x, int... order) {
        due(x.byDue(-1), 1);
        for (int i = 0; i < order.length; i++) {
            due(x.byDue(i), order[i]);
        }
        due(x.byDue(order.length), NONE);
    }

    private static void noOrderByDue(SpeakTubes x) {
        for (int i = -2; i < 6; i++) {
            due(x.byDue(i), NONE);
        }
    }

    // ---- 15: call

    static void promise15CallFiveAtMost() {
        SpeakTubes x = houseOf("A-B1");
        for (int n = 0; n < 5; n++) {
            due(x.told(4), n);
            due(x.call(0, 1, 1, 1), n);
        }
        due(x.call(0, 1, 1, 1), FULL);
        due(x.told(4), 5);
        due(x.clear(), 5);
        due(x.call(0, 1, 1, 1), 0);
    }

    static void promise15CallMinutes1To9() {
        SpeakTubes x = houseOf("A-B1");
        due(x.call(0, 1, -1, 60), OUTSIDE);
        due(x.call(0, 1, 0, 60), OUTSIDE);
        due(x.call(0, 1, 1, 60), 0);
        soonest(x, 1, 0);
        due(x.call(0, 1, 9, 60), 1);
        soonest(x, 10, 0, 1);
        due(x.call(0, 1, 10, 60), OUTSIDE);
        due(x.told(4), 2);
    }

    static void promise15CallDue1To60() {
        SpeakTubes x = houseOf("A-B1C-D1");
        due(x.call(0, 1, 1, -1), OUTSIDE);
        due(x.call(0, 1, 1, 0), OUTSIDE);
        due(x.call(0, 1, 1, 1), 0);
        due(x.call(2, 3, 1, 60), 1);
        due(x.call(0, 1, 1, 61), OUTSIDE);
        byDue(x, 0, 1);
        due(x.told(4), 2);
    }

    static void promise15CallRooms() {
        SpeakTubes x = new SpeakTubes();
        due(x.call(-1, 7, 1, 1), UNKNOWN);
        due(x.call(0, 7, 1, 1), 0);
        due(x.call(7, 0, 1, 1), 1);
        due(x.call(8, 0, 1, 1), UNKNOWN);
        due(x.call(0, -1, 1, 1), UNKNOWN);
        due(x.call(0, 8, 1, 1), UNKNOWN);
        due(x.told(4), 2);
    }

    static void promise15CallBothAreOne() {
        SpeakTubes x = houseOf("A-B1");
        for (int room = 0; room < 8; room++) {
            due(x.call(room, room, 1, 1), UNKNOWN);
        }
        due(x.told(4), 0);
    }

    static void promise15CallWrapsNothingRound() {
        SpeakTubes x = houseOf("A-B1");
        for (int v : Check.WILD) {
            due(x.call(v, 1, 1, 1), UNKNOWN);
            due(x.call(0, v, 1, 1), UNKNOWN);
            due(x.call(0, 1, v, 1), OUTSIDE);
            due(x.call(0, 1, 1, v), OUTSIDE);
        }
        due(x.told(4), 0);
    }

    static void promise15CallTheFirstRefusalThatFits() {
        SpeakTubes x = waiting("A-B1", "AB1AB1AB1AB1");
        due(x.call(0, 0, 0, 0), UNKNOWN);
        due(x.call(0, 1, 0, 1), OUTSIDE);
        x.call(0, 1, 1, 1);
        due(x.call(0, 0, 0, 0), UNKNOWN);
        due(x.call(8, 1, 1, 1), UNKNOWN);
        due(x.call(0, 1, 0, 1), OUTSIDE);
        due(x.call(0, 1, 1, 61), OUTSIDE);
        due(x.call(0, 1, 1, 1), FULL);
    }

    static void promise15CallWithoutAWayWaitsToo() {
        SpeakTubes x = new SpeakTubes();
        due(x.call(0, 1, 1, 1), 0);
        due(x.told(4), 1);
    }

    // ---- 16: clear

    static void promise16ClearNoneOneAndFive() {
        SpeakTubes x = houseOf("A-B1");
        due(x.clear(), 0);
        due(x.call(0, 1, 1, 1), 0);
        due(x.clear(), 1);
        due(x.clear(), 0);
        for (int n = 0; n < 5; n++) {
            due(x.call(0, 1, 1, 1), n);
        }
        due(x.clear(), 5);
        due(x.told(4), 0);
    }

    static void promise16ClearThenAsWithoutCalls() {
        SpeakTubes x = waiting("A-B1", "AB3AC1");
        due(x.soonest(-1), NONE);
        due(x.clear(), 2);
        soonest(x, 0);
        byDue(x);
        due(x.locked(0, 0), NONE);
        due(x.locked(1, 0), OUTSIDE);
    }

    static void promise16ClearLeavesTries() {
        SpeakTubes x = waiting("A-B1", "AB3");
        x.tried(0, 1, false);
        x.say('A');
        due(x.clear(), 1);
        due(x.told(5), 1);
        due(x.told(1), 1);
        due(x.told(0), 1);
    }

    // ---- 17: soonest

    static void promise17SoonestWithoutCalls() {
        soonest(new SpeakTubes(), 0);
        soonest(houseOf(ROW), 0);
    }

    static void promise17SoonestOfOne() {
        soonest(waiting("A-B1", "AB1"), 1, 0);
        soonest(waiting("A-B1", "AB9"), 9, 0);
    }

    static void promise17SoonestI() {
        SpeakTubes x = waiting("A-B1", "AB1AB1AB1AB1AB1");
        due(x.soonest(-2), NONE);
        soonest(x, 5, 0, 1, 2, 3, 4);
        due(x.soonest(6), NONE);
        for (int i : Check.WILD) {
            due(x.soonest(i), NONE);
        }
    }

    static void promise17SoonestOfACallWithoutAWay() {
        SpeakTubes x = waiting("A-B1", "AB3");
        soonest(x, 3, 0);
        x.call(0, 2, 1, 60);
        for (int i = -2; i < 6; i++) {
            due(x.soonest(i), NONE);
        }
        x = waiting("A>B1", "BA1");
        due(x.soonest(-1), NONE);
    }

    static void promise17SoonestByWaysAsTheyAreNow() {
        SpeakTubes x = waiting("A-B5B-C3", "AC4");
        x.set(0, 8);
        soonest(x, 4, 0);
        x.set(0, 7);
        due(x.soonest(-1), NONE);
        x.set(0, 9);
        soonest(x, 4, 0);
    }

    static void promise17SoonestOneBehindTheOtherInARoom() {
        soonest(waiting("A-B1A-C1", "AB3AC4"), 7, 0, 1);
        soonest(waiting("A-B1A-C1", "BA3AC4"), 7, 0, 1);
        soonest(waiting("A-B1A-C1", "BA3CA4"), 7, 0, 1);
        soonest(waiting("A-B1C-D1", "AB3CD4"), 4, 0, 1);
    }

    static void promise17SoonestOneBehindTheOtherInATube() {
        soonest(waiting("A-B1B-C1C-D1", "AC3BD4"), 7, 0, 1);
        soonest(waiting("A-B1B-C1C-D1", "AC3DB4"), 7, 0, 1);
        soonest(waiting("A-B1B-C1C-D1D-E1", "AC3DE4"), 4, 0, 1);
    }

    static void promise17SoonestRoomsBetweenAreInNone() {
        soonest(waiting("A-B1B-C1B-D1B-E1", "AC3BD4"), 4, 0, 1);
        soonest(waiting("A-B1B-C1B-D1B-E1", "AC3DE4"), 4, 0, 1);
    }

    static void promise17SoonestGoesAroundNothing() {
        soonest(waiting("A-B1B-C1C-D1B-E9E-D1", "AC3BD4"), 7, 0, 1);
    }

    static void promise17SoonestADoubleTubeOfTwo() {
        String house = "A=B1C-A1D-A1E-A1F-B1G-B1H-B1";
        soonest(waiting(house, "CF3DG3"), 3, 0, 1);
        soonest(waiting(house, "CF3GD3"), 3, 0, 1);
        soonest(waiting(house, "CF3DG3EH2"), 5, 0, 1, 2);
        soonest(waiting(house, "CF3DG1EH2"), 3, 0, 1, 2);
        soonest(waiting(house, "CF3DG1EH3"), 4, 0, 1, 2);
    }

    static void promise17SoonestADoubleTubeOfTwoAtOneMinute() {
        String house = "A=B1C-A1D-A1E-A1F-B1G-B1H-B1";
        soonest(waiting(house, "CF2CG2EH4"), 4, 0, 1, 2);
        soonest(waiting(house, "CF2CG2EH4DF1"), 5, 0, 1, 2, 3);
    }

    static void promise17SoonestMayBeginAheadOfThoseAheadInTheOrder() {
        soonest(waiting(ROW, "AB5BC5CD5"), 10, 0, 1, 2);
    }

    static void promise17SoonestAGapThatIsJustLongEnough() {
        soonest(waiting(ROW, "AB3BC2CD3"), 5, 0, 1, 2);
        soonest(waiting(ROW, "AB3BC2CD4"), 6, 0, 2, 1);
    }

    static void promise17SoonestTheFirstOrderByNumbers() {
        soonest(waiting(ROW, "AB1CD1EF1GH1"), 1, 0, 1, 2, 3);
        soonest(waiting(ROW, "AB9AC9AD9AE9AF9"), 45, 0, 1, 2, 3, 4);
    }

    static void promise17SoonestAnOrderThatIsNotByNumbers() {
        soonest(waiting(ROW, "BC2AB3CD3"), 5, 0, 1, 2);
        soonest(waiting(ROW, "BC2AB2CD4DE3"), 7, 0, 1, 3, 2);
        soonest(waiting(ROW, "FD3GD1AF3CB5GH5"), 8, 1, 0, 3, 2, 4);
    }

    // ---- 18: byDue

    private static SpeakTubes twoDue(int first, int other) {
        SpeakTubes x = houseOf("A-B1");
        x.call(0, 1, 4, first);
        x.call(1, 0, 3, other);
        return x;
    }

    static void promise18ByDueWithoutCalls() {
        byDue(new SpeakTubes());
        byDue(houseOf(ROW));
    }

    static void promise18ByDueIsOverByItsMinute() {
        for (int due = 1; due <= 60; due++) {
            SpeakTubes x = houseOf("A-B1");
            x.call(0, 1, 4, due);
            if (due < 4) {
                noOrderByDue(x);
            } else {
                byDue(x, 0);
            }
        }
    }

    static void promise18ByDueOfTwo() {
        byDue(twoDue(4, 7), 0, 1);
        byDue(twoDue(7, 3), 1, 0);
        byDue(twoDue(7, 6), 1, 0);
        byDue(twoDue(7, 7), 0, 1);
        noOrderByDue(twoDue(6, 6));
        noOrderByDue(twoDue(4, 6));
        noOrderByDue(twoDue(6, 3));
        noOrderByDue(twoDue(3, 60));
        noOrderByDue(twoDue(60, 2));
    }

    static void promise18ByDueTheFirstOrderByNumbers() {
        byDue(waiting("A-B1", "AB1AB1AB1AB1AB1"), 0, 1, 2, 3, 4);
        SpeakTubes x = houseOf("A-B1");
        for (int due = 5; due >= 1; due--) {
            x.call(0, 1, 1, due);
        }
        byDue(x, 4, 3, 2, 1, 0);
    }

    static void promise18ByDueIsNotTheSoonest() {
        SpeakTubes x = waiting(ROW, "AB3BC2CD4");
        soonest(x, 6, 0, 2, 1);
        byDue(x, 0, 1, 2);
    }

    static void promise18ByDueACallMayBeginAheadOfThose() {
        SpeakTubes x = houseOf(ROW);
        x.call(0, 1, 5, 5);
        x.call(1, 2, 5, 10);
        x.call(2, 3, 5, 5);
        byDue(x, 0, 1, 2);
    }

    static void promise18ByDueOfACallWithoutAWay() {
        SpeakTubes x = houseOf("A-B1");
        x.call(0, 1, 4, 60);
        byDue(x, 0);
        x.call(0, 2, 1, 60);
        noOrderByDue(x);
    }

    static void promise18ByDueByWaysAsTheyAreNow() {
        SpeakTubes x = waiting("A-B5B-C3", "AC4");
        x.set(0, 8);
        byDue(x, 0);
        x.set(0, 7);
        noOrderByDue(x);
    }

    static void promise18ByDueI() {
        SpeakTubes x = waiting("A-B1", "AB1AB1AB1AB1AB1");
        due(x.byDue(-2), NONE);
        due(x.byDue(4), 4);
        due(x.byDue(5), NONE);
        for (int i : Check.WILD) {
            due(x.byDue(i), NONE);
        }
    }

    // ---- 19: locked

    static void promise19LockedOfNoCalls() {
        due(new SpeakTubes().locked(0, 0), NONE);
        due(new SpeakTubes().locked(0, 1), NONE);
        SpeakTubes x = waiting("A-B1B-C1", "AC1CA1");
        due(x.locked(0, 0), NONE);
        due(x.locked(3, 0), 1011000);
    }

    static void promise19LockedOfOneCall() {
        SpeakTubes x = waiting(ROW, "AH9");
        due(x.locked(1, 0), NONE);
        due(x.locked(1, 1), NONE);
    }

    static void promise19LockedSetOfWaitingCalls() {
        SpeakTubes x = houseOf("A-B1");
        for (int n = 0; n <= 5; n++) {
            due(x.locked(-1, 0), OUTSIDE);
            due(x.locked((1 << n) - 1, 0), NONE);
            due(x.locked(1 << n, 0), OUTSIDE);
            due(x.locked((1 << n) + 1, 0), OUTSIDE);
            x.call(0, 1, 1, 1);
        }
        for (int v : Check.WILD) {
            due(x.locked(v, 0), OUTSIDE);
        }
    }

    static void promise19LockedRule0Or1() {
        SpeakTubes x = waiting("A-B1B-C1", "AC1CA1");
        due(x.locked(3, -1), OUTSIDE);
        due(x.locked(3, 0), 1011000);
        due(x.locked(3, 1), NONE);
        due(x.locked(3, 2), OUTSIDE);
        for (int v : Check.WILD) {
            due(x.locked(3, v), OUTSIDE);
        }
    }

    static void promise19LockedRule1GoesByRisingNumbers() {
        SpeakTubes x = waiting("A>B1B>C1C>D1D>A1", "AC1BD1CA1DB1");
        due(x.locked(15, 0), 1011110);
        due(x.locked(15, 1), NONE);
        x = waiting("B-C1A-B1", "AC1CA1");
        due(x.locked(3, 0), 1011000);
        due(x.locked(3, 1), NONE);
    }

    static void promise19LockedOfACallWithoutAWay() {
        SpeakTubes x = waiting("A-B1B-C1", "AC1CA1AH1");
        due(x.locked(3, 0), 1011000);
        due(x.locked(4, 0), STATE);
        due(x.locked(7, 1), STATE);
        due(x.locked(0, 0), NONE);
        due(x.locked(4, 2), OUTSIDE);
        due(x.locked(8, 0), OUTSIDE);
    }

    static void promise19LockedByWaysAsTheyAreNow() {
        SpeakTubes x = waiting("A-B5B-C3", "AC1CA1");
        x.set(0, 8);
        due(x.locked(3, 0), 1011000);
        x.set(0, 7);
        due(x.locked(3, 0), STATE);
    }

    static void promise19LockedHowManyTubesEachHolds() {
        due(waiting("A-B1B-C1C-D1", "AD1DA1").locked(3, 0), 1012000);
        due(waiting("A-B1B-C1C-D1", "DA1AD1").locked(3, 0), 1012000);
        due(waiting("A-B1B-C1C-D1D-E1", "AD1EB1").locked(3, 0), 1022000);
        due(waiting("A-B1B-C1C-D1", "AB1DA1").locked(3, 0), NONE);
    }

    static void promise19LockedInTheLastTubes() {
        SpeakTubes x = waiting("G-H1".repeat(10) + "A-B1B-C1", "AC1CA1");
        due(x.locked(3, 0), 1011000);
        due(x.locked(3, 1), NONE);
        due(waiting("G-H1".repeat(10) + "A=B1B=C1", "AC1CA1").locked(3, 0), NONE);
    }

    static void promise19LockedOfSevenTubes() {
        SpeakTubes x = waiting(ROW, "AH1HA1");
        due(x.locked(3, 0), 1016000);
        due(x.locked(3, 1), NONE);
    }

    static void promise19LockedDigitsOfEachCall() {
        SpeakTubes x = waiting("A-B1B-C1", "AC1CA1AB1AC1CA1");
        due(x.locked(3, 0), 1011000);
        due(x.locked(8 + 2 + 1, 0), 1001010);
        due(x.locked(16 + 8, 0), 1000011);
        due(x.locked(16 + 1, 0), 1010001);
        due(x.locked(8 + 2, 0), 1001010);
        due(x.locked(31, 0), 1000011);
    }

    static void promise19LockedOneWhoseNextIsFreeIsNotLocked() {
        SpeakTubes x = waiting("A-B1B-C1C-D1", "AC1BD1");
        due(x.locked(3, 0), NONE);
        x = waiting("A>B1B>C1C>D1D>A1", "AC1CA1");
        due(x.locked(3, 0), NONE);
    }

    static void promise19LockedADoubleTubeThatTwoHold() {
        due(waiting("A=B1B=C1", "AC1CA1").locked(3, 0), NONE);
        due(waiting("A=B1B=C1", "AC1AC1CA1").locked(7, 0), NONE);
        SpeakTubes x = waiting("A=B1B=C1", "AC1AC1CA1CA1");
        due(x.locked(15, 0), 1011110);
        due(x.locked(7, 0), NONE);
        due(x.locked(15, 1), NONE);
    }

    static void promise19LockedADoubleTubeAndAPlainOne() {
        SpeakTubes x = waiting("A=B1B-C1", "AC1CA1AC1");
        due(x.locked(3, 0), NONE);
        due(x.locked(7, 0), 1011100);
        due(x.locked(7, 1), NONE);
    }
}
