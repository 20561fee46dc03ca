/** Promises 1 to 10: for each sentence that names a boundary a test of its own, at the boundary and on both sides of it. */
public final class HouseBoundariesTest {
    private static final int UNKNOWN = -1, OUTSIDE = -2, FULL = -4, NO = -5, NONE = -6;
    private static final String TUBE = "A-B1", ELEVEN = TUBE.repeat(11), TWELVE = TUBE.repeat(12);
    private static final String ROW = "A-B1B-C1C-D1D-E1E-F1F-G1G-H1";

    public static void main(String[] args) {
        Check.promises(HouseBoundariesTest.class, 1, 10);
    }

    private static void due(long got, long want) {
        Check.due(got, want);
    }

    private static SpeakTubes houseOf(String text) {
        return Check.houseOf(text);
    }

    private static void fault(int how, String text, int want) {
        SpeakTubes x = new SpeakTubes();
        Check.tell(x, text);
        Check.due("4 fault(" + how + ") of " + text, x.fault(how), want);
    }

    // ---- 1: A new object

    static void promise1NoTubes() {
        SpeakTubes x = new SpeakTubes();
        due(x.told(1), 0);
        due(x.tube(0, 0), UNKNOWN);
        due(x.way(0, 7, -1), NONE);
        due(x.bridges(), 0);
    }

    static void promise1PadIsEmpty() {
        SpeakTubes x = new SpeakTubes();
        due(x.told(0), 0);
        due(x.fault(0), NONE);
        due(x.fault(1), NONE);
        due(x.wipe(), 0);
    }

    static void promise1CarriesIs20AtFirst() {
        due(new SpeakTubes().told(2), 20);
        due(houseOf("A-B9B-C9C-D1").way(0, 3, -1), 19);
        due(houseOf("A-B9B-C9C-D2").way(0, 3, -1), 20);
        due(houseOf("A-B9B-C9C-D3").way(0, 3, -1), NONE);
    }

    static void promise1AllStoppersAreInAtFirst() {
        due(new SpeakTubes().told(3), 255);
        due(houseOf(ROW).heard(0, 7), 128);
        due(houseOf(ROW).heard(7, 0), 1);
    }

    static void promise1NoRoomKnowsAtFirst() {
        SpeakTubes x = new SpeakTubes();
        for (int room = 0; room < 8; room++) {
            due(x.told(10 + room), 0);
            due(x.knows(room, 0), 0);
            due(x.knows(room, 1), 0);
            due(x.know(room, 255), 0);
        }
    }

    static void promise1NoCallsAndTriesAndImagesAtFirst() {
        SpeakTubes x = new SpeakTubes();
        due(x.clear(), 0);
        due(x.forget(), 0);
        due(x.stopped(0), 4096);
        due(x.restore(0), -3);
        due(x.restore(1), -3);
    }

    static void promise1ObjectsShareNothing() {
        SpeakTubes x = houseOf(TWELVE);
        x.say('A');
        x.set(0, 1);
        x.set(1, 0);
        x.know(0, 255);
        x.call(0, 1, 1, 1);
        x.tried(0, 1, true);
        x.image(0);
        promise1NoTubes();
        promise1PadIsEmpty();
        promise1CarriesIs20AtFirst();
        promise1AllStoppersAreInAtFirst();
        promise1NoRoomKnowsAtFirst();
        promise1NoCallsAndTriesAndImagesAtFirst();
        due(x.told(1), 12);
    }

    // ---- 2: say

    static void promise2SayCodes33To126() {
        SpeakTubes x = new SpeakTubes();
        due(x.say(32), OUTSIDE);
        due(x.say(33), 1);
        due(x.say(34), 2);
        due(x.say(125), 3);
        due(x.say(126), 4);
        due(x.say(127), OUTSIDE);
        due(x.say(0), OUTSIDE);
        due(x.say(-1), OUTSIDE);
        due(x.told(0), 4);
    }

    static void promise2SayTakesEverySignBetween() {
        SpeakTubes x = new SpeakTubes();
        for (int sign = 33; sign <= 126; sign++) {
            due(x.say(sign), 1);
            due(x.wipe(), 1);
        }
    }

    static void promise2SayWrapsNoCodeRound() {
        SpeakTubes x = new SpeakTubes();
        for (int sign : Check.WILD) {
            due(x.say(sign), OUTSIDE);
        }
        due(x.told(0), 0);
    }

    static void promise2SaySixtySigns() {
        SpeakTubes x = new SpeakTubes();
        for (int n = 1; n <= 60; n++) {
            due(x.say('A'), n);
        }
        due(x.say('A'), FULL);
        due(x.say(126), FULL);
        due(x.told(0), 60);
    }

    static void promise2SayIsOutsideAheadOfFull() {
        SpeakTubes x = new SpeakTubes();
        Check.tell(x, "A".repeat(59));
        due(x.say(32), OUTSIDE);
        due(x.say(65), 60);
        due(x.say(32), OUTSIDE);
        due(x.say(127), OUTSIDE);
        due(x.say(65), FULL);
    }

    static void promise2SayKeepsTheSixtiethSign() {
        SpeakTubes x = new SpeakTubes();
        Check.tell(x, "AB1".repeat(19) + "AB");
        due(x.fault(1), 59);
        due(x.say('9'), 60);
        due(x.fault(1), NONE);
        due(x.say('x'), FULL);
        due(x.fault(1), NONE);
    }

    // ---- 3: wipe

    static void promise3WipeOfNone() {
        SpeakTubes x = new SpeakTubes();
        due(x.wipe(), 0);
        due(x.wipe(), 0);
    }

    static void promise3WipeOfOneAndOfSixty() {
        SpeakTubes x = new SpeakTubes();
        x.say('A');
        due(x.wipe(), 1);
        due(x.told(0), 0);
        Check.tell(x, "A".repeat(60));
        due(x.wipe(), 60);
        due(x.wipe(), 0);
        due(x.say('A'), 1);
    }

    static void promise3WipeLeavesNoOldSigns() {
        SpeakTubes x = new SpeakTubes();
        Check.tell(x, "A-B1");
        x.wipe();
        due(x.fault(0), NONE);
        x.say('A');
        due(x.fault(0), 1);
        due(x.house(), NO);
    }

    static void promise3WipeLeavesAllButTheSigns() {
        SpeakTubes x = houseOf("A-B1");
        x.call(0, 1, 1, 1);
        x.tried(0, 1, true);
        x.say('A');
        due(x.wipe(), 1);
        due(x.told(1), 1);
        due(x.told(4), 1);
        due(x.told(5), 1);
    }

    // ---- 4: fault, of a house

    static void promise4FaultOfHow() {
        SpeakTubes x = new SpeakTubes();
        Check.tell(x, "AB");
        due(x.fault(-1), OUTSIDE);
        due(x.fault(0), 1);
        due(x.fault(1), 2);
        due(x.fault(2), OUTSIDE);
        for (int how : Check.WILD) {
            due(x.fault(how), OUTSIDE);
        }
    }

    static void promise4FaultHouseWithoutSigns() {
        fault(0, "", NONE);
    }

    static void promise4FaultHouseFirstRoom() {
        for (char sign = 33; sign <= 126; sign++) {
            int want = sign == 'H' ? 2 : sign >= 'A' && sign < 'H' ? NONE : 0;
            fault(0, sign + "-H1", want);
            fault(0, ELEVEN + sign + "-H1", want == NONE ? NONE : 44 + want);
        }
    }

    static void promise4FaultHouseKind() {
        for (char sign = 33; sign <= 126; sign++) {
            boolean stands = sign == '-' || sign == '>' || sign == '~' || sign == '=' || sign == 'x';
            fault(0, "A" + sign + "B1", stands ? NONE : 1);
            fault(0, ELEVEN + "A" + sign + "B1", stands ? NONE : 45);
        }
    }

    static void promise4FaultHouseOtherRoom() {
        for (char sign = 33; sign <= 126; sign++) {
            fault(0, "A-" + sign + "1", sign >= 'B' && sign <= 'H' ? NONE : 2);
            fault(0, "H-" + sign + "1", sign >= 'A' && sign <= 'G' ? NONE : 2);
            fault(0, ELEVEN + "D-" + sign + "1", sign >= 'A' && sign <= 'H' && sign != 'D' ? NONE : 46);
        }
    }

    static void promise4FaultHouseLength() {
        for (char sign = 33; sign <= 126; sign++) {
            boolean stands = sign >= '1' && sign <= '9';
            fault(0, "A-B" + sign, stands ? NONE : 3);
            fault(0, ELEVEN + "A-B" + sign, stands ? NONE : 47);
        }
    }

    static void promise4FaultHouseMoreMustCome() {
        for (int tubes = 0; tubes < 12; tubes++) {
            String whole = TUBE.repeat(tubes);
            fault(0, whole, NONE);
            fault(0, whole + "A", 4 * tubes + 1);
            fault(0, whole + "A-", 4 * tubes + 2);
            fault(0, whole + "A-B", 4 * tubes + 3);
        }
    }

    static void promise4FaultHouseTwelveTubes() {
        fault(0, ELEVEN, NONE);
        fault(0, TWELVE, NONE);
        fault(0, TWELVE + "A", 48);
        fault(0, TWELVE + "A-", 48);
        fault(0, TWELVE + "A-B", 48);
        fault(0, TWELVE + TUBE, 48);
        fault(0, TWELVE + "?", 48);
        fault(0, TUBE.repeat(15), 48);
    }

    static void promise4FaultHouseOfTheFirstSign() {
        fault(0, "??B0", 0);
        fault(0, "A?A0", 1);
        fault(0, "A-A0", 2);
        fault(0, "A-B0?", 3);
        fault(0, "A-B1?-A", 4);
        fault(0, ELEVEN + "A-A1" + TUBE, 46);
        fault(0, "A-AA-B", 2);
    }

    static void promise4FaultHouseSeveralBetweenTheSame() {
        fault(0, "A-B1A-B1B-A1B>A1A>B1AxB9", NONE);
    }

    // ---- 4: fault, of a day

    static void promise4FaultDayWithoutSigns() {
        fault(1, "", NONE);
    }

    static void promise4FaultDayFirstSign() {
        for (char sign = 33; sign <= 126; sign++) {
            if (sign != '.') {
                int want = sign == 'H' ? 1 : sign >= 'A' && sign < 'H' ? NONE : 0;
                fault(1, sign + "H1", want);
                fault(1, "AB1.1" + sign + "H1", want == NONE ? NONE : 5 + want);
            }
        }
        fault(1, ".1", NONE);
        fault(1, ".H1", 1);
    }

    static void promise4FaultDayOtherRoom() {
        for (char sign = 33; sign <= 126; sign++) {
            fault(1, "A" + sign + "1", sign >= 'B' && sign <= 'H' ? NONE : 1);
            fault(1, ".9D" + sign + "1", sign >= 'A' && sign <= 'H' && sign != 'D' ? NONE : 3);
        }
    }

    static void promise4FaultDayMinutesOfACall() {
        for (char sign = 33; sign <= 126; sign++) {
            fault(1, "AB" + sign, sign >= '1' && sign <= '9' ? NONE : 2);
        }
    }

    static void promise4FaultDayMinutesThatGoBy() {
        for (char sign = 33; sign <= 126; sign++) {
            fault(1, "." + sign, sign >= '1' && sign <= '9' ? NONE : 1);
            fault(1, "AB1." + sign, sign >= '1' && sign <= '9' ? NONE : 4);
        }
    }

    static void promise4FaultDayMoreMustCome() {
        fault(1, "A", 1);
        fault(1, "AB", 2);
        fault(1, ".", 1);
        fault(1, "AB1A", 4);
        fault(1, "AB1AB", 5);
        fault(1, "AB1.", 4);
        fault(1, ".1".repeat(19) + ".", 39);
        fault(1, ".1".repeat(19) + "A", 39);
        fault(1, ".1".repeat(19) + "AB", 40);
        fault(1, "AB1".repeat(19) + "A", 58);
        fault(1, "AB1".repeat(19) + "AB", 59);
    }

    static void promise4FaultDayTwentyParts() {
        fault(1, ".1".repeat(19), NONE);
        fault(1, ".1".repeat(20), NONE);
        fault(1, ".1".repeat(20) + ".", 40);
        fault(1, ".1".repeat(21), 40);
        fault(1, ".1".repeat(30), 40);
        fault(1, ".1".repeat(20) + "AB1", 40);
        fault(1, ".1".repeat(19) + "AB1", NONE);
        fault(1, ".1".repeat(19) + "AB1A", 41);
        fault(1, "AB1".repeat(20), NONE);
        fault(1, "AB1".repeat(19) + ".1", NONE);
        fault(1, "AB1".repeat(19) + ".1A", 59);
        fault(1, "AB1".repeat(18) + ".1.1.1", 58);
    }

    static void promise4FaultDayOfTheFirstSign() {
        fault(1, "?A0", 0);
        fault(1, "AA0", 1);
        fault(1, "AB0?", 2);
        fault(1, ".0AA", 1);
        fault(1, "AB1..A", 4);
        fault(1, "AB1AB1BB1", 7);
    }

    static void promise4FaultAHouseIsNoDay() {
        fault(0, "A-B1", NONE);
        fault(1, "A-B1", 1);
        fault(0, "AB1", 1);
        fault(1, "AB1", NONE);
        fault(0, ".1", 0);
        fault(1, ".1", NONE);
    }

    // ---- 5: house

    static void promise5HouseAnswersTubes() {
        for (int tubes = 0; tubes <= 12; tubes++) {
            SpeakTubes x = houseOf(TUBE.repeat(tubes));
            due(x.told(1), tubes);
            due(x.tube(tubes - 1, 3), tubes == 0 ? UNKNOWN : 1);
            due(x.tube(tubes, 3), UNKNOWN);
        }
    }

    static void promise5HouseOfNoSigns() {
        SpeakTubes x = houseOf(TWELVE);
        due(x.house(), 0);
        due(x.told(1), 0);
        due(x.tube(0, 0), UNKNOWN);
        due(x.way(0, 1, -1), NONE);
        due(x.stopped(0), 4096);
        due(x.bridges(), 0);
    }

    static void promise5HouseEmptiesThePad() {
        SpeakTubes x = houseOf(TWELVE);
        due(x.told(0), 0);
        due(x.fault(0), NONE);
        due(x.wipe(), 0);
        due(x.say('A'), 1);
    }

    static void promise5HouseTakesThePlaceOfTheOldOne() {
        SpeakTubes x = houseOf(TWELVE);
        Check.tell(x, "C=D7");
        due(x.house(), 1);
        due(x.tube(0, 0), 2);
        due(x.tube(0, 2), '=');
        due(x.tube(1, 0), UNKNOWN);
        due(x.tube(11, 0), UNKNOWN);
        due(x.way(0, 1, -1), NONE);
        due(x.way(2, 3, -1), 7);
    }

    static void promise5HouseCallsAndTriesGo() {
        SpeakTubes x = houseOf("A-B1");
        x.call(0, 1, 1, 1);
        x.call(0, 7, 1, 1);
        x.tried(0, 1, false);
        Check.tell(x, "A-B1");
        due(x.house(), 1);
        due(x.told(4), 0);
        due(x.soonest(-1), 0);
        due(x.told(5), 0);
        due(x.stopped(0), 4097);
        due(x.call(0, 1, 1, 1), 0);
    }

    static void promise5HouseOfNoSignsCallsAndTriesGo() {
        SpeakTubes x = houseOf("A-B1");
        x.call(0, 1, 1, 1);
        x.tried(0, 1, false);
        due(x.house(), 0);
        due(x.told(4), 0);
        due(x.told(5), 0);
    }

    static void promise5HouseOthersStay() {
        SpeakTubes x = houseOf("A-B1");
        x.image(0);
        x.set(0, 60);
        x.set(1, 0);
        for (int room = 0; room < 8; room++) {
            x.know(room, 255 - room);
        }
        x.image(1);
        Check.tell(x, "C-D1D-E1");
        due(x.house(), 2);
        due(x.told(2), 60);
        due(x.told(3), 0);
        for (int room = 0; room < 8; room++) {
            due(x.told(10 + room), 255 - room);
        }
        due(x.restore(0), 1);
        due(x.told(1), 1);
        due(x.told(2), 20);
        due(x.restore(1), 1);
        due(x.told(2), 60);
    }

    static void promise5HouseWithAFault() {
        for (String text : new String[] {"A", "A-", "A-B", "A-B0", "?", TWELVE + "A", TUBE.repeat(13), "AB1"}) {
            SpeakTubes x = houseOf("C-D1");
            x.call(2, 3, 1, 1);
            x.tried(2, 3, false);
            Check.tell(x, text);
            due(x.house(), NO);
            due(x.told(0), text.length());
            due(x.told(1), 1);
            due(x.told(4), 1);
            due(x.told(5), 1);
            due(x.stopped(0), 1);
            due(x.tube(0, 0), 2);
        }
    }

    // ---- 6: tube

    static void promise6TubeOfEveryKind() {
        String kinds = "->~=x";
        SpeakTubes x = houseOf("A-B1A>B2A~B3A=B4AxB5");
        for (int t = 0; t < 5; t++) {
            due(x.tube(t, 0), 0);
            due(x.tube(t, 1), 1);
            due(x.tube(t, 2), kinds.charAt(t));
            due(x.tube(t, 3), 1 + t);
        }
    }

    static void promise6TubeRoomsAndLengthsAtTheirEnds() {
        SpeakTubes x = houseOf("A-H1H-A9");
        due(x.tube(0, 0), 0);
        due(x.tube(0, 1), 7);
        due(x.tube(0, 3), 1);
        due(x.tube(1, 0), 7);
        due(x.tube(1, 1), 0);
        due(x.tube(1, 3), 9);
    }

    static void promise6TubeNumbers() {
        SpeakTubes x = houseOf(ELEVEN + "C-D9");
        due(x.tube(-1, 0), UNKNOWN);
        due(x.tube(0, 3), 1);
        due(x.tube(10, 3), 1);
        due(x.tube(11, 3), 9);
        due(x.tube(12, 0), UNKNOWN);
        for (int tube : Check.WILD) {
            due(x.tube(tube, 0), UNKNOWN);
        }
    }

    static void promise6TubeWhat() {
        SpeakTubes x = houseOf("A-B5");
        due(x.tube(0, -1), OUTSIDE);
        due(x.tube(0, 0), 0);
        due(x.tube(0, 3), 5);
        due(x.tube(0, 4), OUTSIDE);
        for (int what : Check.WILD) {
            due(x.tube(0, what), OUTSIDE);
        }
    }

    static void promise6TubeIsUnknownAheadOfOutside() {
        SpeakTubes x = houseOf("A-B5");
        due(x.tube(1, 4), UNKNOWN);
        due(x.tube(-1, -1), UNKNOWN);
        due(x.tube(0, 4), OUTSIDE);
    }

    // ---- 7: set

    static void promise7SetCarries1To60() {
        SpeakTubes x = new SpeakTubes();
        due(x.set(0, 0), OUTSIDE);
        due(x.set(0, 1), 20);
        due(x.set(0, 2), 1);
        due(x.set(0, 59), 2);
        due(x.set(0, 60), 59);
        due(x.set(0, 61), OUTSIDE);
        due(x.told(2), 60);
    }

    static void promise7SetStoppers0To255() {
        SpeakTubes x = new SpeakTubes();
        due(x.set(1, -1), OUTSIDE);
        due(x.set(1, 0), 255);
        due(x.set(1, 1), 0);
        due(x.set(1, 254), 1);
        due(x.set(1, 255), 254);
        due(x.set(1, 256), OUTSIDE);
        due(x.told(3), 255);
    }

    static void promise7SetWhich() {
        SpeakTubes x = new SpeakTubes();
        due(x.set(-1, 5), OUTSIDE);
        due(x.set(2, 5), OUTSIDE);
        for (int v : Check.WILD) {
            due(x.set(v, 5), OUTSIDE);
            due(x.set(0, v), OUTSIDE);
            due(x.set(1, v), OUTSIDE);
        }
        due(x.told(2), 20);
        due(x.told(3), 255);
    }

    static void promise7SetOfOneLeavesTheOther() {
        SpeakTubes x = new SpeakTubes();
        due(x.set(0, 7), 20);
        due(x.told(3), 255);
        due(x.set(1, 9), 255);
        due(x.told(2), 7);
    }

    // ---- 8: way

    private static void way(SpeakTubes x, int from, int to, int length, int... tubes) {
        due(x.way(from, to, -1), length);
        due(x.way(from, to, -2), tubes.length);
        for (int i = 0; i < tubes.length; i++) {
            due(x.way(from, to, i), tubes[i]);
        }
        due(x.way(from, to, tubes.length), NONE);
    }

    private static void noWay(SpeakTubes x, int from, int to) {
        for (int i = -3; i < 3; i++) {
            due(x.way(from, to, i), NONE);
        }
    }

    static void promise8WayLengthsNoMoreThanCarries() {
        SpeakTubes x = houseOf("A-B5B-C3");
        x.set(0, 9);
        way(x, 0, 2, 8, 0, 1);
        x.set(0, 8);
        way(x, 0, 2, 8, 0, 1);
        x.set(0, 7);
        noWay(x, 0, 2);
        way(x, 0, 1, 5, 0);
    }

    static void promise8WayCarries1() {
        SpeakTubes x = houseOf("A-B1B-C1D-E2");
        x.set(0, 1);
        way(x, 0, 1, 1, 0);
        noWay(x, 0, 2);
        noWay(x, 3, 4);
    }

    static void promise8WayCarries60() {
        SpeakTubes x = houseOf("A-B9B-C9C-D9D-E9E-F9F-G9G-H6");
        x.set(0, 60);
        way(x, 0, 7, 60, 0, 1, 2, 3, 4, 5, 6);
        x = houseOf("A-B9B-C9C-D9D-E9E-F9F-G9G-H7");
        x.set(0, 60);
        noWay(x, 0, 7);
        way(x, 0, 6, 54, 0, 1, 2, 3, 4, 5);
    }

    static void promise8WayOneWayByTheirWay() {
        SpeakTubes x = houseOf("A>B1C>B1");
        way(x, 0, 1, 1, 0);
        noWay(x, 1, 0);
        way(x, 2, 1, 1, 1);
        noWay(x, 0, 2);
        way(houseOf("A>B1A-B9"), 1, 0, 9, 1);
    }

    static void promise8WaySealedNever() {
        SpeakTubes x = houseOf("AxB1A-C5C-B5");
        way(x, 0, 1, 10, 1, 2);
        way(x, 1, 0, 10, 2, 1);
        noWay(houseOf("AxB1"), 0, 1);
        noWay(houseOf("AxB1"), 1, 0);
    }

    static void promise8WayLeakyAndDoubleBothWays() {
        SpeakTubes x = houseOf("A~B1B=C1");
        way(x, 0, 2, 2, 0, 1);
        way(x, 2, 0, 2, 1, 0);
    }

    static void promise8WayShortestAheadOfFewest() {
        way(houseOf("A-C3A-B1B-C1"), 0, 2, 2, 1, 2);
        way(houseOf("A-C2A-B1B-C1"), 0, 2, 2, 0);
        way(houseOf("A-C1A-B1B-C1"), 0, 2, 1, 0);
    }

    static void promise8WayFewestAheadOfNumbers() {
        way(houseOf("A-B1B-C1A-C2"), 0, 2, 2, 2);
        way(houseOf("A-C1C-E1E-D1A-B1B-D2"), 0, 3, 3, 3, 4);
        way(houseOf("A-C1C-E1E-D1A-B1B-D3"), 0, 3, 3, 0, 1, 2);
    }

    static void promise8WayFirstByNumbers() {
        way(houseOf("A-B1A-B1"), 0, 1, 1, 0);
        way(houseOf("A-B2A-B1A-B1"), 0, 1, 1, 1);
        way(houseOf("A-C1C-D1A-B1B-D1"), 0, 3, 2, 0, 1);
        way(houseOf("A-B1B-C1B-C1A-B1"), 0, 2, 2, 0, 1);
    }

    static void promise8WayByTheFirstNumberAheadOfTheSecond() {
        SpeakTubes x = houseOf("B-D1A-C1A-B1C-D1");
        way(x, 0, 3, 2, 1, 3);
        way(x, 3, 0, 2, 0, 2);
    }

    static void promise8WayOfTheLastTube() {
        way(houseOf("A-B9".repeat(11) + "A-B1"), 0, 1, 1, 11);
        way(houseOf("AxB1".repeat(11) + "G>H9"), 6, 7, 9, 11);
    }

    static void promise8WayI() {
        SpeakTubes x = houseOf("A-B5B-C3");
        due(x.way(0, 2, -3), NONE);
        due(x.way(0, 2, -2), 2);
        due(x.way(0, 2, -1), 8);
        due(x.way(0, 2, 0), 0);
        due(x.way(0, 2, 1), 1);
        due(x.way(0, 2, 2), NONE);
        for (int i : Check.WILD) {
            due(x.way(0, 2, i), NONE);
        }
    }

    static void promise8WayIOfSevenTubes() {
        SpeakTubes x = houseOf(ROW);
        due(x.way(0, 7, 6), 6);
        due(x.way(0, 7, 7), NONE);
        due(x.way(0, 7, 8), NONE);
        due(x.way(7, 0, 6), 0);
    }

    static void promise8WayLeavesNothingOfTheOneBefore() {
        SpeakTubes x = houseOf(ROW);
        due(x.way(0, 7, 6), 6);
        due(x.way(6, 7, 1), NONE);
        due(x.way(6, 7, 6), NONE);
        x = houseOf("A-B1B-C1");
        due(x.way(0, 2, -2), 2);
        due(x.way(0, 3, -2), NONE);
    }

    static void promise8WayRooms() {
        SpeakTubes x = houseOf("A-H1");
        due(x.way(-1, 7, -1), UNKNOWN);
        due(x.way(0, 7, -1), 1);
        due(x.way(7, 0, -1), 1);
        due(x.way(0, 8, -1), UNKNOWN);
        due(x.way(8, 0, -1), UNKNOWN);
        due(x.way(7, -1, -1), UNKNOWN);
        for (int room : Check.WILD) {
            due(x.way(room, 0, -1), UNKNOWN);
            due(x.way(0, room, -1), UNKNOWN);
        }
    }

    static void promise8WayBothAreOne() {
        SpeakTubes x = houseOf("A-B1B-A1");
        for (int room = 0; room < 8; room++) {
            due(x.way(room, room, -1), UNKNOWN);
            due(x.way(room, room, 0), UNKNOWN);
        }
        due(x.way(8, 8, 0), UNKNOWN);
    }

    // ---- 9: loud

    static void promise9LoudAtItsBeginning() {
        SpeakTubes x = houseOf("A-B5B-C3");
        due(x.loud(0, 2, 0), 20);
        due(x.loud(2, 0, 2), 20);
        x.set(0, 60);
        due(x.loud(0, 2, 0), 60);
    }

    static void promise9LoudBetweenAndAtItsEnd() {
        SpeakTubes x = houseOf("A-B5B-C3");
        due(x.loud(0, 2, 1), 15);
        due(x.loud(0, 2, 2), 12);
        due(x.loud(2, 0, 1), 17);
        due(x.loud(2, 0, 0), 12);
    }

    static void promise9LoudNothingIsLeftAtItsEnd() {
        SpeakTubes x = houseOf("A-B5B-C3");
        x.set(0, 9);
        due(x.loud(0, 2, 2), 1);
        x.set(0, 8);
        due(x.loud(0, 2, 0), 8);
        due(x.loud(0, 2, 1), 3);
        due(x.loud(0, 2, 2), 0);
        x.set(0, 7);
        due(x.loud(0, 2, 0), NONE);
        due(x.loud(0, 2, 2), NONE);
    }

    static void promise9LoudNotOnTheWay() {
        SpeakTubes x = houseOf("A-B1B-C1A-D1D-C1C-E1");
        due(x.loud(0, 2, 1), 19);
        due(x.loud(0, 2, 3), NONE);
        due(x.loud(0, 2, 4), NONE);
        due(x.loud(0, 1, 2), NONE);
        due(x.loud(0, 7, 0), NONE);
        due(x.loud(0, 7, 7), NONE);
    }

    static void promise9LoudRooms() {
        SpeakTubes x = houseOf("A-H1");
        due(x.loud(0, 7, -1), UNKNOWN);
        due(x.loud(0, 7, 0), 20);
        due(x.loud(0, 7, 7), 19);
        due(x.loud(0, 7, 8), UNKNOWN);
        due(x.loud(-1, 7, 0), UNKNOWN);
        due(x.loud(8, 7, 0), UNKNOWN);
        due(x.loud(0, -1, 0), UNKNOWN);
        due(x.loud(0, 8, 0), UNKNOWN);
        due(x.loud(0, 1, 8), UNKNOWN);
        for (int room : Check.WILD) {
            due(x.loud(room, 7, 0), UNKNOWN);
            due(x.loud(0, room, 0), UNKNOWN);
            due(x.loud(0, 7, room), UNKNOWN);
        }
    }

    static void promise9LoudBothAreOne() {
        SpeakTubes x = houseOf("A-H1");
        due(x.loud(0, 0, 0), UNKNOWN);
        due(x.loud(7, 7, 0), UNKNOWN);
    }

    // ---- 10: heard

    static void promise10HeardWhereItGoes() {
        SpeakTubes x = houseOf(ROW);
        due(x.heard(0, 1), 2);
        due(x.heard(0, 7), 128);
        due(x.heard(7, 0), 1);
    }

    static void promise10HeardBetweenWhoseStopperIsOut() {
        SpeakTubes x = houseOf(ROW);
        for (int room = 1; room < 7; room++) {
            x.set(1, 255 - (1 << room));
            due(x.heard(0, 7), 128 + (1 << room));
            due(x.heard(7, 0), 1 + (1 << room));
        }
        x.set(1, 0);
        due(x.heard(0, 7), 254);
        due(x.heard(7, 0), 127);
        due(x.heard(0, 1), 2);
        due(x.heard(0, 2), 6);
    }

    static void promise10HeardInTheFirstAndTheLastRoomBetween() {
        SpeakTubes x = houseOf("B-A1A-H1H-C1");
        due(x.heard(1, 2), 4);
        x.set(1, 255 - 1);
        due(x.heard(1, 2), 4 + 1);
        x.set(1, 255 - 128);
        due(x.heard(1, 2), 4 + 128);
        x.set(1, 0);
        due(x.heard(1, 2), 4 + 1 + 128);
    }

    static void promise10HeardStoppersAtBothEndsDoNothing() {
        SpeakTubes x = houseOf(ROW);
        x.set(1, 255 - 1 - 128);
        due(x.heard(0, 7), 128);
        due(x.heard(7, 0), 1);
    }

    static void promise10HeardStoppersBesideTheWayDoNothing() {
        SpeakTubes x = houseOf("A-B1B-C1B-D1");
        x.set(1, 0);
        due(x.heard(0, 2), 6);
        due(x.heard(0, 1), 2);
    }

    static void promise10HeardInBothRoomsOfALeakyTube() {
        SpeakTubes x = houseOf("A-B1B~C1C-D1D-E1");
        due(x.heard(0, 4), 2 + 4 + 16);
        due(x.heard(4, 0), 2 + 4 + 1);
        due(x.heard(0, 2), 2 + 4);
        due(x.heard(2, 4), 16);
    }

    static void promise10HeardWhereOneSpeaksIfTheFirstIsLeaky() {
        SpeakTubes x = houseOf("A~B1B-C1C~D1");
        due(x.heard(0, 1), 1 + 2);
        due(x.heard(0, 2), 1 + 2 + 4);
        due(x.heard(1, 2), 4);
        due(x.heard(1, 3), 4 + 8);
        due(x.heard(1, 0), 1 + 2);
    }

    static void promise10HeardOfLeakyTubesThatItGoesThrough() {
        SpeakTubes x = houseOf("A-B1A~B1B~C1");
        due(x.heard(0, 1), 2);
        x = houseOf("A-B2A~B1");
        due(x.heard(0, 1), 3);
    }

    static void promise10HeardWithoutAWay() {
        SpeakTubes x = houseOf("A>B8");
        due(x.heard(0, 1), 2);
        due(x.heard(1, 0), NONE);
        due(x.heard(0, 2), NONE);
        x.set(0, 8);
        due(x.heard(0, 1), 2);
        x.set(0, 7);
        due(x.heard(0, 1), NONE);
    }

    static void promise10HeardRooms() {
        SpeakTubes x = houseOf("A-H1");
        due(x.heard(-1, 7), UNKNOWN);
        due(x.heard(0, 7), 128);
        due(x.heard(8, 7), UNKNOWN);
        due(x.heard(0, -1), UNKNOWN);
        due(x.heard(0, 8), UNKNOWN);
        due(x.heard(0, 0), UNKNOWN);
        due(x.heard(7, 7), UNKNOWN);
        for (int room : Check.WILD) {
            due(x.heard(room, 0), UNKNOWN);
            due(x.heard(0, room), UNKNOWN);
        }
    }
}
