import java.util.function.ToIntFunction;

/**
 * Calls that are refused change nothing, nor do questions: of two objects that were made alike one is asked,
 * and then both answer alike whatever a later call can tell, by the images and the pad too.
 */
public final class RefusalsTest {
    private static final int UNKNOWN = -1, OUTSIDE = -2, STATE = -3, FULL = -4, NO = -5, NONE = -6;
    private static final int[] NO_ROOMS = {-1, 8, Integer.MIN_VALUE, 65536, Integer.MAX_VALUE};
    private static final String HOUSE = "A-B2B=C3C~D1D>E4A-E9ExF1F-G1F-A2";
    private static final String DAY = "AC3.1DE2.2BA1";

    public static void main(String[] args) {
        Check.promises(RefusalsTest.class, 2, 28);
    }

    /** The state of an object that a test begins with. */
    private enum Made {
        NEW, WITH_A_DAY, WITH_A_FAULT, WITH_A_CALL_THAT_CAN_NOT_BEGIN, WITH_A_CALL_WITHOUT_A_WAY, FULL_OF_ALL;

        SpeakTubes object() {
            SpeakTubes x = new SpeakTubes();
            if (this == NEW) {
                return x;
            }
            furnish(x);
            if (this == WITH_A_DAY) {
                Check.tell(x, DAY);
            } else if (this == WITH_A_FAULT) {
                Check.tell(x, "C-D5A-B");
            } else if (this == WITH_A_CALL_THAT_CAN_NOT_BEGIN) {
                Check.tell(x, DAY + "EA1");
            } else if (this == WITH_A_CALL_WITHOUT_A_WAY) {
                x.call(0, 7, 1, 60);
            } else {
                fill(x);
            }
            return x;
        }
    }

    /** A house in which each call has something to answer; one image of an emptier state is kept. */
    private static void furnish(SpeakTubes x) {
        Check.tell(x, "G-H3");
        x.house();
        x.set(0, 50);
        x.know(7, 170);
        x.call(6, 7, 5, 9);
        x.tried(6, 7, false);
        x.image(1);
        Check.tell(x, HOUSE);
        x.house();
        x.set(0, 15);
        x.set(1, 182);
        x.know(0, 1);
        x.know(3, 72);
        x.call(0, 3, 4, 9);
        x.call(3, 0, 3, 3);
        x.tried(0, 2, true);
        x.tried(0, 6, false);
    }

    private static void fill(SpeakTubes x) {
        for (int n = 0; n < 3; n++) {
            x.call(0, 3, 1, 60);
        }
        for (int n = 0; n < 97; n++) {
            x.tried(0, 6, false);
        }
        Check.tell(x, DAY + ".9".repeat(14) + "ABCDEF1BC2CD3DE4EA2");
    }

    private static void asked(Made made, ToIntFunction<SpeakTubes> call, int want) {
        SpeakTubes x = made.object();
        Check.due(call.applyAsInt(x), want);
        Check.same("what it can tell behind a call", tellings(x), tellings(made.object()));
    }

    /** All that an object can tell; it is another one behind that. */
    private static String tellings(SpeakTubes x) {
        StringBuilder text = new StringBuilder("now");
        addState(x, text);
        addPad(x, text);
        text.append(" call ").append(x.call(0, 1, 1, 1)).append(" tried ").append(x.tried(0, 1, true));
        for (int n = 0; n < 2; n++) {
            text.append(" image ").append(n).append(' ').append(x.restore(n));
            addState(x, text);
        }
        text.append(" house ").append(x.house());
        addState(x, text);
        text.append(" say ").append(x.say('A')).append(" wipe ").append(x.wipe());
        return text.toString();
    }

    private static void addState(SpeakTubes x, StringBuilder text) {
        for (int what = 0; what < 18; what += what == 5 ? 5 : 1) {
            text.append(' ').append(x.told(what));
        }
        text.append(" tubes");
        for (int t = 0; t < x.told(1); t++) {
            for (int what = 0; what < 4; what++) {
                text.append(' ').append(x.tube(t, what));
            }
        }
        text.append(" orders ").append(x.soonest(-1)).append(' ').append(x.byDue(-1));
        for (int i = 0; i < x.told(4); i++) {
            text.append(' ').append(x.soonest(i)).append(' ').append(x.byDue(i));
        }
        text.append(" stopped ").append(x.stopped(0));
    }

    private static void addPad(SpeakTubes x, StringBuilder text) {
        text.append(" pad ").append(x.fault(0)).append(' ').append(x.fault(1)).append(' ').append(x.judge(0));
        text.append(' ').append(x.judge(1)).append(' ').append(x.day(0)).append(' ').append(x.day(2));
        for (int room = 0; room < 8; room++) {
            text.append(' ').append(x.knows(room, 0));
        }
    }

    // ---- the house

    static void promise2Say() {
        for (int sign : new int[] {32, 127, -1, 0, 65536 + 65, Integer.MIN_VALUE, Integer.MAX_VALUE}) {
            asked(Made.NEW, x -> x.say(sign), OUTSIDE);
            asked(Made.WITH_A_DAY, x -> x.say(sign), OUTSIDE);
            asked(Made.FULL_OF_ALL, x -> x.say(sign), OUTSIDE);
        }
        asked(Made.FULL_OF_ALL, x -> x.say('A'), FULL);
    }

    static void promise3Wipe() {
        asked(Made.NEW, SpeakTubes::wipe, 0);
    }

    static void promise4Fault() {
        asked(Made.WITH_A_DAY, x -> x.fault(-1), OUTSIDE);
        asked(Made.WITH_A_DAY, x -> x.fault(2), OUTSIDE);
        asked(Made.WITH_A_DAY, x -> x.fault(0), 1);
        asked(Made.WITH_A_DAY, x -> x.fault(1), NONE);
        asked(Made.WITH_A_FAULT, x -> x.fault(0), 7);
        asked(Made.WITH_A_FAULT, x -> x.fault(1), 1);
    }

    static void promise5House() {
        asked(Made.WITH_A_FAULT, SpeakTubes::house, NO);
        asked(Made.WITH_A_DAY, SpeakTubes::house, NO);
        asked(Made.FULL_OF_ALL, SpeakTubes::house, NO);
        asked(Made.NEW, SpeakTubes::house, 0);
    }

    static void promise6Tube() {
        asked(Made.NEW, x -> x.tube(0, 0), UNKNOWN);
        asked(Made.WITH_A_DAY, x -> x.tube(-1, 0), UNKNOWN);
        asked(Made.WITH_A_DAY, x -> x.tube(8, 4), UNKNOWN);
        asked(Made.WITH_A_DAY, x -> x.tube(7, 4), OUTSIDE);
        asked(Made.WITH_A_DAY, x -> x.tube(7, -1), OUTSIDE);
        asked(Made.WITH_A_DAY, x -> x.tube(7, 3), 2);
    }

    static void promise7Set() {
        asked(Made.WITH_A_DAY, x -> x.set(0, 0), OUTSIDE);
        asked(Made.WITH_A_DAY, x -> x.set(0, 61), OUTSIDE);
        asked(Made.WITH_A_DAY, x -> x.set(1, -1), OUTSIDE);
        asked(Made.WITH_A_DAY, x -> x.set(1, 256), OUTSIDE);
        asked(Made.WITH_A_DAY, x -> x.set(-1, 1), OUTSIDE);
        asked(Made.WITH_A_DAY, x -> x.set(2, 1), OUTSIDE);
        asked(Made.WITH_A_DAY, x -> x.set(0, 15), 15);
    }

    static void promise8Way() {
        for (int room : NO_ROOMS) {
            asked(Made.WITH_A_DAY, x -> x.way(room, 0, -1), UNKNOWN);
            asked(Made.WITH_A_DAY, x -> x.way(0, room, -1), UNKNOWN);
        }
        asked(Made.WITH_A_DAY, x -> x.way(4, 4, -1), UNKNOWN);
        asked(Made.WITH_A_DAY, x -> x.way(0, 7, -1), NONE);
        asked(Made.WITH_A_DAY, x -> x.way(0, 3, -1), 6);
        asked(Made.WITH_A_DAY, x -> x.way(0, 3, 3), NONE);
    }

    static void promise9Loud() {
        for (int room : NO_ROOMS) {
            asked(Made.WITH_A_DAY, x -> x.loud(room, 0, 0), UNKNOWN);
            asked(Made.WITH_A_DAY, x -> x.loud(0, room, 0), UNKNOWN);
            asked(Made.WITH_A_DAY, x -> x.loud(0, 1, room), UNKNOWN);
        }
        asked(Made.WITH_A_DAY, x -> x.loud(4, 4, 4), UNKNOWN);
        asked(Made.WITH_A_DAY, x -> x.loud(0, 3, 4), NONE);
        asked(Made.WITH_A_DAY, x -> x.loud(0, 3, 3), 9);
    }

    static void promise10Heard() {
        for (int room : NO_ROOMS) {
            asked(Made.WITH_A_DAY, x -> x.heard(room, 0), UNKNOWN);
            asked(Made.WITH_A_DAY, x -> x.heard(0, room), UNKNOWN);
        }
        asked(Made.WITH_A_DAY, x -> x.heard(4, 4), UNKNOWN);
        asked(Made.WITH_A_DAY, x -> x.heard(0, 7), NONE);
        asked(Made.WITH_A_DAY, x -> x.heard(0, 3), 12);
    }

    // ---- days

    static void promise11Judge() {
        asked(Made.WITH_A_DAY, x -> x.judge(-1), OUTSIDE);
        asked(Made.WITH_A_DAY, x -> x.judge(2), OUTSIDE);
        asked(Made.WITH_A_FAULT, x -> x.judge(2), OUTSIDE);
        asked(Made.WITH_A_FAULT, x -> x.judge(0), NO);
        asked(Made.FULL_OF_ALL, x -> x.judge(1), NO);
        asked(Made.WITH_A_DAY, x -> x.judge(0), NONE);
        asked(Made.WITH_A_CALL_THAT_CAN_NOT_BEGIN, x -> x.judge(0), 3);
        asked(Made.WITH_A_CALL_THAT_CAN_NOT_BEGIN, x -> x.judge(1), 3);
    }

    static void promise12Day() {
        for (int what : new int[] {-1, 3}) {
            asked(Made.WITH_A_DAY, x -> x.day(what), OUTSIDE);
            asked(Made.WITH_A_FAULT, x -> x.day(what), OUTSIDE);
            asked(Made.WITH_A_CALL_THAT_CAN_NOT_BEGIN, x -> x.day(what), OUTSIDE);
        }
        asked(Made.WITH_A_FAULT, x -> x.day(0), NO);
        asked(Made.WITH_A_CALL_THAT_CAN_NOT_BEGIN, x -> x.day(0), STATE);
        asked(Made.WITH_A_DAY, x -> x.day(0), 4);
    }

    static void promise13Know() {
        for (int room : NO_ROOMS) {
            asked(Made.WITH_A_DAY, x -> x.know(room, 5), UNKNOWN);
            asked(Made.WITH_A_DAY, x -> x.know(room, 256), UNKNOWN);
        }
        asked(Made.WITH_A_DAY, x -> x.know(0, -1), OUTSIDE);
        asked(Made.WITH_A_DAY, x -> x.know(7, 256), OUTSIDE);
        asked(Made.WITH_A_DAY, x -> x.know(3, 72), 72);
    }

    static void promise14Knows() {
        for (int room : NO_ROOMS) {
            asked(Made.WITH_A_DAY, x -> x.knows(room, 0), UNKNOWN);
            asked(Made.WITH_A_FAULT, x -> x.knows(room, 2), UNKNOWN);
        }
        asked(Made.WITH_A_DAY, x -> x.knows(0, -1), OUTSIDE);
        asked(Made.WITH_A_FAULT, x -> x.knows(0, 2), OUTSIDE);
        asked(Made.WITH_A_CALL_THAT_CAN_NOT_BEGIN, x -> x.knows(0, 2), OUTSIDE);
        asked(Made.WITH_A_FAULT, x -> x.knows(0, 1), NO);
        asked(Made.WITH_A_CALL_THAT_CAN_NOT_BEGIN, x -> x.knows(0, 0), STATE);
        asked(Made.WITH_A_DAY, x -> x.knows(2, 0), 1);
        asked(Made.WITH_A_DAY, x -> x.knows(4, 1), 72);
    }

    // ---- calls that wait

    static void promise15Call() {
        for (int room : NO_ROOMS) {
            asked(Made.WITH_A_DAY, x -> x.call(room, 1, 1, 1), UNKNOWN);
            asked(Made.WITH_A_DAY, x -> x.call(1, room, 0, 0), UNKNOWN);
            asked(Made.FULL_OF_ALL, x -> x.call(1, room, 1, 1), UNKNOWN);
        }
        for (Made made : new Made[] {Made.WITH_A_DAY, Made.FULL_OF_ALL}) {
            asked(made, x -> x.call(2, 2, 1, 1), UNKNOWN);
            asked(made, x -> x.call(0, 1, 0, 1), OUTSIDE);
            asked(made, x -> x.call(0, 1, 10, 1), OUTSIDE);
            asked(made, x -> x.call(0, 1, 1, 0), OUTSIDE);
            asked(made, x -> x.call(0, 1, 1, 61), OUTSIDE);
        }
        asked(Made.FULL_OF_ALL, x -> x.call(0, 1, 1, 1), FULL);
    }

    static void promise16Clear() {
        asked(Made.NEW, SpeakTubes::clear, 0);
    }

    static void promise17Soonest() {
        asked(Made.NEW, x -> x.soonest(-1), 0);
        asked(Made.NEW, x -> x.soonest(0), NONE);
        asked(Made.WITH_A_CALL_WITHOUT_A_WAY, x -> x.soonest(-1), NONE);
        asked(Made.WITH_A_DAY, x -> x.soonest(-1), 7);
        asked(Made.FULL_OF_ALL, x -> x.soonest(4), 4);
        asked(Made.FULL_OF_ALL, x -> x.soonest(5), NONE);
    }

    static void promise18ByDue() {
        asked(Made.NEW, x -> x.byDue(-1), 1);
        asked(Made.NEW, x -> x.byDue(0), NONE);
        asked(Made.WITH_A_CALL_WITHOUT_A_WAY, x -> x.byDue(-1), NONE);
        asked(Made.WITH_A_DAY, x -> x.byDue(-1), 1);
        asked(Made.FULL_OF_ALL, x -> x.byDue(0), 1);
        asked(Made.FULL_OF_ALL, x -> x.byDue(5), NONE);
    }

    static void promise19Locked() {
        asked(Made.NEW, x -> x.locked(1, 0), OUTSIDE);
        asked(Made.WITH_A_DAY, x -> x.locked(4, 0), OUTSIDE);
        asked(Made.WITH_A_DAY, x -> x.locked(-1, 0), OUTSIDE);
        asked(Made.WITH_A_DAY, x -> x.locked(3, -1), OUTSIDE);
        asked(Made.WITH_A_DAY, x -> x.locked(3, 2), OUTSIDE);
        asked(Made.FULL_OF_ALL, x -> x.locked(32, 0), OUTSIDE);
        asked(Made.WITH_A_DAY, x -> x.locked(3, 0), 1022000);
        asked(Made.WITH_A_DAY, x -> x.locked(3, 1), NONE);
        asked(Made.WITH_A_CALL_WITHOUT_A_WAY, x -> x.locked(4, 0), STATE);
        asked(Made.WITH_A_CALL_WITHOUT_A_WAY, x -> x.locked(8, 0), OUTSIDE);
    }

    // ---- stretches that are stopped, further ones

    static void promise20Tried() {
        for (Made made : new Made[] {Made.WITH_A_DAY, Made.FULL_OF_ALL}) {
            for (int room : NO_ROOMS) {
                asked(made, x -> x.tried(room, 0, true), UNKNOWN);
                asked(made, x -> x.tried(0, room, false), UNKNOWN);
            }
            asked(made, x -> x.tried(3, 3, false), UNKNOWN);
            asked(made, x -> x.tried(7, 5, false), STATE);
            asked(made, x -> x.tried(0, 7, true), STATE);
        }
        asked(Made.FULL_OF_ALL, x -> x.tried(0, 3, true), FULL);
        asked(Made.FULL_OF_ALL, x -> x.tried(0, 3, false), FULL);
    }

    static void promise21Forget() {
        asked(Made.NEW, SpeakTubes::forget, 0);
    }

    static void promise22Stopped() {
        asked(Made.WITH_A_DAY, x -> x.stopped(-1), OUTSIDE);
        asked(Made.WITH_A_DAY, x -> x.stopped(3), OUTSIDE);
        asked(Made.NEW, x -> x.stopped(1), NONE);
        asked(Made.NEW, x -> x.stopped(2), 0);
        asked(Made.WITH_A_DAY, x -> x.stopped(0), 64 + 128);
        asked(Made.WITH_A_DAY, x -> x.stopped(1), 5);
        asked(Made.WITH_A_DAY, x -> x.stopped(2), 1);
    }

    static void promise23Far() {
        for (int room : NO_ROOMS) {
            asked(Made.WITH_A_DAY, x -> x.far(room, 0), UNKNOWN);
            asked(Made.WITH_A_DAY, x -> x.far(0, room), UNKNOWN);
        }
        asked(Made.WITH_A_DAY, x -> x.far(2, 2), UNKNOWN);
        asked(Made.WITH_A_DAY, x -> x.far(0, 7), 99);
        asked(Made.WITH_A_DAY, x -> x.far(0, 4), 9);
    }

    static void promise24Further() {
        asked(Made.WITH_A_DAY, x -> x.further(0, 0), OUTSIDE);
        asked(Made.WITH_A_DAY, x -> x.further(10, 0), OUTSIDE);
        asked(Made.WITH_A_DAY, x -> x.further(1, -1), OUTSIDE);
        asked(Made.WITH_A_DAY, x -> x.further(1, 3), OUTSIDE);
        asked(Made.NEW, x -> x.further(1, 0), 1);
        asked(Made.NEW, x -> x.further(1, 1), 54 * 99 + 2);
        asked(Made.NEW, x -> x.further(1, 2), 56 * 99);
    }

    static void promise25Bridges() {
        asked(Made.NEW, SpeakTubes::bridges, 0);
        asked(Made.WITH_A_DAY, SpeakTubes::bridges, 1 + 2 + 4 + 16 + 64 + 128);
    }

    static void promise26Image() {
        asked(Made.NEW, x -> x.image(-1), OUTSIDE);
        asked(Made.NEW, x -> x.image(2), OUTSIDE);
        asked(Made.WITH_A_DAY, x -> x.image(-1), OUTSIDE);
        asked(Made.WITH_A_DAY, x -> x.image(2), OUTSIDE);
    }

    static void promise27Restore() {
        asked(Made.NEW, x -> x.restore(0), STATE);
        asked(Made.WITH_A_DAY, x -> x.restore(0), STATE);
        asked(Made.WITH_A_DAY, x -> x.restore(-1), OUTSIDE);
        asked(Made.WITH_A_DAY, x -> x.restore(2), OUTSIDE);
    }

    static void promise28Told() {
        for (int what : new int[] {-1, 6, 9, 18, Integer.MIN_VALUE, Integer.MAX_VALUE}) {
            asked(Made.WITH_A_DAY, x -> x.told(what), OUTSIDE);
        }
        asked(Made.WITH_A_DAY, x -> x.told(0), 13);
        asked(Made.WITH_A_DAY, x -> x.told(13), 72);
    }
}
