/**
 * Runs of calls by a fixed sequence of numbers, each answer held against the model's.
 * Arguments: how many runs (400 if none is told), the first one's number (0).
 */
public final class ModelTest {
    private static final int CALLS = 512;

    private final SpeakTubes x = new SpeakTubes();
    private final Model model = new Model();
    private final int run;
    private final boolean dense;
    private long state;
    private int calls;

    private ModelTest(int run) {
        this.run = run;
        this.dense = run % 3 == 0;
        this.state = 88172645463325252L + run * 7919L;
    }

    public static void main(String[] args) {
        int runs = args.length > 0 ? Integer.parseInt(args[0]) : 400;
        int first = args.length > 1 ? Integer.parseInt(args[1]) : 0;
        for (int run = first; run < first + runs; run++) {
            new ModelTest(run).go();
        }
        Check.end("ModelTest");
    }

    private int pick(int n) {
        state ^= state << 13;
        state ^= state >>> 7;
        state ^= state << 17;
        return (int) Math.floorMod(state >> 11, (long) n);
    }

    private void due(String call, int got, int want) {
        calls++;
        Check.due("run " + run + ", call " + calls + ": " + call, got, want);
    }

    private void go() {
        while (calls < CALLS - 80) {
            int turn = pick(12);
            if (turn < 1) {
                tell(houseText());
                askPad();
                due("house()", x.house(), model.house());
            } else if (turn < 5) {
                tell(dayText());
                askPad();
                askDay();
            } else {
                for (int n = 0; n < 12; n++) {
                    ask();
                }
            }
            for (int what = 0; what < 18; what += 1 + pick(3)) {
                due("told(" + what + ")", x.told(what), model.told(what));
            }
        }
    }

    private void tell(String text) {
        due("wipe()", x.wipe(), model.wipe());
        for (int i = 0; i < text.length(); i++) {
            char sign = pick(150) == 0 ? (char) (33 + pick(94)) : text.charAt(i);
            due("say(" + sign + ")", x.say(sign), model.say(sign));
        }
    }

    private char roomSign() {
        return (char) ('A' + pick(dense ? 5 : 8));
    }

    private String twoRooms(String between) {
        char one = roomSign();
        char other = roomSign();
        while (other == one && pick(40) != 0) {
            other = roomSign();
        }
        return one + between + other;
    }

    private int digit() {
        return 1 + (pick(2) == 0 ? pick(2) : pick(9));
    }

    private String houseText() {
        StringBuilder text = new StringBuilder();
        String kinds = run % 2 == 0 ? "--=>~x" : "====->~";
        int tubes = pick(6) == 0 ? pick(4) : 6 + pick(7);
        for (int t = 0; t < tubes; t++) {
            text.append(twoRooms("" + kinds.charAt(pick(kinds.length())))).append(digit());
        }
        return text.toString();
    }

    private String dayText() {
        StringBuilder text = new StringBuilder();
        int parts = pick(12);
        for (int part = 0; part < parts; part++) {
            if (pick(3) == 0) {
                text.append('.').append(digit());
            } else {
                text.append(twoRooms("")).append(digit());
            }
        }
        return text.toString();
    }

    private void askPad() {
        int how = pick(30) == 0 ? pick(5) - 2 : pick(2);
        due("fault(" + how + ")", x.fault(how), model.fault(how));
        due("fault(0)", x.fault(0), model.fault(0));
        due("fault(1)", x.fault(1), model.fault(1));
    }

    private void askDay() {
        due("judge(0)", x.judge(0), model.judge(0));
        due("judge(1)", x.judge(1), model.judge(1));
        for (int what = 0; what < 3; what++) {
            due("day(" + what + ")", x.day(what), model.day(what));
        }
        for (int room = 0; room < 8; room += 1 + pick(2)) {
            int could = pick(2);
            due("knows(" + room + ", " + could + ")", x.knows(room, could), model.knows(room, could));
        }
    }

    /** A number far from all that the document names. */
    private int wild() {
        return Check.WILD[pick(Check.WILD.length)];
    }

    private int room() {
        if (pick(300) == 0) {
            return wild();
        }
        return pick(60) == 0 ? pick(12) - 2 : pick(dense ? 5 : 8);
    }

    /** Mostly from least to most; now and then beside them, or far from them. */
    private int number(int least, int most) {
        if (pick(200) == 0) {
            return wild();
        }
        return pick(30) == 0 ? least - 2 + pick(most - least + 5) : least + pick(most - least + 1);
    }

    private void ask() {
        int a = room();
        int b = room();
        int c = room();
        int i = number(-2, 7);
        int what = number(0, 2);
        int bit = number(0, 1);
        switch (pick(24)) {
            case 0 -> due("tube(" + i + ", " + what + ")", x.tube(i, what), model.tube(i, what));
            case 1 -> {
                int v = number(1, pick(2) == 0 ? 60 : 20);
                due("set(0, " + v + ")", x.set(0, v), model.set(0, v));
            }
            case 2 -> {
                int v = number(0, 255);
                due("set(" + bit + ", " + v + ")", x.set(bit, v), model.set(bit, v));
            }
            case 3, 4 -> due("way(" + a + ", " + b + ", " + i + ")", x.way(a, b, i), model.way(a, b, i));
            case 5 -> due("loud(" + a + ", " + b + ", " + c + ")", x.loud(a, b, c), model.loud(a, b, c));
            case 6 -> due("heard(" + a + ", " + b + ")", x.heard(a, b), model.heard(a, b));
            case 7 -> {
                int v = pick(2) == 0 ? 1 << pick(8) : number(0, 255);
                due("know(" + a + ", " + v + ")", x.know(a, v), model.know(a, v));
            }
            case 8, 9, 10 -> {
                int minutes = number(1, 9);
                int by = number(1, pick(2) == 0 ? 60 : 20);
                String call = "call(" + a + ", " + b + ", " + minutes + ", " + by + ")";
                due(call, x.call(a, b, minutes, by), model.call(a, b, minutes, by));
            }
            case 11 -> {
                if (pick(5) == 0) {
                    due("clear()", x.clear(), model.clear());
                }
            }
            case 12 -> {
                for (i = -1; i < 5; i++) {
                    due("soonest(" + i + ")", x.soonest(i), model.soonest(i));
                }
            }
            case 13 -> {
                for (i = -1; i < 5; i++) {
                    due("byDue(" + i + ")", x.byDue(i), model.byDue(i));
                }
            }
            case 14, 15 -> {
                int set = pick(4) == 0 ? number(0, 31) : (1 << Math.max(0, model.told(4))) - 1;
                due("locked(" + set + ", " + bit + ")", x.locked(set, bit), model.locked(set, bit));
                due("locked(" + set + ", 0)", x.locked(set, 0), model.locked(set, 0));
            }
            case 16 -> {
                boolean heard = pick(3) != 0;
                due("tried(" + a + ", " + b + ", " + heard + ")", x.tried(a, b, heard), model.tried(a, b, heard));
            }
            case 17 -> {
                if (pick(3) == 0) {
                    due("forget()", x.forget(), model.forget());
                }
            }
            case 18, 19 -> due("stopped(" + what + ")", x.stopped(what), model.stopped(what));
            case 20 -> due("far(" + a + ", " + b + ")", x.far(a, b), model.far(a, b));
            case 21 -> askWhole(what);
            case 22 -> due("image(" + bit + ")", x.image(bit), model.image(bit));
            default -> {
                if (pick(3) == 0) {
                    due("restore(" + bit + ")", x.restore(bit), model.restore(bit));
                }
            }
        }
    }

    private void askWhole(int what) {
        int length = number(1, 9);
        due("bridges()", x.bridges(), model.bridges());
        due("further(" + length + ", " + what + ")", x.further(length, what), model.further(length, what));
    }
}
