/** Promises 13 to 22. */
public final class AskingTest {
    private static final Check check = new Check();

    public static void main(String[] args) {
        ofTooth();
        pinsAndWear();
        row();
        ofTune();
        likeness();
        sounds();
        rounding();
        speed();
        many();
        check.end();
    }

    private static void ofTooth() {
        PinBarrel box = Boxes.withTeeth(20, 30);
        int tune = Boxes.tune(box, 3, 20, 13, 20, 23, 30);
        box.pin(tune, 0, 0);
        box.pin(tune, 1, 0);
        box.pin(tune, 2, 10);
        check.due("pitch", box.ofTooth(1, 0), 30);
        check.due("pins in all lines", box.ofTooth(0, 4), 4);
        check.due("pins in all lines", box.ofTooth(1, 4), 4);
        box.wind(500);
        box.play(128);
        check.due("plucked ever", box.ofTooth(0, 3), 4);
        check.due("plucked ever", box.ofTooth(1, 3), 2);
        check.index("tooth -1", () -> box.ofTooth(-1, 0));
        check.index("tooth 2, wrong question too", () -> box.ofTooth(2, 5));
        check.argument("what -1", () -> box.ofTooth(0, -1));
        check.argument("what 5", () -> box.ofTooth(0, 5));
    }

    private static void pinsAndWear() {
        PinBarrel box = Boxes.pinned(63, 0 + 4);
        check.due("the sign bit", box.pins(0, 0), Long.MIN_VALUE | 1L << 4);
        check.due("none", box.pins(0, 1), 0L);
        check.due("wear", box.wear(0, 0, 63), 0);
        check.due("no pin", box.wear(0, 0, 62), -1);
        check.due("no pin in that line", box.wear(0, 1, 63), -1);
        check.index("pins(-1, 0)", () -> box.pins(-1, 0));
        check.index("pins(1, 0)", () -> box.pins(1, 0));
        check.index("pins(0, -1)", () -> box.pins(0, -1));
        check.index("pins(0, 3)", () -> box.pins(0, 3));
        check.index("wear(1, 0, 0)", () -> box.wear(1, 0, 0));
        check.index("wear(-1, 0, 0)", () -> box.wear(-1, 0, 0));
        check.index("wear(0, 3, 0)", () -> box.wear(0, 3, 0));
        check.index("wear(0, -1, 0)", () -> box.wear(0, -1, 0));
        check.index("wear(0, 0, 64)", () -> box.wear(0, 0, 64));
        check.index("wear(0, 0, -1)", () -> box.wear(0, 0, -1));
        Boxes.wound(box, 500);
        box.play(64);
        check.due("worn", box.wear(0, 0, 63), 1);
        check.due("worn", box.wear(0, 0, 4), 1);
        box.pull(0, false);
        check.due("pulled", box.wear(0, 0, 63), -1);
    }

    private static void row() {
        PinBarrel box = Boxes.withTeeth(20, 30, 20);
        int tune = Boxes.tune(box, 3, 30, 63, 20);
        box.pin(tune, 0, 0);
        box.pin(tune, 1, -10);
        check.due("row(3)", box.row(3), ".|.");
        check.due("row(63)", box.row(63), "|..");
        check.due("row(0)", box.row(0), "...");
        box.shift(1);
        check.due("row(3) of the line 1", box.row(3), "|..");
        check.index("row(-1)", () -> box.row(-1));
        check.index("row(64)", () -> box.row(64));
    }

    private static void ofTune() {
        PinBarrel box = new PinBarrel();
        check.index("no tune", () -> box.ofTune(0, 0));
        box.tune();
        check.due("no notes", Boxes.ofTune(box, 0), "0 -1 -1 0 0");
        int tune = Boxes.tune(box, 5, 20, 5, 0, 9, 47, 5, 31, 9, 20, 63, 1);
        check.due("notes", Boxes.ofTune(box, tune), "6 0 47 3 3");
        box.note(tune, 5, 0);
        check.due("one less", Boxes.ofTune(box, tune), "5 1 47 3 2");
        box.note(tune, 9, 47);
        box.note(tune, 9, 20);
        check.due("three less", Boxes.ofTune(box, tune), "3 1 31 2 2");
        int zero = Boxes.tune(box, 0, 0);
        check.due("the lowest of all", Boxes.ofTune(box, zero), "1 0 0 1 1");
        check.index("tune -1", () -> box.ofTune(-1, 0));
        check.index("tune 3, wrong question too", () -> box.ofTune(3, 5));
        check.argument("what -1", () -> box.ofTune(0, -1));
        check.argument("what 5", () -> box.ofTune(0, 5));
    }

    private static void likeness() {
        PinBarrel box = new PinBarrel();
        int one = Boxes.tune(box, 0, 10, 4, 12, 8, 14);
        int other = Boxes.tune(box, 0, 7, 4, 9, 8, 14, 9, 0, 63, 47);
        int empty = box.tune();
        int none = box.tune();
        check.due("3 higher", box.likeness(one, other, 3), 2.0 / 5.0);
        check.due("as it is", box.likeness(one, other, 0), 1.0 / 5.0);
        check.due("3 lower", box.likeness(one, other, -3), 0.0);
        check.due("the other way round", box.likeness(other, one, -3), 2.0 / 5.0);
        check.due("itself", box.likeness(one, one, 0), 1.0);
        check.due("itself, higher", box.likeness(one, one, 1), 0.0);
        check.due("one empty", box.likeness(one, empty, 0), 0.0);
        check.due("one empty", box.likeness(empty, one, 0), 0.0);
        check.due("both empty", box.likeness(empty, none, 0), 0.0);
        likenessBesideTimes();
        check.index("tune 4", () -> box.likeness(4, 0, 25));
        check.index("tune -1", () -> box.likeness(-1, 0, 0));
        check.index("other 4", () -> box.likeness(0, 4, 25));
        check.index("other -1", () -> box.likeness(0, -1, 0));
        check.argument("higher 25", () -> box.likeness(0, 0, 25));
        check.argument("higher -25", () -> box.likeness(0, 0, -25));
    }

    /** A PITCH below 0 is not the PITCH 48 more of the TIME ahead, nor one above 47 a low one of the next TIME. */
    private static void likenessBesideTimes() {
        PinBarrel box = new PinBarrel();
        int low = Boxes.tune(box, 5, 0);
        int high = Boxes.tune(box, 4, 47);
        check.due("below 0", box.likeness(low, high, 1), 0.0);
        check.due("above 47", box.likeness(high, low, -1), 0.0);
        int up = Boxes.tune(box, 5, 24);
        check.due("24 higher", box.likeness(up, low, 24), 1.0);
        check.due("24 lower", box.likeness(low, up, -24), 1.0);
    }

    private static void sounds() {
        PinBarrel box = new PinBarrel();
        for (int i = 0; i < 9; i++) {
            box.tooth(i);
        }
        int tune = box.tune();
        for (int i = 0; i < 9; i++) {
            box.note(tune, i + 1, i);
        }
        box.pin(tune, 0, 0);
        Boxes.wound(box, 2000);
        check.index("none yet", () -> box.heard(0));
        check.index("none yet", () -> box.when(0));
        box.play(64);
        box.file(0, 47);
        check.due("the pitch that it had", box.heard(0), 0);
        check.due("the last", box.heard(8), 8);
        check.index("heard(9)", () -> box.heard(9));
        check.index("when(9)", () -> box.when(9));
        check.index("heard(-1)", () -> box.heard(-1));
        check.index("when(-1)", () -> box.when(-1));
        for (int turn = 0; turn < 3; turn++) {
            box.play(64);
        }
        check.due("36 kept", box.many(10), 36);
        check.due("the oldest", box.heard(0), 0);
        double when = box.when(8);
        box.play(64);
        check.due("sounds ever", box.many(9), 45);
        check.due("40 kept", box.many(10), 40);
        check.due("the first five are away", box.heard(0), 5);
        check.due("when", box.when(3), when);
        check.due("of the second turn", box.heard(4), 47);
        check.due("the newest", box.heard(39), 8);
        check.due("later ones are later", box.when(39) > box.when(0), true);
        check.index("heard(40)", () -> box.heard(40));
        check.index("when(40)", () -> box.when(40));
    }

    /** With SPEED 2 each step takes a sixteenth: every other one is just between two eighths. */
    private static void rounding() {
        double[] due = {0.0, 0.125, 0.25, 0.25, 0.25, 0.375, 0.5, 0.5, 0.5};
        for (int place = 1; place <= 9; place++) {
            PinBarrel box = Boxes.wound(Boxes.pinned(place), 2000);
            box.govern(8);
            box.play(place);
            check.due("when, at " + place, box.when(0), due[place - 1]);
        }
        for (int governor = 1; governor <= 8; governor++) {
            for (int place = 1; place <= 40; place++) {
                PinBarrel box = Boxes.pinned(place);
                box.govern(governor);
                box.wind(300);
                double clock = 0.0;
                for (int step = 0; step < place; step++) {
                    clock += 0.125 / (0.125 * governor + (300 - 2 * step) / 1024.0);
                }
                box.play(place);
                check.due("when, not between two", box.when(0), Math.rint(8.0 * clock) / 8.0);
                check.due("whole clock", box.many(14), (int) clock);
            }
        }
    }

    private static void speed() {
        PinBarrel box = new PinBarrel();
        check.due("at first", box.speed(), 0.5);
        box.wind(100);
        check.due("wound", box.speed(), 0.5 + 100.0 / 1024.0);
        box.play(1);
        check.due("less wound", box.speed(), 0.5 + 98.0 / 1024.0);
        box.govern(1);
        Boxes.wound(box, 1902);
        check.due("1 and 2000", box.speed(), 2.0);
        box.play(128);
        check.due("1 and 1744", box.speed(), 0.125 + 1744.0 / 1024.0);
    }

    private static void many() {
        PinBarrel box = Boxes.pinned(1, 5, 9, 13, 17, 33, 49);
        box.tooth(3);
        box.govern(6);
        Boxes.wound(box, 2001);
        box.play(64);
        box.shift(2);
        box.play(3);
        check.due("many", Boxes.all(box), "2 1 1 7 3 2 1861 6 67 1 1 4 0 1 4");
        check.argument("many(-1)", () -> box.many(-1));
        check.argument("many(15)", () -> box.many(15));
    }
}
