/** What one asks: the promises 13 to 22. */
final class AskingEdges {
    private static final String OF_TOOTH = "Promise 13: ofTooth";
    private static final String PINS = "Promise 14: pins";
    private static final String WEAR = "Promise 15: wear";
    private static final String ROW = "Promise 16: row";
    private static final String OF_TUNE = "Promise 17: ofTune";
    private static final String LIKENESS = "Promise 18: likeness";
    private static final String HEARD = "Promise 19: heard";
    private static final String WHEN = "Promise 20: when";
    private static final String SPEED = "Promise 21: speed";
    private static final String MANY = "Promise 22: many";

    private final Edges edges;
    private final Check check;

    AskingEdges(Edges edges) {
        this.edges = edges;
        check = edges.check;
    }

    void run() {
        numbers();
        ofTooth();
        ofToothRefused();
        pins();
        wear();
        row();
        ofTune();
        ofTuneRefused();
        likeness();
        heard();
        when();
        whenRefused();
        speed();
        many();
        manyOfPlaying();
        manyRefused();
    }

    private void numbers() {
        edges.edge("Terms", "NONE is -1.", () -> {
            PinBarrel box = Boxes.withTeeth(20);
            box.tune();
            check.due("wear without a pin", box.wear(0, 2, 63), -1);
            check.due("lowest pitch without notes", box.ofTune(0, 1), -1);
            check.due("highest pitch without notes", box.ofTune(0, 2), -1);
        });
        edges.edge("Terms", "A set is the sum of 2^k for the number k of each.", () -> {
            PinBarrel box = Boxes.pinned(0, 4, 60 - 1);
            check.due("of none", box.pins(0, 2), 0L);
            check.due("of three", box.pins(0, 0), 1L + 16L + (1L << 59));
        });
    }

    private void ofTooth() {
        edges.edge(OF_TOOTH, "0 its PITCH,", () -> {
            PinBarrel box = Boxes.withTeeth(0, 47);
            check.due("0", box.ofTooth(0, 0), 0);
            check.due("47", box.ofTooth(1, 0), 47);
        });
        edges.edge(OF_TOOTH, "1 1 if it is BROKEN, otherwise 0,", () -> {
            PinBarrel box = Boxes.broken();
            box.tooth(20);
            check.due("broken", box.ofTooth(0, 1), 1);
            check.due("whole", box.ofTooth(1, 1), 0);
        });
        edges.edge(OF_TOOTH, "2 its SCRATCHES,", () -> {
            PinBarrel box = Boxes.broken();
            box.tooth(20);
            check.due("4 at most", box.ofTooth(0, 2), 4);
            check.due("none at first", box.ofTooth(1, 2), 0);
        });
        edges.edge(OF_TOOTH, "3 how often it was plucked ever,", () -> {
            PinBarrel box = Boxes.broken();
            box.tooth(20);
            check.due("heard or not", box.ofTooth(0, 3), 5);
            box.mend();
            box.pull(0, false);
            check.due("mended, and its pins pulled", box.ofTooth(0, 3), 5);
            check.due("never", box.ofTooth(1, 3), 0);
        });
        edges.edge(OF_TOOTH, "4 its PINS in all LINES", () -> {
            PinBarrel box = Boxes.withTeeth(20, 21);
            check.due("none at first", box.ofTooth(0, 4), 0);
            box.tune();
            for (int i = 0; i < 16; i++) {
                box.note(0, 4 * i + 3, 20);
            }
            for (int line = 0; line < 3; line++) {
                box.pin(0, line, 0);
                check.due("16 in each line", box.ofTooth(0, 4), 16 * line + 16);
            }
            check.due("the set of a full line", box.pins(0, 2), 0x8888888888888888L);
            check.due("of the other one", box.ofTooth(1, 4), 0);
        });
    }

    private void ofToothRefused() {
        edges.edge(OF_TOOTH, "Throws `IndexOutOfBoundsException` if there is no such TOOTH", () -> {
            PinBarrel box = Boxes.withTeeth(20, 21);
            check.index("-1", () -> box.ofTooth(-1, 0));
            check.index("2", () -> box.ofTooth(2, 0));
            check.index("2, with a wrong question", () -> box.ofTooth(2, 5));
            check.due("1", box.ofTooth(1, 0), 21);
        });
        edges.edge(OF_TOOTH, "Throws `IllegalArgumentException` if what is not 0 to 4", () -> {
            PinBarrel box = Boxes.withTeeth(20);
            check.argument("-1", () -> box.ofTooth(0, -1));
            check.argument("5", () -> box.ofTooth(0, 5));
        });
    }

    private void pins() {
        edges.edge(PINS, "(a long; the PLACE 63 is its sign bit)", () -> {
            PinBarrel box = Boxes.pinned(63);
            check.due("63 alone", box.pins(0, 0), Long.MIN_VALUE);
            PinBarrel both = Boxes.pinned(0, 31, 35, 59, 63 - 8);
            check.due("none at 63", both.pins(0, 0), 1L | 1L << 31 | 1L << 35 | 1L << 59 | 1L << 55);
        });
        edges.edge(PINS, "Throws `IndexOutOfBoundsException` if there is no such TOOTH, or LINE", () -> {
            check.index("without teeth", () -> new PinBarrel().pins(0, 0));
            PinBarrel box = Boxes.withTeeth(20, 21);
            check.index("tooth -1", () -> box.pins(-1, 0));
            check.index("tooth 2", () -> box.pins(2, 0));
            check.index("line -1", () -> box.pins(1, -1));
            check.index("line 3", () -> box.pins(0, 3));
            check.due("tooth 1, line 2", box.pins(1, 2), 0L);
        });
    }

    private void wear() {
        edges.edge(WEAR, "Returns WEAR of the PIN there; NONE without one.", () -> {
            PinBarrel box = Boxes.wound(Boxes.pinned(63, 4), 500);
            box.play(4);
            check.due("1", box.wear(0, 0, 4), 1);
            check.due("0", box.wear(0, 0, 63), 0);
            check.due("beside it", box.wear(0, 0, 62), -1);
            check.due("in another line", box.wear(0, 1, 63), -1);
            box.pull(0, false);
            check.due("pulled", box.wear(0, 0, 4), -1);
        });
        edges.edge(WEAR, "Throws `IndexOutOfBoundsException` if there is no such TOOTH, LINE, or PLACE", () -> {
            check.index("without teeth", () -> new PinBarrel().wear(0, 0, 0));
            PinBarrel box = Boxes.withTeeth(20, 21);
            check.index("tooth -1", () -> box.wear(-1, 0, 0));
            check.index("tooth 2", () -> box.wear(2, 0, 0));
            check.index("line -1", () -> box.wear(1, -1, 0));
            check.index("line 3", () -> box.wear(0, 3, 0));
            check.index("place -1", () -> box.wear(1, 1, -1));
            check.index("place 64", () -> box.wear(0, 0, 64));
            check.due("the last ones", box.wear(1, 2, 63), -1);
        });
    }

    private void row() {
        edges.edge(ROW, "Returns TEETH, by their numbers, each as one sign:", () -> {
            check.due("without teeth", new PinBarrel().row(0), "");
            PinBarrel box = Boxes.chord(24);
            check.due("all 24", box.row(1), "|".repeat(24));
            PinBarrel few = Boxes.chord(23);
            check.due("all but the last", few.row(1), "|".repeat(23) + ".");
        });
        edges.edge(ROW, "\"|\" with a PIN there in the LINE that is under it, otherwise \".\";", () -> {
            PinBarrel box = Boxes.withTeeth(20, 21);
            box.pin(Boxes.tune(box, 0, 20, 63, 21), 0, 0);
            check.due("0", box.row(0), "|.");
            check.due("1", box.row(1), "..");
            check.due("62", box.row(62), "..");
            check.due("63", box.row(63), ".|");
            box.shift(2);
            check.due("63, in another shift", box.row(63), "..");
        });
        edges.edge(ROW, "\"x\", if it is BROKEN, with a PIN or without.", () -> {
            PinBarrel box = Boxes.broken();
            box.tooth(20);
            check.due("with a pin", box.row(4), "x.");
            check.due("without", box.row(5), "x.");
            box.mend();
            check.due("mended", box.row(4), "|.");
        });
        edges.edge(ROW, "Throws `IndexOutOfBoundsException` if there is no such PLACE", () -> {
            PinBarrel box = Boxes.withTeeth(20);
            check.index("-1", () -> box.row(-1));
            check.index("64", () -> box.row(64));
            check.index("64 without teeth", () -> new PinBarrel().row(64));
            check.due("63", box.row(63), ".");
        });
    }

    private void ofTune() {
        edges.edge(OF_TUNE, "0 how many NOTES, 1 the lowest PITCH, 2 the highest one", () -> {
            PinBarrel box = new PinBarrel();
            int one = Boxes.tune(box, 9, 30);
            check.due("of one note", Boxes.ofTune(box, one), "1 30 30 1 1");
            int all = Boxes.tune(box, 0, 47, 63, 0, 5, 20);
            check.due("0 and 47", Boxes.ofTune(box, all), "3 0 47 3 1");
            check.due("0 first", Boxes.ofTune(box, Boxes.tune(box, 0, 0, 5, 20)), "2 0 20 2 1");
            box.note(all, 0, 47);
            check.due("the highest one struck out", box.ofTune(all, 2), 20);
            box.note(all, 63, 0);
            check.due("the lowest one struck out", box.ofTune(all, 1), 20);
        });
        edges.edge(OF_TUNE, "(NONE without NOTES, both)", () -> {
            PinBarrel box = new PinBarrel();
            int tune = Boxes.tune(box, 5, 0);
            check.due("0 is none of that", box.ofTune(tune, 1), 0);
            box.note(tune, 5, 0);
            check.due("the lowest", box.ofTune(tune, 1), -1);
            check.due("the highest", box.ofTune(tune, 2), -1);
        });
        edges.edge(OF_TUNE, "3 how many TIMES have a NOTE,", () -> {
            PinBarrel box = new PinBarrel();
            int tune = Boxes.tune(box);
            check.due("none", box.ofTune(tune, 3), 0);
            for (int i = 0; i < 15; i++) {
                box.note(tune, 4 * i, i);
                box.note(tune, 4 * i, i + 1);
            }
            check.due("15 of two each", box.ofTune(tune, 3), 15);
            box.note(tune, 0, 0);
            check.due("still one there", box.ofTune(tune, 3), 15);
            box.note(tune, 0, 1);
            check.due("none there", box.ofTune(tune, 3), 14);
        });
        edges.edge(OF_TUNE, "4 the greatest number of NOTES with the same TIME", () -> {
            PinBarrel box = new PinBarrel();
            check.due("none", box.ofTune(Boxes.tune(box), 4), 0);
            check.due("the first time", box.ofTune(Boxes.tune(box, 0, 1, 0, 2, 5, 3), 4), 2);
            check.due("the last time", box.ofTune(Boxes.tune(box, 0, 1, 63, 2, 63, 3, 63, 0), 4), 3);
            int all = box.tune();
            for (int i = 0; i < 30; i++) {
                box.note(all, 63, 47 - i);
            }
            check.due("all 30", box.ofTune(all, 4), 30);
        });
    }

    private void ofTuneRefused() {
        edges.edge(OF_TUNE, "Throws `IndexOutOfBoundsException` if there is no such TUNE", () -> {
            PinBarrel box = new PinBarrel();
            check.index("without tunes", () -> box.ofTune(0, 0));
            box.tune();
            check.index("-1", () -> box.ofTune(-1, 0));
            check.index("1", () -> box.ofTune(1, 0));
            check.index("1, with a wrong question", () -> box.ofTune(1, -1));
            check.due("0", box.ofTune(0, 0), 0);
        });
        edges.edge(OF_TUNE, "Throws `IllegalArgumentException` if what is not 0 to 4", () -> {
            PinBarrel box = new PinBarrel();
            box.tune();
            check.argument("-1", () -> box.ofTune(0, -1));
            check.argument("5", () -> box.ofTune(0, 5));
        });
    }

    private void likeness() {
        edges.edge(LIKENESS, "how much higher the second one is told", () -> {
            PinBarrel box = new PinBarrel();
            int high = Boxes.tune(box, 4, 47);
            int low = Boxes.tune(box, 5, 0);
            int middle = Boxes.tune(box, 5, 24, 4, 23);
            check.due("24 higher", box.likeness(middle, low, 24), 0.5);
            check.due("24 lower", box.likeness(middle, high, -24), 0.5);
            check.due("below 0 there is no pitch, not one of the time ahead", box.likeness(low, high, 1), 0.0);
            check.due("above 47 there is none, not one of the next time", box.likeness(high, low, -1), 0.0);
        });
        edges.edge(LIKENESS, "Throws `IndexOutOfBoundsException` if there is no such TUNE, of both", () -> {
            PinBarrel box = new PinBarrel();
            check.index("without tunes", () -> box.likeness(0, 0, 0));
            box.tune();
            check.index("one -1", () -> box.likeness(-1, 0, 0));
            check.index("one 1", () -> box.likeness(1, 0, 0));
            check.index("other -1", () -> box.likeness(0, -1, 0));
            check.index("other 1", () -> box.likeness(0, 1, 0));
            check.index("one 1, with a wrong key", () -> box.likeness(1, 0, 25));
            check.index("other 1, with a wrong key", () -> box.likeness(0, 1, 25));
            check.due("twice the same", box.likeness(0, 0, 0), 0.0);
        });
        edges.edge(LIKENESS, "Throws `IllegalArgumentException` if higher is not -24 to 24", () -> {
            PinBarrel box = new PinBarrel();
            box.tune();
            check.argument("25", () -> box.likeness(0, 0, 25));
            check.argument("-25", () -> box.likeness(0, 0, -25));
            check.due("24", box.likeness(0, 0, 24), 0.0);
            check.due("-24", box.likeness(0, 0, -24), 0.0);
        });
    }

    private void heard() {
        edges.edge(HEARD, "Returns its PITCH.", () -> {
            PinBarrel box = Boxes.wound(Boxes.pinned(1, 9), 500);
            box.play(1);
            box.file(0, 47);
            box.play(8);
            check.due("as it was when it was heard", box.heard(0), 20);
            check.due("as it was later", box.heard(1), 47);
        });
        edges.edge(HEARD, "Throws `IndexOutOfBoundsException` if there is no such SOUND", () -> {
            PinBarrel box = Boxes.chord(41);
            check.index("none yet", () -> box.heard(0));
            box.wind(500);
            box.play(1);
            check.due("the last of 24", box.heard(23), 23);
            check.index("24 of 24", () -> box.heard(24));
            check.index("-1", () -> box.heard(-1));
            box.play(10);
            check.due("the last of 40", box.heard(39), 16);
            check.index("40 of 40, with 41 ever", () -> box.heard(40));
        });
    }

    private void when() {
        edges.edge(WHEN, "Returns when it was HEARD (CLOCK), to the nearest eighth", () -> {
            PinBarrel box = new PinBarrel();
            box.govern(1);
            box.tooth(20);
            box.pin(Boxes.tune(box, 1, 20), 0, 0);
            box.wind(1);
            box.play(1);
            check.due("0.992, from below", box.when(0), 1.0);
            PinBarrel fast = Boxes.wound(Boxes.pinned(1), 2);
            fast.govern(5);
            fast.play(1);
            check.due("0.199, from above or below", fast.when(0), 0.25);
            PinBarrel faster = Boxes.wound(Boxes.pinned(1), 60);
            faster.govern(5);
            faster.play(1);
            check.due("0.183, from above", faster.when(0), 0.125);
        });
        edges.edge(WHEN, "(Math.rint of 8.0 times that, divided by 8.0)", () -> {
            double[] due = {0.0, 0.125, 0.25, 0.25, 0.25, 0.375, 0.5, 0.5, 0.5, 0.625, 0.75};
            for (int place = 1; place <= due.length; place++) {
                PinBarrel box = Boxes.wound(Boxes.pinned(place), 2000);
                box.govern(8);
                box.play(place);
                check.due(place + " sixteenths: a half to the even side", box.when(0), due[place - 1]);
            }
        });
    }

    private void whenRefused() {
        edges.edge(WHEN, "Throws `IndexOutOfBoundsException` if there is no such SOUND", () -> {
            PinBarrel box = Boxes.chord(41);
            check.index("none yet", () -> box.when(0));
            Boxes.wound(box, 2000);
            box.govern(8);
            box.play(2);
            check.due("the last of 24", box.when(23), 0.0);
            check.index("24 of 24", () -> box.when(24));
            check.index("-1", () -> box.when(-1));
            box.play(9);
            check.due("the last of 40", box.when(39), 0.75);
            check.due("the last of the first chord", box.when(22), 0.0);
            check.due("the first of the second one", box.when(23), 0.75);
            check.index("40 of 40, with 41 ever", () -> box.when(40));
        });
    }

    private void speed() {
        edges.edge(SPEED, "Returns SPEED, made double.", () -> {
            PinBarrel box = new PinBarrel();
            check.due("not wound", box.speed(), 0.5);
            box.govern(8);
            Boxes.wound(box, 1024);
            check.due("just 2", box.speed(), 2.0);
            box.play(1);
            check.due("just below", box.speed(), 2.0 - 2.0 / 1024.0);
            Boxes.wound(box, 978);
            check.due("2 at most", box.speed(), 2.0);
        });
    }

    private void many() {
        edges.edge(MANY, "0 TEETH, 1 BROKEN ones, 2 TUNES, 3 PINS,", () -> {
            PinBarrel box = Boxes.broken();
            box.tooth(20);
            check.due("teeth", box.many(0), 2);
            check.due("broken ones", box.many(1), 1);
            check.due("tunes", box.many(2), 1);
            check.due("pins, of broken ones too", box.many(3), 5);
            box.pin(Boxes.tune(box, 0, 20), 2, 0);
            check.due("pins of all lines", box.many(3), 6);
            box.mend();
            check.due("none is broken", box.many(1), 0);
        });
        edges.edge(MANY, "4 the PLACE, 5 the SHIFT, 6 WOUND, 7 the GOVERNOR,", () -> {
            PinBarrel box = Boxes.wound(new PinBarrel(), 128);
            box.shift(2);
            box.govern(8);
            box.play(63);
            check.due("63", box.many(4), 63);
            check.due("2", box.many(5), 2);
            check.due("128 less 126", box.many(6), 2);
            check.due("8", box.many(7), 8);
            box.play(2);
            check.due("0", box.many(4), 0);
            check.due("0", box.many(6), 0);
        });
    }

    private void manyOfPlaying() {
        edges.edge(MANY, "8 steps that were done ever,", () -> {
            PinBarrel box = new PinBarrel();
            box.play(128);
            check.due("none", box.many(8), 0);
            box.wind(257);
            box.play(128);
            check.due("128", box.many(8), 128);
            box.play(128);
            check.due("one more, then it stands", box.many(8), 129);
        });
        edges.edge(MANY, "9 SOUNDS ever, 10 SOUNDS that are kept,", () -> {
            for (int many : new int[] {0, 1, 39, 40, 41, 72}) {
                PinBarrel box = Boxes.chord(many);
                box.wind(500);
                box.play(40);
                check.due("ever", box.many(9), many);
                check.due("kept", box.many(10), Math.min(40, many));
            }
        });
        edges.edge(MANY, "11 BUZZES ever,", () -> {
            PinBarrel box = Boxes.broken();
            check.due("four", box.many(11), 4);
            box.mend();
            check.due("mended", box.many(11), 4);
        });
        edges.edge(MANY, "12 PINS that are gone ever by WEAR,", () -> {
            PinBarrel box = Boxes.worn(10);
            box.play(64);
            check.due("one", box.many(12), 1);
            box.pull(0, false);
            check.due("not those that are pulled out", box.many(12), 1);
        });
        edges.edge(MANY, "13 KNOCKS ever,", () -> {
            PinBarrel box = Boxes.wound(new PinBarrel(), 2000);
            check.due("none", box.many(13), 0);
            box.wind(1);
            check.due("one", box.many(13), 1);
        });
        edges.edge(MANY, "14 CLOCK without what is behind its point", () -> {
            PinBarrel box = Boxes.wound(new PinBarrel(), 2000);
            box.govern(8);
            box.play(31);
            check.due("1.9375", box.many(14), 1);
            box.play(1);
            check.due("2.0", box.many(14), 2);
        });
    }

    private void manyRefused() {
        edges.edge(MANY, "Throws `IllegalArgumentException` if what is not 0 to 14", () -> {
            PinBarrel box = new PinBarrel();
            check.argument("-1", () -> box.many(-1));
            check.argument("15", () -> box.many(15));
            check.argument("the greatest int", () -> box.many(Integer.MAX_VALUE));
            check.due("0", box.many(0), 0);
            check.due("14", box.many(14), 0);
        });
    }
}
