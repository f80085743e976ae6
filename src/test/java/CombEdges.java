/** 'Comb and tunes', and the promises 1 to 5. */
final class CombEdges {
    private static final String TERMS = "1. Comb and tunes";
    private static final String TOOTH = "Promise 2: tooth";
    private static final String FILE = "Promise 3: file";
    private static final String TUNE = "Promise 4: tune";
    private static final String NOTE = "Promise 5: note";

    private final Edges edges;
    private final Check check;

    CombEdges(Edges edges) {
        this.edges = edges;
        check = edges.check;
    }

    void run() {
        newObject();
        teeth();
        tunes();
        likeness();
        tooth();
        file();
        tune();
        note();
    }

    private void newObject() {
        edges.edge("Promise 1: A new object", "Creates a box without TEETH.", () -> {
            PinBarrel box = new PinBarrel();
            check.due("teeth", box.many(0), 0);
            check.due("row", box.row(63), "");
            check.index("ofTooth(0, 0)", () -> box.ofTooth(0, 0));
            check.index("file(0, 0)", () -> box.file(0, 0));
            check.due("the rest", Boxes.all(box), "0 0 0 0 0 0 0 4 0 0 0 0 0 0 0");
        });
    }

    private void teeth() {
        edges.edge(TERMS, "TEETH: at most 24, numbered from 0, each with a PITCH (0 to 47), and whole or BROKEN.", () -> {
            PinBarrel box = new PinBarrel();
            for (int tooth = 0; tooth < 24; tooth++) {
                check.due("tooth", box.tooth(2 * tooth + tooth % 2), tooth);
            }
            check.due("pitch of the first", box.ofTooth(0, 0), 0);
            check.due("pitch of the last", box.ofTooth(23, 0), 47);
            check.due("the last is whole", box.ofTooth(23, 1), 0);
            check.due("teeth", box.many(0), 24);
            check.due("their row", box.row(0), ".".repeat(24));
        });
        edges.edge(TERMS, "More of them may have the same PITCH.", () -> {
            PinBarrel box = new PinBarrel();
            for (int tooth = 0; tooth < 24; tooth++) {
                check.due("tooth(30)", box.tooth(30), tooth);
                check.due("its pitch", box.ofTooth(tooth, 0), 30);
            }
        });
    }

    private void tunes() {
        edges.edge(TERMS, "TUNES: at most 4, numbered from 0, each of at most 30 NOTES,", () -> {
            PinBarrel box = new PinBarrel();
            for (int tune = 0; tune < 4; tune++) {
                check.due("tune", box.tune(), tune);
                for (int i = 0; i < 30; i++) {
                    check.due("note", box.note(tune, 63 - i, 47 - i), i + 1);
                }
            }
            for (int tune = 0; tune < 4; tune++) {
                check.due("its notes", box.ofTune(tune, 0), 30);
            }
        });
        edges.edge(TERMS, "with a TIME (0 to 63) and a PITCH (0 to 47) each,", () -> {
            PinBarrel box = Boxes.withTeeth(0, 47);
            int tune = Boxes.tune(box, 0, 0, 63, 47);
            check.due("none is lost", box.pin(tune, 0, 0), 0);
            check.due("time 0, pitch 0", box.pins(0, 0), 1L);
            check.due("time 63, pitch 47", box.pins(1, 0), 1L << 63);
        });
        edges.edge(TERMS, "no two of them alike;", () -> {
            PinBarrel box = new PinBarrel();
            box.tune();
            check.due("the first", box.note(0, 5, 47), 1);
            check.due("another pitch", box.note(0, 5, 46), 2);
            check.due("another time", box.note(0, 6, 47), 3);
            check.due("another time, ahead", box.note(0, 4, 46), 4);
            check.due("both other", box.note(0, 6, 0), 5);
            check.due("alike", box.note(0, 5, 47), 4);
        });
        edges.edge(TERMS, "NOTES are in the order of TIME, and of PITCH with the same TIME.", () -> {
            // The order of PITCH shows nowhere: NOTES of the same TIME never want the same TOOTH.
            PinBarrel box = Boxes.withTeeth(20, 21);
            int tune = Boxes.tune(box, 3, 21, 8, 20, 3, 20, 8, 21, 0, 21, 5, 21, 0, 20, 5, 20);
            check.due("those at 3 and 8 are too near", box.pin(tune, 0, 0), 4);
            check.due("those at 0 and 5", box.pins(0, 0), 1L | 1L << 5);
            check.due("of the other pitch too", box.pins(1, 0), 1L | 1L << 5);
            check.due("times, each once", box.ofTune(tune, 3), 4);
        });
    }

    private void likeness() {
        edges.edge(TERMS, "(with the same TIME, and PITCH less n)", () -> {
            PinBarrel box = new PinBarrel();
            int one = Boxes.tune(box, 10, 24);
            int low = Boxes.tune(box, 10, 0);
            int late = Boxes.tune(box, 11, 0);
            check.due("24 less", box.likeness(one, low, 24), 1.0);
            check.due("23 less", box.likeness(one, low, 23), 0.0);
            check.due("24 more is no 24 less", box.likeness(one, low, -24), 0.0);
            check.due("another time", box.likeness(one, late, 24), 0.0);
        });
        edges.edge(TERMS, "as a double, divided by the NOTES of the one with more;", () -> {
            PinBarrel box = new PinBarrel();
            int two = Boxes.tune(box, 0, 1, 1, 1);
            int three = Boxes.tune(box, 0, 1, 1, 1, 2, 1);
            int none = box.tune();
            check.due("the second has more", box.likeness(two, three, 0), 2.0 / 3.0);
            check.due("the first has more", box.likeness(three, two, 0), 2.0 / 3.0);
            check.due("as many", box.likeness(two, two, 0), 1.0);
            check.due("one has none", box.likeness(two, none, 0), 0.0);
            check.due("the other has none", box.likeness(none, two, 0), 0.0);
        });
        edges.edge(TERMS, "0.0, if that has none.", () -> {
            PinBarrel box = new PinBarrel();
            box.tune();
            Boxes.tune(box, 4, 4, 4, 4);
            check.due("both without notes", box.likeness(0, 1, 0), 0.0);
            check.due("with itself", box.likeness(0, 0, 24), 0.0);
        });
    }

    private void tooth() {
        edges.edge(TOOTH, "Throws `IllegalArgumentException` if pitch is not 0 to 47", () -> {
            PinBarrel box = new PinBarrel();
            check.argument("tooth(-1)", () -> box.tooth(-1));
            check.argument("tooth(48)", () -> box.tooth(48));
            check.due("tooth(0)", box.tooth(0), 0);
            check.due("tooth(47)", box.tooth(47), 1);
        });
        edges.edge(TOOTH, "Throws `IllegalStateException` if there are 24", () -> {
            PinBarrel box = new PinBarrel();
            for (int tooth = 0; tooth < 23; tooth++) {
                box.tooth(tooth);
            }
            check.due("the 24th", box.tooth(47), 23);
            check.state("the 25th", () -> box.tooth(47));
            check.argument("the 25th, with a wrong pitch", () -> box.tooth(48));
            check.due("teeth", box.many(0), 24);
        });
    }

    private void file() {
        edges.edge(FILE, "(PINS stay)", () -> {
            PinBarrel box = Boxes.wound(Boxes.pinned(1, 60), 500);
            box.play(1);
            box.file(0, 47);
            check.due("pins", box.pins(0, 0), 1L << 1 | 1L << 60);
            check.due("wear", box.wear(0, 0, 1), 1);
            check.due("they pluck it in its new pitch", box.play(62), 1);
            check.due("heard", box.heard(1), 47);
        });
        edges.edge(FILE, "Returns that before.", () -> {
            PinBarrel box = Boxes.withTeeth(20, 30);
            check.due("to another", box.file(1, 0), 30);
            check.due("to the same", box.file(1, 0), 0);
            check.due("to another", box.file(1, 47), 0);
            check.due("the first stays", box.ofTooth(0, 0), 20);
        });
        edges.edge(FILE, "Throws `IndexOutOfBoundsException` if there is no such TOOTH", () -> {
            PinBarrel box = Boxes.withTeeth(20, 30);
            check.index("tooth -1", () -> box.file(-1, 0));
            check.index("tooth 2", () -> box.file(2, 0));
            check.index("tooth 2, with a wrong pitch", () -> box.file(2, 48));
            check.due("tooth 1", box.file(1, 0), 30);
        });
        edges.edge(FILE, "Throws `IllegalArgumentException` if pitch is not 0 to 47", () -> {
            PinBarrel box = Boxes.withTeeth(20);
            check.argument("pitch -1", () -> box.file(0, -1));
            check.argument("pitch 48", () -> box.file(0, 48));
            check.due("pitch 47", box.file(0, 47), 20);
            check.due("pitch 0", box.file(0, 0), 47);
        });
    }

    private void tune() {
        edges.edge(TUNE, "Begins a TUNE without NOTES.", () -> {
            PinBarrel box = new PinBarrel();
            for (int tune = 0; tune < 4; tune++) {
                check.due("its number", box.tune(), tune);
                check.due("its notes", box.ofTune(tune, 0), 0);
                box.note(tune, 5, 5);
            }
        });
        edges.edge(TUNE, "Throws `IllegalStateException` if there are 4", () -> {
            PinBarrel box = new PinBarrel();
            for (int tune = 0; tune < 3; tune++) {
                box.tune();
            }
            check.due("the 4th", box.tune(), 3);
            check.state("the 5th", () -> box.tune());
            check.due("tunes", box.many(2), 4);
            check.index("ofTune(4, 0)", () -> box.ofTune(4, 0));
        });
    }

    private void note() {
        edges.edge(NOTE, "if it is there, it is struck out.", () -> {
            PinBarrel box = new PinBarrel();
            Boxes.tune(box, 0, 0, 10, 20, 63, 47);
            Boxes.tune(box, 10, 20);
            check.due("one between", box.note(0, 10, 20), 2);
            check.due("it is not there", box.likeness(1, 0, 0), 0.0);
            check.due("written again", box.note(0, 10, 20), 3);
            check.due("it is there", box.likeness(1, 0, 0), 1.0 / 3.0);
            check.due("the first", box.note(0, 0, 0), 2);
            check.due("the last", box.note(0, 63, 47), 1);
            check.due("that between stays", box.likeness(1, 0, 0), 1.0);
            box.note(0, 10, 19);
            box.note(0, 10, 21);
            check.due("one of three at the same time", box.note(0, 10, 20), 2);
            check.due("it is not there", box.likeness(1, 0, 0), 0.0);
        });
        edges.edge(NOTE, "Returns how many NOTES there are then.", () -> {
            PinBarrel box = new PinBarrel();
            box.tune();
            check.due("the first", box.note(0, 0, 0), 1);
            check.due("none left", box.note(0, 0, 0), 0);
        });
        edges.edge(NOTE, "Throws `IndexOutOfBoundsException` if there is no such TUNE", () -> {
            PinBarrel box = new PinBarrel();
            check.index("without tunes", () -> box.note(0, 0, 0));
            box.tune();
            check.index("tune -1", () -> box.note(-1, 0, 0));
            check.index("tune 1", () -> box.note(1, 0, 0));
            check.index("tune 1, with a wrong time", () -> box.note(1, 64, 0));
            check.index("tune 1, with a wrong pitch", () -> box.note(1, 0, 48));
        });
        edges.edge(NOTE, "Throws `IllegalArgumentException` if time is not 0 to 63, or pitch not 0 to 47", () -> {
            PinBarrel box = new PinBarrel();
            box.tune();
            check.argument("time -1", () -> box.note(0, -1, 0));
            check.argument("time 64", () -> box.note(0, 64, 0));
            check.argument("pitch -1", () -> box.note(0, 0, -1));
            check.argument("pitch 48", () -> box.note(0, 0, 48));
            check.argument("pitch -1, as of the time ahead", () -> box.note(0, 1, -1));
            check.due("the least ones", box.note(0, 0, 0), 1);
            check.due("the greatest ones", box.note(0, 63, 47), 2);
        });
        edges.edge(NOTE, "Throws `IllegalStateException` if there are 30, and it is none of these", this::fullTune);
    }

    private void fullTune() {
        PinBarrel box = new PinBarrel();
        box.tune();
        for (int i = 0; i < 29; i++) {
            box.note(0, 2 * i, 20);
        }
        check.due("the 30th", box.note(0, 58, 20), 30);
        check.state("a 31st", () -> box.note(0, 1, 20));
        check.state("a 31st behind them", () -> box.note(0, 63, 47));
        check.state("of another pitch", () -> box.note(0, 0, 21));
        check.argument("a 31st with a wrong time", () -> box.note(0, 64, 20));
        check.argument("a 31st with a wrong pitch", () -> box.note(0, 1, 48));
        for (int time : new int[] {0, 30, 58}) {
            check.due("one of these", box.note(0, time, 20), 29);
            check.due("written again", box.note(0, time, 20), 30);
        }
        check.due("notes", box.ofTune(0, 0), 30);
    }
}
