/** 'Barrel', and the promises 6 to 8. */
final class BarrelEdges {
    private static final String TERMS = "2. Barrel";
    private static final String PIN = "Promise 6: pin";
    private static final String PULL = "Promise 7: pull";
    private static final String SHIFT = "Promise 8: shift";

    private final Edges edges;
    private final Check check;

    BarrelEdges(Edges edges) {
        this.edges = edges;
        check = edges.check;
    }

    void run() {
        barrel();
        higher();
        near();
        choice();
        pinsByThen();
        wear();
        wearOfEach();
        pin();
        pull();
        shift();
    }

    private void barrel() {
        edges.edge(TERMS, "The BARREL has 64 PLACES round, and for each TOOTH 3 LINES (0, 1, 2), each of which may have a PIN at each PLACE.", () -> {
            for (int place = 0; place < 64; place++) {
                PinBarrel box = new PinBarrel();
                for (int tooth = 0; tooth < 24; tooth++) {
                    box.tooth(tooth);
                }
                int tune = Boxes.tune(box, place, 0, place, 23);
                for (int line = 0; line < 3; line++) {
                    check.due("none is lost", box.pin(tune, line, 0), 0);
                    check.due("the first tooth", box.pins(0, line), 1L << place);
                    check.due("the last tooth", box.pins(23, line), 1L << place);
                }
                check.due("pins", box.many(3), 6);
            }
        });
        edges.edge(TERMS, "It stands at a PLACE (0 at first) and in a SHIFT (0 at first):", () -> {
            PinBarrel box = new PinBarrel();
            check.due("the place", box.many(4), 0);
            check.due("the shift", box.many(5), 0);
        });
        edges.edge(TERMS, "the LINES with that number are under TEETH.", () -> {
            PinBarrel box = Boxes.withTeeth(20, 21);
            int tune = Boxes.tune(box, 7, 20);
            box.pin(tune, 2, 0);
            box.pin(tune, 1, 1);
            check.due("lines 0", box.row(7), "..");
            box.shift(1);
            check.due("lines 1", box.row(7), ".|");
            box.shift(2);
            check.due("lines 2", box.row(7), "|.");
        });
    }

    private void higher() {
        edges.edge(TERMS, "To PIN a TUNE into LINES of a number, n higher (-24 to 24): NOTE by NOTE, a TOOTH of its PITCH and n,", () -> {
            PinBarrel box = Boxes.withTeeth(0, 47);
            int tune = Boxes.tune(box, 0, 24, 1, 23);
            check.due("24 higher: 48 is no pitch", box.pin(tune, 0, 24), 1);
            check.due("that of 47", box.pins(1, 0), 2L);
            check.due("24 lower: -1 is no pitch", box.pin(tune, 0, -24), 1);
            check.due("that of 0", box.pins(0, 0), 1L);
        });
        edges.edge(TERMS, "that is whole", () -> {
            PinBarrel box = Boxes.broken();
            int tune = Boxes.tune(box, 50, 20);
            check.due("the broken one has none", box.pin(tune, 1, 0), 1);
            check.due("no pin", box.pins(0, 1), 0L);
            box.tooth(20);
            check.due("a whole one behind it", box.pin(tune, 1, 0), 0);
            check.due("its pin", box.pins(1, 1), 1L << 50);
            box.mend();
            check.due("mended", box.pin(tune, 1, 0), 0);
            check.due("its pin", box.pins(0, 1), 1L << 50);
        });
    }

    private void near() {
        edges.edge(TERMS, "at a PLACE that is less than 4 away from TIME,", () -> {
            for (int away = 1; away <= 5; away++) {
                PinBarrel box = Boxes.pinned(30);
                int tune = Boxes.tune(box, 30 + away, 20);
                check.due("lost, " + away + " away", box.pin(tune, 0, 0), away < 4 ? 1 : 0);
            }
        });
        edges.edge(TERMS, "to either side,", () -> {
            for (int away = 1; away <= 5; away++) {
                PinBarrel box = Boxes.pinned(30);
                int tune = Boxes.tune(box, 30 - away, 20);
                check.due("lost, " + away + " ahead", box.pin(tune, 0, 0), away < 4 ? 1 : 0);
            }
        });
        edges.edge(TERMS, "round (63 is beside 0):", () -> {
            for (int pinned : new int[] {60, 61, 62, 63, 0, 1, 2, 3}) {
                for (int time = (pinned + 60) % 64, away = -4; away <= 4; time = (time + 1) % 64, away++) {
                    PinBarrel box = Boxes.pinned(pinned);
                    int tune = Boxes.tune(box, time, 20);
                    int lost = Math.abs(away) < 4 ? 1 : 0;
                    check.due("lost at " + time + " with a pin at " + pinned, box.pin(tune, 0, 0), lost);
                }
            }
        });
        edges.edge(TERMS, "has no PIN in that LINE", () -> {
            PinBarrel box = Boxes.pinned(30);
            int tune = Boxes.tune(box, 30, 20);
            check.due("pins of other lines do not bar", box.pin(tune, 1, 0), 0);
            check.due("nor those", box.pin(tune, 2, 0), 0);
            PinBarrel two = Boxes.withTeeth(20, 21);
            int chord = Boxes.tune(two, 30, 20, 31, 21);
            check.due("nor pins of other teeth", two.pin(chord, 0, 0), 0);
        });
    }

    private void choice() {
        edges.edge(TERMS, "of those the one with the fewest PINS in that LINE,", () -> {
            PinBarrel box = Boxes.pinned(10, 20);
            box.tooth(20);
            int tune = Boxes.tune(box, 40, 20, 50, 20, 60, 20);
            check.due("none is lost", box.pin(tune, 0, 0), 0);
            check.due("two of three beside two", box.pins(1, 0), 1L << 40 | 1L << 50);
            check.due("then it is as many", box.pins(0, 0), 1L << 10 | 1L << 20 | 1L << 60);
            check.due("none is lost", box.pin(tune, 1, 0), 0);
            check.due("pins of other lines do not count", box.pins(0, 1), 1L << 40 | 1L << 60);
        });
        edges.edge(TERMS, "of several the smallest number;", () -> {
            PinBarrel box = Boxes.withTeeth(21, 20, 20, 20);
            int tune = Boxes.tune(box, 5, 20);
            box.pin(tune, 0, 0);
            check.due("the first of three", box.row(5), ".|..");
            box.pin(tune, 0, 0);
            check.due("the first of two", box.row(5), ".||.");
            box.pin(tune, 0, 0);
            check.due("the last", box.row(5), ".|||");
        });
        edges.edge(TERMS, "it gets a PIN at the PLACE TIME.", () -> {
            for (int time = 0; time < 64; time++) {
                PinBarrel box = Boxes.withTeeth(20);
                box.pin(Boxes.tune(box, time, 20), 0, 0);
                check.due("pins", box.pins(0, 0), 1L << time);
            }
        });
        edges.edge(TERMS, "Without such a TOOTH the NOTE is LOST.", () -> {
            PinBarrel box = new PinBarrel();
            int tune = Boxes.tune(box, 5, 20, 5, 22, 40, 22);
            check.due("no tooth at all", box.pin(tune, 0, 0), 3);
            box.tooth(21);
            check.due("none of their pitch", box.pin(tune, 0, 0), 3);
            box.tooth(22);
            check.due("one of two of them", box.pin(tune, 0, 0), 1);
            check.due("a lost one has no pin", box.ofTooth(0, 4), 0);
            check.due("the others are pinned", box.pins(1, 0), 1L << 5 | 1L << 40);
        });
    }

    private void pinsByThen() {
        edges.edge(TERMS, "All PINS that are in that LINE by then count, and bar: those of before,", () -> {
            PinBarrel box = Boxes.pinned(10);
            box.tooth(20);
            check.due("one that is 3 away goes to the next tooth", box.pin(Boxes.tune(box, 13, 20), 0, 0), 0);
            check.due("its pin", box.pins(1, 0), 1L << 13);
            check.due("as many: the first tooth", box.pin(Boxes.tune(box, 40, 20), 0, 0), 0);
            check.due("its pins", box.pins(0, 0), 1L << 10 | 1L << 40);
        });
        edges.edge(TERMS, "those that NOTES ahead got by the same pinning,", () -> {
            PinBarrel box = Boxes.withTeeth(20);
            int tune = Boxes.tune(box, 0, 20, 3, 20, 4, 20, 8, 20, 61, 20);
            check.due("3 behind 0, and 61, are lost", box.pin(tune, 0, 0), 2);
            check.due("pins", box.pins(0, 0), 1L | 1L << 4 | 1L << 8);
            PinBarrel two = Boxes.withTeeth(20, 20);
            check.due("none is lost", two.pin(Boxes.tune(two, 0, 20, 20, 20, 40, 20), 0, 0), 0);
            check.due("they count too", two.pins(1, 0), 1L << 20);
        });
        edges.edge(TERMS, "and one at the PLACE TIME itself.)", () -> {
            PinBarrel box = Boxes.pinned(10);
            int tune = Boxes.tune(box, 10, 20);
            check.due("lost", box.pin(tune, 0, 0), 1);
            check.due("the same pin", box.pins(0, 0), 1L << 10);
            PinBarrel worn = Boxes.wound(Boxes.pinned(1), 500);
            worn.play(1);
            check.due("lost", worn.pin(Boxes.tune(worn, 1, 20), 0, 0), 1);
            check.due("its wear stays", worn.wear(0, 0, 1), 1);
        });
    }

    private void wear() {
        edges.edge(TERMS, "A PIN has a WEAR (0 at first).", () -> {
            PinBarrel box = Boxes.wound(Boxes.pinned(1), 2000);
            check.due("a first pin", box.wear(0, 0, 1), 0);
            box.play(1);
            check.due("plucked", box.wear(0, 0, 1), 1);
            box.pull(0, false);
            int tune = Boxes.tune(box, 1, 20);
            box.pin(tune, 0, 0);
            check.due("a new pin at a place of one that was pulled", box.wear(0, 0, 1), 0);
            for (int turn = 0; turn < 5; turn++) {
                box.play(64);
            }
            check.due("gone", box.wear(0, 0, 1), -1);
            box.pin(tune, 0, 0);
            check.due("a new pin at a place of one that is gone", box.wear(0, 0, 1), 0);
        });
    }

    private void wearOfEach() {
        edges.edge(TERMS, "A PIN has a WEAR", () -> {
            PinBarrel box = Boxes.wound(new PinBarrel(), 2000);
            for (int tooth = 0; tooth < 24; tooth++) {
                box.tooth(tooth);
            }
            box.tune();
            for (int line = 0; line < 3; line++) {
                wearInto(box, line);
            }
            for (int tooth = 0; tooth < 24; tooth++) {
                for (int line = 0; line < 3; line++) {
                    check.due("of tooth " + tooth + " in line " + line, box.wear(tooth, line, 1), wearDue(tooth, line));
                }
            }
        });
    }

    /** Another one for each LINE of a TOOTH, and for the LINES of those beside it. */
    private static int wearDue(int tooth, int line) {
        return (2 * tooth + 3 * line) % 5;
    }

    /** Pins at the PLACE 1 first what is to be plucked four times, then three times, and so on, a round for each. */
    private void wearInto(PinBarrel box, int line) {
        box.shift(line);
        for (int wear = 4; wear >= 0; wear--) {
            for (int tooth = 0; tooth < 24; tooth++) {
                if (wearDue(tooth, line) == wear) {
                    box.note(0, 1, tooth);
                }
            }
            check.due("none is lost", box.pin(0, line, 0), 0);
            if (wear > 0) {
                box.play(64);
            }
            for (int tooth = 0; tooth < 24; tooth++) {
                if (wearDue(tooth, line) == wear) {
                    box.note(0, 1, tooth);
                }
            }
        }
    }

    private void pin() {
        edges.edge(PIN, "Returns how many NOTES are LOST.", () -> {
            PinBarrel box = Boxes.withTeeth(20);
            int empty = box.tune();
            check.due("without notes", box.pin(empty, 0, 0), 0);
            int full = box.tune();
            for (int i = 0; i < 30; i++) {
                box.note(full, 2 * i, 20);
            }
            check.due("30 notes, each other one", box.pin(full, 0, 0), 15);
            check.due("all", box.pin(full, 0, 0), 30);
            check.due("all in another key", box.pin(full, 1, 1), 30);
        });
        edges.edge(PIN, "Throws `IndexOutOfBoundsException` if there is no such TUNE, or LINE", () -> {
            PinBarrel box = Boxes.withTeeth(20);
            check.index("without tunes", () -> box.pin(0, 0, 0));
            Boxes.tune(box, 1, 20);
            check.index("tune -1", () -> box.pin(-1, 0, 0));
            check.index("tune 1", () -> box.pin(1, 0, 0));
            check.index("tune 1, with a wrong key", () -> box.pin(1, 0, 25));
            check.index("line -1", () -> box.pin(0, -1, 0));
            check.index("line 3", () -> box.pin(0, 3, 0));
            check.index("line 3, with a wrong key", () -> box.pin(0, 3, -25));
            check.due("no pins", box.many(3), 0);
            check.due("line 2", box.pin(0, 2, 0), 0);
        });
        edges.edge(PIN, "Throws `IllegalArgumentException` if higher is not -24 to 24", () -> {
            PinBarrel box = Boxes.withTeeth(20);
            Boxes.tune(box, 1, 20);
            check.argument("25", () -> box.pin(0, 0, 25));
            check.argument("-25", () -> box.pin(0, 0, -25));
            check.due("24", box.pin(0, 0, 24), 1);
            check.due("-24", box.pin(0, 0, -24), 1);
        });
    }

    private void pull() {
        edges.edge(PULL, "whether only those with a WEAR of 3 or more", () -> {
            for (int place : new int[] {0, 10, 63}) {
                PinBarrel box = Boxes.worn(place);
                check.due("wears", Boxes.wears(box, place), "4 3 2");
                check.due("those with 4 and 3", box.pull(0, true), 2);
                check.due("wears", Boxes.wears(box, place), "-1 -1 2");
                check.due("all", box.pull(0, false), 1);
                check.due("wears", Boxes.wears(box, place), "-1 -1 -1");
            }
        });
        edges.edge(PULL, "Returns how many are pulled out.", () -> {
            PinBarrel box = Boxes.pinned(0, 16, 32, 60);
            check.due("of lines without pins", box.pull(1, false), 0);
            check.due("none is worn", box.pull(0, true), 0);
            check.due("all", box.pull(0, false), 4);
            check.due("none is left", box.pull(0, false), 0);
            check.due("pulled ones are not gone by wear", box.many(12), 0);
            check.due("without teeth", new PinBarrel().pull(0, false), 0);
        });
        edges.edge(PULL, "Pulls PINS out of LINES of a number.", () -> {
            PinBarrel box = Boxes.withTeeth(20, 20);
            int tune = Boxes.tune(box, 0, 20, 2, 20);
            for (int line = 0; line < 3; line++) {
                box.pin(tune, line, 0);
            }
            check.due("of both teeth", box.pull(1, false), 2);
            check.due("the line ahead stays", box.pins(1, 0), 1L << 2);
            check.due("none", box.pins(0, 1) | box.pins(1, 1), 0L);
            check.due("the line behind stays", box.pins(0, 2), 1L);
        });
        edges.edge(PULL, "Throws `IndexOutOfBoundsException` if there is no such LINE", () -> {
            PinBarrel box = Boxes.pinned(5);
            check.index("-1", () -> box.pull(-1, false));
            check.index("3", () -> box.pull(3, true));
            check.due("pins", box.many(3), 1);
            check.due("2", box.pull(2, false), 0);
        });
    }

    private void shift() {
        edges.edge(SHIFT, "Returns that before.", () -> {
            PinBarrel box = new PinBarrel();
            check.due("at first", box.shift(2), 0);
            check.due("the same again", box.shift(2), 2);
            check.due("back", box.shift(0), 2);
            check.due("the shift", box.many(5), 0);
        });
        edges.edge(SHIFT, "Throws `IndexOutOfBoundsException` if there is no such LINE", () -> {
            PinBarrel box = new PinBarrel();
            check.index("-1", () -> box.shift(-1));
            check.index("3", () -> box.shift(3));
            check.due("0", box.shift(0), 0);
            check.due("1", box.shift(1), 0);
        });
    }
}
