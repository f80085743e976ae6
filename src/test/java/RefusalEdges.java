import java.util.function.Consumer;

/** What holds for all calls: refused ones change nothing, the exception named first is thrown, and 512 calls are answered. */
final class RefusalEdges {
    private static final String TERMS = "3. Playing";

    private final Edges edges;
    private final Check check;

    RefusalEdges(Edges edges) {
        this.edges = edges;
        check = edges.check;
    }

    void run() {
        edges.edge(TERMS, "A method that throws an exception changes nothing.", () -> {
            combAndTunes();
            barrelAndPlaying();
            asked();
        });
        edges.edge(TERMS, "If several exceptions apply, the one that is named first is thrown.", this::firstNamed);
        edges.edge("What it is", "An object is used for at most 512 calls after it has been made;", this::longest);
    }

    /** The refused calls on one of two like boxes leave it as the other one. */
    private void changeNothing(String calls, Consumer<PinBarrel> refused) {
        PinBarrel box = Boxes.busy();
        PinBarrel twin = Boxes.busy();
        refused.accept(box);
        check.due(calls + ": all is as in a box without these calls", Boxes.state(box), Boxes.state(twin));
    }

    private void combAndTunes() {
        changeNothing("tooth", box -> {
            check.state("the 25th", () -> box.tooth(20));
            check.argument("pitch 48", () -> box.tooth(48));
        });
        changeNothing("file", box -> {
            check.index("tooth 24", () -> box.file(24, 3));
            check.index("tooth -1", () -> box.file(-1, 3));
            check.argument("pitch 48", () -> box.file(0, 48));
            check.argument("pitch -1", () -> box.file(23, -1));
        });
        changeNothing("tune", box -> check.state("the 5th", () -> box.tune()));
        changeNothing("note", box -> {
            check.index("tune 4", () -> box.note(4, 1, 20));
            check.index("tune -1", () -> box.note(-1, 1, 20));
            check.argument("time 64", () -> box.note(0, 64, 20));
            check.argument("time -1", () -> box.note(0, -1, 20));
            check.argument("pitch 48", () -> box.note(0, 0, 48));
            check.argument("pitch -1", () -> box.note(1, 1, -1));
            check.state("a 31st", () -> box.note(3, 1, 20));
            check.state("a 31st", () -> box.note(3, 63, 47));
        });
    }

    private void barrelAndPlaying() {
        changeNothing("pin", box -> {
            check.index("tune 4", () -> box.pin(4, 0, 0));
            check.index("line 3", () -> box.pin(0, 3, 0));
            check.index("line -1", () -> box.pin(0, -1, 0));
            check.argument("25", () -> box.pin(0, 0, 25));
            check.argument("-25", () -> box.pin(0, 0, -25));
        });
        changeNothing("pull and shift", box -> {
            check.index("pull(3, false)", () -> box.pull(3, false));
            check.index("pull(-1, true)", () -> box.pull(-1, true));
            check.index("shift(3)", () -> box.shift(3));
            check.index("shift(-1)", () -> box.shift(-1));
        });
        changeNothing("wind, govern and play", box -> {
            check.argument("wind(0)", () -> box.wind(0));
            check.argument("wind(501)", () -> box.wind(501));
            check.argument("govern(0)", () -> box.govern(0));
            check.argument("govern(9)", () -> box.govern(9));
            check.argument("play(0)", () -> box.play(0));
            check.argument("play(129)", () -> box.play(129));
        });
    }

    private void asked() {
        changeNothing("what one asks", box -> {
            check.index("ofTooth(24, 0)", () -> box.ofTooth(24, 0));
            check.argument("ofTooth(0, 5)", () -> box.ofTooth(0, 5));
            check.index("pins(24, 0)", () -> box.pins(24, 0));
            check.index("wear(0, 0, 64)", () -> box.wear(0, 0, 64));
            check.index("row(64)", () -> box.row(64));
            check.index("ofTune(4, 0)", () -> box.ofTune(4, 0));
            check.argument("ofTune(0, 5)", () -> box.ofTune(0, 5));
            check.index("likeness(0, 4, 0)", () -> box.likeness(0, 4, 0));
            check.argument("likeness(0, 0, 25)", () -> box.likeness(0, 0, 25));
            check.index("heard(40)", () -> box.heard(40));
            check.index("when(-1)", () -> box.when(-1));
            check.argument("many(15)", () -> box.many(15));
            check.index("bestKey(0, 3)", () -> box.bestKey(0, 3));
            check.argument("wouldBuzz(129)", () -> box.wouldBuzz(129));
        });
    }

    private void firstNamed() {
        PinBarrel box = Boxes.busy();
        check.argument("tooth: the pitch, then the 24", () -> box.tooth(-1));
        check.index("file: the tooth, then the pitch", () -> box.file(24, 48));
        check.index("note: the tune, then time and pitch", () -> box.note(4, 64, 48));
        check.argument("note: the time, then the 30", () -> box.note(3, -1, 20));
        check.argument("note: the pitch, then the 30", () -> box.note(3, 1, 48));
        check.index("pin: the tune, then the key", () -> box.pin(-1, 0, -25));
        check.index("pin: the line, then the key", () -> box.pin(0, 3, 25));
        check.index("ofTooth: the tooth, then the question", () -> box.ofTooth(-1, -1));
        check.index("ofTune: the tune, then the question", () -> box.ofTune(4, 5));
        check.index("likeness: the first tune, then the key", () -> box.likeness(4, 0, 25));
        check.index("likeness: the second tune, then the key", () -> box.likeness(0, -1, -25));
    }

    /** 512 calls that play as many steps as may be, each answer compared with that of the Model. */
    private void longest() {
        PinBarrel box = new PinBarrel();
        Model model = new Model();
        check.due("govern", box.govern(1), model.govern(1));
        check.due("tooth", box.tooth(20), model.tooth(20));
        check.due("tune", box.tune(), model.tune());
        check.due("note", box.note(0, 63, 20), model.note(0, 63, 20));
        for (int call = 5; call <= 510; call++) {
            switch (call % 5) {
                case 0 -> check.due("wind", box.wind(500), model.wind(500));
                case 1 -> check.due("pin", box.pin(0, 0, 0), model.pin(0, 0, 0));
                case 2 -> check.due("mend", box.mend(), model.mend());
                default -> check.due("play", box.play(128), model.play(128));
            }
        }
        check.due("the 511th call", box.many(14), model.many(14));
        check.due("the 512th call", box.digest(), model.digest());
    }
}
