/** Promises 1 to 5. */
public final class CombTest {
    private static final Check check = new Check();

    public static void main(String[] args) {
        newObject();
        tooth();
        file();
        tune();
        note();
        fullTune();
        check.end();
    }

    private static void newObject() {
        PinBarrel box = new PinBarrel();
        check.due("many of a new box", Boxes.all(box), "0 0 0 0 0 0 0 4 0 0 0 0 0 0 0");
        check.due("speed of a new box", box.speed(), 0.5);
        check.due("row of a new box", box.row(0), "");
        check.due("lasts of a new box", box.lasts(), 0);
        check.due("play of a new box", box.play(128), 0);
        check.index("ofTooth without teeth", () -> box.ofTooth(0, 0));
        check.index("ofTune without tunes", () -> box.ofTune(0, 0));
        check.index("heard without sounds", () -> box.heard(0));
        PinBarrel other = Boxes.withTeeth(3);
        other.tune();
        check.due("another box shares nothing", Boxes.all(box), "0 0 0 0 0 0 0 4 0 0 0 0 0 0 0");
    }

    private static void tooth() {
        PinBarrel box = new PinBarrel();
        check.argument("tooth(-1)", () -> box.tooth(-1));
        check.argument("tooth(48)", () -> box.tooth(48));
        check.argument("tooth(least int)", () -> box.tooth(Integer.MIN_VALUE));
        check.argument("tooth(greatest int)", () -> box.tooth(Integer.MAX_VALUE));
        check.due("teeth after refusals", box.many(0), 0);
        for (int i = 0; i < 24; i++) {
            int pitch = i % 2 == 0 ? 0 : 47;
            check.due("tooth", box.tooth(pitch), i);
            check.due("its pitch", box.ofTooth(i, 0), pitch);
            check.due("whole", box.ofTooth(i, 1), 0);
        }
        check.state("tooth the 25th", () -> box.tooth(0));
        check.argument("tooth the 25th, wrong pitch first", () -> box.tooth(48));
        check.due("teeth", box.many(0), 24);
    }

    private static void file() {
        PinBarrel box = Boxes.withTeeth(7, 9);
        int tune = Boxes.tune(box, 5, 7, 20, 9);
        box.pin(tune, 1, 0);
        check.due("file(0, 47)", box.file(0, 47), 7);
        check.due("file(0, 0)", box.file(0, 0), 47);
        check.due("pitch of 0", box.ofTooth(0, 0), 0);
        check.due("pitch of 1", box.ofTooth(1, 0), 9);
        check.due("pins stay", box.pins(0, 1), 1L << 5);
        check.due("the note is lost now", box.pin(tune, 2, 0), 1);
        check.index("file(-1, 0)", () -> box.file(-1, 0));
        check.index("file(2, 0)", () -> box.file(2, 0));
        check.index("file(2, 48): the tooth first", () -> box.file(2, 48));
        check.argument("file(0, -1)", () -> box.file(0, -1));
        check.argument("file(0, 48)", () -> box.file(0, 48));
        check.due("pitch after refusals", box.ofTooth(0, 0), 0);
    }

    private static void tune() {
        PinBarrel box = new PinBarrel();
        for (int i = 0; i < 4; i++) {
            check.due("tune()", box.tune(), i);
            check.due("its notes", box.ofTune(i, 0), 0);
        }
        check.state("tune() the 5th", () -> box.tune());
        check.due("tunes", box.many(2), 4);
    }

    private static void note() {
        PinBarrel box = new PinBarrel();
        check.index("note without tunes", () -> box.note(0, 0, 0));
        box.tune();
        box.tune();
        check.due("note(1, 63, 47)", box.note(1, 63, 47), 1);
        check.due("note(1, 0, 0)", box.note(1, 0, 0), 2);
        check.due("note(1, 0, 47)", box.note(1, 0, 47), 3);
        check.due("note(1, 63, 0)", box.note(1, 63, 0), 4);
        check.due("other tune", box.ofTune(0, 0), 0);
        check.due("struck out", box.note(1, 0, 47), 3);
        check.due("the lowest left", box.ofTune(1, 1), 0);
        check.due("struck out", box.note(1, 0, 0), 2);
        check.due("struck out", box.note(1, 63, 0), 1);
        check.due("the lowest left", box.ofTune(1, 1), 47);
        check.due("struck out", box.note(1, 63, 47), 0);
        check.due("written anew", box.note(1, 63, 47), 1);
        check.index("note(-1, ..)", () -> box.note(-1, 0, 0));
        check.index("note(2, ..)", () -> box.note(2, 64, 48));
        check.argument("time -1", () -> box.note(0, -1, 0));
        check.argument("time 64", () -> box.note(0, 64, 0));
        check.argument("pitch -1", () -> box.note(0, 1, -1));
        check.argument("pitch 48", () -> box.note(0, 0, 48));
        check.due("after refusals", box.ofTune(0, 0), 0);
    }

    private static void fullTune() {
        PinBarrel box = new PinBarrel();
        box.tune();
        for (int i = 0; i < 30; i++) {
            check.due("note", box.note(0, 63 - 2 * i, 10), i + 1);
        }
        check.state("the 31st", () -> box.note(0, 0, 10));
        check.state("the 31st, same time", () -> box.note(0, 63, 11));
        check.argument("the 31st, wrong time first", () -> box.note(0, 64, 10));
        check.argument("the 31st, wrong pitch first", () -> box.note(0, 0, 48));
        check.due("struck out of a full one", box.note(0, 63, 10), 29);
        check.due("room again", box.note(0, 0, 10), 30);
        check.due("times", box.ofTune(0, 3), 30);
        lastTuneFull();
    }

    private static void lastTuneFull() {
        PinBarrel box = new PinBarrel();
        for (int tune = 0; tune < 4; tune++) {
            box.tune();
            for (int i = 0; i < 30; i++) {
                check.due("note", box.note(tune, 2 * i, 10 + tune), i + 1);
            }
        }
        check.due("like itself", box.likeness(3, 3, 0), 1.0);
        check.due("one lower, told one higher", box.likeness(3, 2, 1), 1.0);
        check.due("struck out of the last tune", box.note(3, 58, 13), 29);
        check.due("struck out of the last tune", box.note(3, 0, 13), 28);
        check.due("the tune ahead stays", box.ofTune(2, 2), 12);
        check.due("the struck ones do not count", box.likeness(3, 2, 1), 28.0 / 30.0);
        check.due("the struck ones do not count", box.likeness(2, 3, -1), 28.0 / 30.0);
    }
}
