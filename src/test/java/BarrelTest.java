/** Promises 6 to 8. */
public final class BarrelTest {
    private static final Check check = new Check();

    public static void main(String[] args) {
        pinNear();
        pinRound();
        pinChoice();
        pinOrder();
        pinKeys();
        pinBroken();
        pinRefused();
        pull();
        lastTooth();
        shift();
        check.end();
    }

    private static void pinNear() {
        for (int away = 0; away < 8; away++) {
            PinBarrel box = Boxes.pinned(20);
            int tune = Boxes.tune(box, 20 + away, 20);
            check.due("lost " + away + " behind a pin", box.pin(tune, 0, 0), away < 4 ? 1 : 0);
            check.due("other line " + away + " behind a pin", box.pin(tune, 1, 0), 0);
        }
        for (int away = 0; away < 8; away++) {
            PinBarrel box = Boxes.pinned(20);
            int tune = Boxes.tune(box, 20 - away, 20);
            check.due("lost " + away + " ahead of a pin", box.pin(tune, 0, 0), away < 4 ? 1 : 0);
        }
    }

    private static void pinRound() {
        for (int time = 0; time < 64; time++) {
            for (int pinned : new int[] {0, 1, 2, 3, 31, 60, 61, 62, 63}) {
                PinBarrel box = Boxes.pinned(pinned);
                int tune = Boxes.tune(box, time, 20);
                int way = Math.abs(time - pinned);
                boolean isBarred = Math.min(way, 64 - way) < 4;
                check.due("lost at " + time + " with " + pinned, box.pin(tune, 0, 0), isBarred ? 1 : 0);
                long both = 1L << pinned | (isBarred ? 0L : 1L << time);
                check.due("pins", box.pins(0, 0), both);
            }
        }
    }

    private static void pinChoice() {
        PinBarrel box = Boxes.withTeeth(5, 6, 5, 5);
        int tune = Boxes.tune(box, 0, 5, 10, 5, 20, 5, 30, 5);
        check.due("none lost", box.pin(tune, 0, 0), 0);
        check.due("the smallest number first, then the fewest pins", box.pins(0, 0), 1L | 1L << 30);
        check.due("second", box.pins(2, 0), 1L << 10);
        check.due("third", box.pins(3, 0), 1L << 20);
        check.due("of another pitch", box.pins(1, 0), 0L);
        int same = Boxes.tune(box, 1, 5);
        box.pin(same, 1, 0);
        check.due("only the pins of that line count", box.pins(0, 1), 2L);
        check.due("again the same place", box.pin(tune, 0, 0), 0);
        check.due("goes beside", box.pins(2, 0), 1L << 10 | 1L | 1L << 30);
        check.due("goes beside", box.pins(3, 0), 1L << 20 | 1L << 10);
        check.due("goes beside", box.pins(0, 0), 1L | 1L << 20 | 1L << 30);
        check.due("a third time", box.pin(tune, 0, 0), 0);
        check.due("all full", box.pin(tune, 0, 0), 4);
        check.due("pins", box.many(3), 13);
    }

    private static void pinOrder() {
        PinBarrel box = Boxes.withTeeth(5);
        int tune = Boxes.tune(box, 12, 5, 10, 5, 7, 5, 3, 5, 0, 5);
        check.due("lost in the order of time", box.pin(tune, 0, 0), 2);
        check.due("pins", box.pins(0, 0), 1L | 1L << 7 | 1L << 12);
        PinBarrel chord = Boxes.withTeeth(9, 8);
        int two = Boxes.tune(chord, 4, 9, 4, 8);
        check.due("a chord", chord.pin(two, 0, 0), 0);
        check.due("its row", chord.row(4), "||");
    }

    private static void pinKeys() {
        PinBarrel box = Boxes.withTeeth(0, 24, 47);
        int low = Boxes.tune(box, 0, 0, 8, 23, 16, 24);
        check.due("24 higher", box.pin(low, 0, 24), 1);
        check.due("of 23", box.pins(2, 0), 1L << 8);
        check.due("of 0", box.pins(1, 0), 1L);
        check.due("24 lower", box.pin(low, 1, -24), 2);
        check.due("of 24", box.pins(0, 1), 1L << 16);
        check.due("wear at first", box.wear(0, 1, 16), 0);
    }

    private static void pinBroken() {
        PinBarrel box = Boxes.withTeeth(20, 20);
        breakTooth(box);
        check.due("broken", box.ofTooth(0, 1), 1);
        int tune = Boxes.tune(box, 50, 20);
        check.due("the whole one", box.pin(tune, 2, 0), 0);
        check.due("not the broken one", box.pins(0, 2), 0L);
        check.due("but the next", box.pins(1, 2), 1L << 50);
        check.due("no more", box.pin(tune, 2, 0), 1);
        box.mend();
        check.due("mended", box.pin(tune, 2, 0), 0);
        check.due("now it has one", box.pins(0, 2), 1L << 50);
    }

    /** Plucks TOOTH 0 at PLACES 4 apart, until it is BROKEN. */
    private static void breakTooth(PinBarrel box) {
        box.file(1, 0);
        int tune = Boxes.tune(box, 4, 20, 8, 20, 12, 20, 16, 20, 20, 20);
        box.pin(tune, 0, 0);
        Boxes.wound(box, 500);
        box.play(20);
        box.file(1, 20);
    }

    private static void pinRefused() {
        PinBarrel box = Boxes.withTeeth(5);
        check.index("pin without tunes", () -> box.pin(0, 0, 0));
        Boxes.tune(box, 0, 5);
        check.index("tune -1", () -> box.pin(-1, 0, 0));
        check.index("tune 1", () -> box.pin(1, 0, 25));
        check.index("line -1", () -> box.pin(0, -1, 25));
        check.index("line 3", () -> box.pin(0, 3, 0));
        check.argument("higher 25", () -> box.pin(0, 0, 25));
        check.argument("higher -25", () -> box.pin(0, 0, -25));
        check.due("no pins", box.many(3), 0);
        int empty = box.tune();
        check.due("a tune without notes", box.pin(empty, 0, 0), 0);
    }

    private static void pull() {
        PinBarrel box = Boxes.withTeeth(20, 30);
        int tune = Boxes.tune(box, 10, 20, 30, 30, 63, 20, 0, 30);
        box.pin(tune, 0, 0);
        box.pin(tune, 1, 0);
        Boxes.wound(box, 2000);
        check.due("none is worn", box.pull(0, true), 0);
        box.play(128);
        check.due("a wear of 2 is not worn", box.pull(0, true), 0);
        box.play(40);
        check.due("wear of 3", box.wear(0, 0, 10), 3);
        check.due("two are worn", box.pull(0, true), 2);
        check.due("no pin there now", box.wear(0, 0, 10), -1);
        check.due("the others stay", box.pins(0, 0), 1L << 63);
        check.due("the others stay", box.pins(1, 0), 1L);
        check.due("the other line stays", box.pins(0, 1), 1L << 10 | 1L << 63);
        check.due("all", box.pull(0, false), 2);
        check.due("none left", box.pull(0, false), 0);
        check.due("pins", box.many(3), 4);
        check.due("pulled pins are not gone by wear", box.many(12), 0);
        box.pin(tune, 0, 0);
        check.due("a new pin has no wear", box.wear(0, 0, 10), 0);
        check.due("one without wear is pulled out, too", box.pull(0, false), 4);
        box.pin(tune, 0, 0);
        check.index("pull(-1, ..)", () -> box.pull(-1, false));
        check.index("pull(3, ..)", () -> box.pull(3, false));
        check.due("pins after refusals", box.many(3), 8);
    }

    /** The last LINE of the last TOOTH, with PINS at its first PLACE and its last one. */
    private static void lastTooth() {
        PinBarrel box = new PinBarrel();
        for (int i = 0; i < 24; i++) {
            box.tooth(i);
        }
        int tune = Boxes.tune(box, 0, 23, 51, 23);
        check.due("none lost", box.pin(tune, 2, 0), 0);
        box.shift(2);
        Boxes.wound(box, 2000);
        check.due("none worn", box.pull(2, true), 0);
        check.due("lasts", box.lasts(), (2000 - 10 + 1) / 2);
        check.due("none broken", box.many(1), 0);
        check.due("pins", box.many(3), 2);
        box.play(128);
        box.play(64);
        check.due("wear of the last tooth", box.wear(23, 2, 0), 3);
        check.due("wear of the last tooth", box.wear(23, 2, 51), 3);
        check.due("mended", box.mend(), 2);
        check.due("no wear now", box.wear(23, 2, 0), 0);
        check.due("the row", box.row(0), ".".repeat(23) + "|");
        check.due("all pulled", box.pull(2, false), 2);
    }

    private static void shift() {
        PinBarrel box = Boxes.withTeeth(20);
        int tune = Boxes.tune(box, 1, 20);
        box.pin(tune, 2, 0);
        check.due("shift(2)", box.shift(2), 0);
        check.due("its row", box.row(1), "|");
        check.due("shift(1)", box.shift(1), 2);
        check.due("its row", box.row(1), ".");
        check.due("the same again", box.shift(1), 1);
        check.index("shift(-1)", () -> box.shift(-1));
        check.index("shift(3)", () -> box.shift(3));
        check.due("many(5)", box.many(5), 1);
        Boxes.wound(box, 500);
        check.due("not under it", box.play(1), 0);
        box.shift(2);
        check.due("under it", box.play(64), 1);
    }
}
