/** Promises 23 to 26. */
public final class WouldBeTest {
    private static final Check check = new Check();

    public static void main(String[] args) {
        bestKeyNearest();
        bestKeyFewest();
        bestKeyEdges();
        bestKeyRefused();
        lasts();
        lastsWithWear();
        wouldBuzz();
        wouldBuzzLater();
        wouldBuzzRefused();
        digest();
        check.end();
    }

    private static void bestKeyNearest() {
        PinBarrel box = Boxes.withTeeth(18, 22);
        int tune = Boxes.tune(box, 0, 20);
        check.due("of two the one above 0", box.bestKey(tune, 0), 2);
        box.file(1, 23);
        check.due("the nearer one", box.bestKey(tune, 0), -2);
        box.tooth(20);
        check.due("0 is nearest", box.bestKey(tune, 0), 0);
        int empty = box.tune();
        check.due("no notes", box.bestKey(empty, 0), 0);
        PinBarrel bare = new PinBarrel();
        Boxes.tune(bare, 0, 20);
        check.due("all are lost in each key", bare.bestKey(0, 2), 0);
    }

    private static void bestKeyFewest() {
        PinBarrel box = Boxes.withTeeth(10, 12, 30, 32, 34);
        int tune = Boxes.tune(box, 0, 20, 8, 22, 16, 24);
        check.due("all three, far away", box.bestKey(tune, 0), 10);
        Boxes.tune(box, 1, 30);
        box.pin(1, 0, 0);
        check.due("one is barred there: two in either key", box.bestKey(tune, 0), 8);
        check.due("another line", box.bestKey(tune, 1), 10);
        PinBarrel close = Boxes.withTeeth(20, 25, 25);
        int two = Boxes.tune(close, 0, 20, 2, 20);
        check.due("pins that the same pinning would set bar too", close.bestKey(two, 0), 5);
        check.due("nothing is pinned by that", close.many(3), 0);
        Boxes.wound(close, 500);
        check.due("nor heard", close.play(64), 0);
    }

    private static void bestKeyEdges() {
        PinBarrel box = Boxes.withTeeth(47, 0);
        int up = Boxes.tune(box, 0, 23);
        check.due("24 higher is too far off, 23 lower is not", box.bestKey(up, 0), -23);
        box.file(1, 1);
        int far = Boxes.tune(box, 0, 25);
        check.due("22 higher", box.bestKey(far, 0), 22);
        PinBarrel high = Boxes.withTeeth(47);
        check.due("24 higher", high.bestKey(Boxes.tune(high, 0, 23), 0), 24);
        check.due("25 higher is no key", high.bestKey(Boxes.tune(high, 0, 22), 0), 0);
        PinBarrel low = Boxes.withTeeth(0);
        check.due("24 lower", low.bestKey(Boxes.tune(low, 0, 24), 0), -24);
        check.due("25 lower is no key", low.bestKey(Boxes.tune(low, 0, 25), 0), 0);
    }

    private static void bestKeyRefused() {
        PinBarrel box = Boxes.withTeeth(5);
        check.index("no tune", () -> box.bestKey(0, 0));
        box.tune();
        check.index("tune -1", () -> box.bestKey(-1, 0));
        check.index("tune 1", () -> box.bestKey(1, 0));
        check.index("line -1", () -> box.bestKey(0, -1));
        check.index("line 3", () -> box.bestKey(0, 3));
    }

    private static void lasts() {
        PinBarrel box = new PinBarrel();
        check.due("not wound", box.lasts(), 0);
        box.wind(1);
        check.due("1", box.lasts(), 1);
        box.wind(1);
        check.due("2", box.lasts(), 1);
        box.wind(1);
        check.due("3", box.lasts(), 2);
        Boxes.wound(box, 1997);
        check.due("2000", box.lasts(), 1000);
        String before = Boxes.all(box);
        box.lasts();
        check.due("nothing is changed", Boxes.all(box), before);
    }

    private static void lastsWithWear() {
        PinBarrel box = Boxes.pinned(1, 5, 9, 13, 17, 33, 49);
        Boxes.wound(box, 2000);
        int lasts = box.lasts();
        long pins = box.pins(0, 0);
        check.due("five plucks until it breaks", lasts, (2000 - 5 + 1) / 2);
        check.due("still there", box.wear(0, 0, 1), 0);
        check.due("still whole", box.ofTooth(0, 1), 0);
        check.due("pins", box.pins(0, 0), pins);
        for (int i = 0; i < 8; i++) {
            box.play(128);
        }
        check.due("as it was played", box.many(8), lasts);
        check.due("it stands now", box.lasts(), 0);
        PinBarrel sparse = Boxes.wound(Boxes.pinned(20), 2000);
        check.due("five plucks until the pin is gone", sparse.lasts(), (2000 - 5 + 1) / 2);
        PinBarrel shifted = Boxes.wound(Boxes.pinned(20), 2000);
        shifted.shift(1);
        check.due("no pins under the teeth", shifted.lasts(), 1000);
    }

    private static void wouldBuzz() {
        PinBarrel box = Boxes.wound(Boxes.pinned(1, 5, 9, 20), 2000);
        check.due("in 4 steps", box.wouldBuzz(4), 0);
        check.due("in 5 steps", box.wouldBuzz(5), 1);
        check.due("in 9 steps", box.wouldBuzz(9), 2);
        check.due("in 64 steps", box.wouldBuzz(64), 2);
        check.due("then it breaks", box.wouldBuzz(128), 4);
        check.due("nothing is changed", Boxes.all(box), "1 0 1 4 0 0 2000 4 0 0 0 0 0 0 0");
        check.due("nor the tooth", box.ofTooth(0, 2), 0);
        check.due("nor the pins", box.wear(0, 0, 5), 0);
        box.play(5);
        check.due("only those in these steps", box.wouldBuzz(4), 1);
        check.due("buzzes", box.many(11), 1);
        PinBarrel weak = Boxes.pinned(1, 5);
        weak.wind(8);
        check.due("the spring ends ahead of it", weak.wouldBuzz(128), 0);
        check.due("without spring", Boxes.pinned(1, 5).wouldBuzz(128), 0);
        PinBarrel two = Boxes.withTeeth(20, 30);
        int tune = Boxes.tune(two, 1, 20, 1, 30, 5, 20, 5, 30);
        two.pin(tune, 0, 0);
        two.wind(500);
        check.due("each as often as it does", two.wouldBuzz(5), 2);
    }

    /** What was plucked ahead of the question counts, and only the LINES under the TEETH do. */
    private static void wouldBuzzLater() {
        PinBarrel box = Boxes.wound(Boxes.pinned(20, 24), 500);
        box.play(20);
        check.due("plucked 4 steps ago by then", box.wouldBuzz(4), 1);
        PinBarrel shifted = Boxes.withTeeth(20);
        int tune = Boxes.tune(shifted, 20, 20, 24, 20);
        shifted.pin(tune, 2, 0);
        shifted.wind(500);
        check.due("not under the teeth", shifted.wouldBuzz(64), 0);
        shifted.shift(2);
        check.due("under the teeth", shifted.wouldBuzz(64), 1);
        check.due("lasts", shifted.lasts(), (500 - 8 + 1) / 2);
        shifted.shift(0);
        check.due("back again", shifted.wouldBuzz(64), 0);
    }

    private static void wouldBuzzRefused() {
        PinBarrel box = new PinBarrel();
        check.argument("wouldBuzz(0)", () -> box.wouldBuzz(0));
        check.argument("wouldBuzz(-1)", () -> box.wouldBuzz(-1));
        check.argument("wouldBuzz(129)", () -> box.wouldBuzz(129));
        check.due("wouldBuzz(128)", box.wouldBuzz(128), 0);
    }

    private static void digest() {
        PinBarrel box = new PinBarrel();
        check.due("of a new box", box.digest(), told(box, 0));
        Boxes.tune(box, 0, 20, 4, 22);
        check.due("with a tune", box.digest(), told(box, 0));
        box.tooth(22);
        box.tooth(24);
        box.pin(0, 1, 2);
        check.due("with pins", box.digest(), told(box, 0));
        box.shift(1);
        Boxes.wound(box, 2000);
        box.govern(8);
        box.play(4);
        long sounds = 0;
        double clock = 0.0625 * 4;
        sounds = sounds * 31 + 24;
        sounds = sounds * 31 + (long) (clock * 8.0);
        check.due("with a sound", box.digest(), told(box, sounds));
        check.due("nothing is changed", box.digest(), told(box, sounds));
        digestOfBuzzes();
        digestOfLateSound();
    }

    private static void digestOfBuzzes() {
        PinBarrel box = Boxes.pinned(8, 12, 16);
        box.wind(500);
        check.due("in 15", box.wouldBuzz(15), 1);
        check.due("in 16", box.wouldBuzz(16), 2);
        check.due("with buzzes", box.digest(), told(box, 0));
        PinBarrel next = Boxes.pinned(13, 17);
        next.wind(500);
        check.due("in 17", next.wouldBuzz(17), 1);
        check.due("not with that of the 17th step", next.digest(), told(next, 0));
    }

    /** Its CLOCK is taken as it was, not as when() rounds it. */
    private static void digestOfLateSound() {
        for (int place = 40; place < 64; place++) {
            PinBarrel box = Boxes.pinned(place);
            box.govern(1);
            box.wind(400);
            double clock = 0.0;
            for (int step = 0; step < place; step++) {
                clock += 0.125 / (0.125 + (400 - 2 * step) / 1024.0);
            }
            box.play(place);
            check.due("with a late sound", box.digest(), told(box, 20 * 31 + (long) (clock * 8.0)));
        }
    }

    /** The checksum as the document tells it, with what is told of at most one SOUND. */
    private static long told(PinBarrel box, long sounds) {
        long d = 58312;
        for (int what = 0; what <= 14; what++) {
            d = d * 31 + box.many(what);
        }
        for (int tooth = 0; tooth < box.many(0); tooth++) {
            for (int what = 0; what <= 4; what++) {
                d = d * 31 + box.ofTooth(tooth, what);
            }
            for (int line = 0; line <= 2; line++) {
                d = d * 31 + box.pins(tooth, line);
            }
        }
        for (int tune = 0; tune < box.many(2); tune++) {
            for (int what = 0; what <= 4; what++) {
                d = d * 31 + box.ofTune(tune, what);
            }
            d = d * 31 + box.bestKey(tune, 0);
        }
        if (box.many(10) == 1) {
            d = d * 31 * 31 + sounds;
        }
        d = d * 31 + box.lasts();
        return d * 31 + box.wouldBuzz(16);
    }
}
