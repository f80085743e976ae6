import java.math.BigInteger;
import java.util.ArrayList;
import java.util.List;

/** What would be: the promises 23 to 26. */
final class WouldBeEdges {
    private static final String BEST_KEY = "Promise 23: bestKey";
    private static final String LASTS = "Promise 24: lasts";
    private static final String WOULD_BUZZ = "Promise 25: wouldBuzz";
    private static final String DIGEST = "Promise 26: digest";

    private final Edges edges;
    private final Check check;

    WouldBeEdges(Edges edges) {
        this.edges = edges;
        check = edges.check;
    }

    void run() {
        bestKey();
        bestKeyOfSeveral();
        bestKeyRefused();
        lasts();
        wouldBuzz();
        nothingIsChanged();
        digest();
        digestOfSounds();
        digestOfKeptSounds();
    }

    private void bestKey() {
        edges.edge(BEST_KEY, "Returns n of -24 to 24", () -> {
            PinBarrel high = Boxes.withTeeth(47);
            check.due("24", high.bestKey(Boxes.tune(high, 0, 23), 0), 24);
            check.due("25 is none", high.bestKey(Boxes.tune(high, 0, 22), 0), 0);
            PinBarrel low = Boxes.withTeeth(0);
            check.due("-24", low.bestKey(Boxes.tune(low, 0, 24), 0), -24);
            check.due("-25 is none", low.bestKey(Boxes.tune(low, 0, 25), 0), 0);
        });
        edges.edge(BEST_KEY, "with which the fewest NOTES would be LOST,", () -> {
            PinBarrel box = Boxes.withTeeth(20, 29, 31);
            int tune = Boxes.tune(box, 0, 20, 8, 22, 16, 24);
            check.due("one of three, and not two as with 0", box.bestKey(tune, 0), 7);
            PinBarrel same = Boxes.withTeeth(20, 30, 30);
            int near = Boxes.tune(same, 0, 20, 3, 20);
            check.due("those that the same pinning would set bar", same.bestKey(near, 0), 10);
        });
        edges.edge(BEST_KEY, "if it was PINNED into these;", () -> {
            PinBarrel box = Boxes.pinned(3);
            box.tooth(22);
            int tune = Boxes.tune(box, 0, 20);
            check.due("a pin of before bars", box.bestKey(tune, 0), 2);
            check.due("not in another line", box.bestKey(tune, 2), 0);
            check.due("nor when it is asked again", box.bestKey(tune, 2), 0);
            box.pin(tune, 2, 0);
            check.due("there it does now", box.bestKey(tune, 2), 2);
            check.due("not in a third one", box.bestKey(tune, 1), 0);
            PinBarrel broken = Boxes.broken();
            broken.tooth(15);
            check.due("a broken tooth gets none", broken.bestKey(Boxes.tune(broken, 40, 20), 2), -5);
        });
    }

    private void bestKeyOfSeveral() {
        edges.edge(BEST_KEY, "of several the one nearest to 0,", () -> {
            PinBarrel box = Boxes.withTeeth(17, 18, 23, 24);
            int tune = Boxes.tune(box, 0, 20);
            check.due("-2 and not -3, 3 or 4", box.bestKey(tune, 0), -2);
            box.tooth(20);
            check.due("0", box.bestKey(tune, 0), 0);
            check.due("without notes", box.bestKey(box.tune(), 1), 0);
            PinBarrel bare = new PinBarrel();
            check.due("all are lost with each", bare.bestKey(Boxes.tune(bare, 0, 20), 0), 0);
        });
        edges.edge(BEST_KEY, "of two the one above 0.", () -> {
            PinBarrel box = Boxes.withTeeth(19, 21);
            check.due("1 and -1", box.bestKey(Boxes.tune(box, 0, 20), 0), 1);
            PinBarrel far = Boxes.withTeeth(1, 47);
            check.due("23 and -23", far.bestKey(Boxes.tune(far, 0, 24), 0), 23);
        });
    }

    private void bestKeyRefused() {
        edges.edge(BEST_KEY, "Throws `IndexOutOfBoundsException` if there is no such TUNE, or LINE", () -> {
            PinBarrel box = new PinBarrel();
            check.index("without tunes", () -> box.bestKey(0, 0));
            box.tune();
            check.index("tune -1", () -> box.bestKey(-1, 0));
            check.index("tune 1", () -> box.bestKey(1, 0));
            check.index("line -1", () -> box.bestKey(0, -1));
            check.index("line 3", () -> box.bestKey(0, 3));
            check.due("line 2", box.bestKey(0, 2), 0);
        });
    }

    private void lasts() {
        edges.edge(LASTS, "Returns behind how many steps it would stand still, if it was PLAYED on,", () -> {
            for (int wound = 1; wound <= 7; wound++) {
                check.due("wound by " + wound, Boxes.wound(new PinBarrel(), wound).lasts(), (wound + 1) / 2);
            }
            check.due("wound by 2000", Boxes.wound(new PinBarrel(), 2000).lasts(), 1000);
            check.due("with a pluck", Boxes.wound(Boxes.pinned(1), 4).lasts(), 2);
            check.due("with a pluck", Boxes.wound(Boxes.pinned(1), 3).lasts(), 1);
            check.due("with a pluck behind it", Boxes.wound(Boxes.pinned(3), 4).lasts(), 2);
            PinBarrel box = Boxes.wound(Boxes.pinned(1), 4);
            box.shift(1);
            check.due("with a pin that is not under it", box.lasts(), 2);
        });
        edges.edge(LASTS, "with PINS that go", () -> {
            PinBarrel box = Boxes.wound(Boxes.pinned(1), 2000);
            check.due("five plucks, not sixteen", box.lasts(), 998);
            PinBarrel worn = Boxes.worn(10);
            int wound = worn.many(6);
            check.due("1, 2 and 3 plucks more", worn.lasts(), (wound - 6 + 1) / 2);
        });
        edges.edge(LASTS, "and TEETH that break", () -> {
            PinBarrel box = Boxes.wound(Boxes.pinned(1, 5, 9, 13, 17, 21, 25), 500);
            check.due("five plucks, not more", box.lasts(), 248);
            box.play(16);
            check.due("one more", box.lasts(), 248 - 16);
            PinBarrel broken = Boxes.broken();
            check.due("none for one that is broken", broken.lasts(), (broken.many(6) + 1) / 2);
        });
        edges.edge(LASTS, "(0, if it does now).", () -> {
            check.due("a new box", new PinBarrel().lasts(), 0);
            PinBarrel box = Boxes.wound(Boxes.pinned(1), 3);
            box.play(128);
            check.due("played down", box.lasts(), 0);
        });
    }

    private void wouldBuzz() {
        edges.edge(WOULD_BUZZ, "Returns how many TEETH would BUZZ in these (each as often as it does).", () -> {
            PinBarrel box = Boxes.wound(Boxes.pinned(2, 9), 2000);
            check.due("8 steps", box.wouldBuzz(8), 0);
            check.due("9 steps", box.wouldBuzz(9), 1);
            check.due("two rounds", box.wouldBuzz(128), 2);
            PinBarrel broken = Boxes.wound(Boxes.pinned(2, 6, 10, 14, 18, 22, 26), 2000);
            check.due("four, then it is broken", broken.wouldBuzz(128), 4);
            PinBarrel plucked = Boxes.crossed(20, 27);
            check.due("plucked ahead of these", plucked.wouldBuzz(7), 1);
            check.due("a step too few", plucked.wouldBuzz(6), 0);
            plucked.play(7);
            check.due("not those ahead of these", plucked.wouldBuzz(50), 0);
            PinBarrel weak = Boxes.wound(Boxes.pinned(2, 6), 11);
            check.due("it stands still ahead of it", weak.wouldBuzz(128), 0);
            check.due("with a step more", Boxes.wound(Boxes.pinned(2, 6), 12).wouldBuzz(128), 1);
            PinBarrel gone = Boxes.wound(Boxes.pinned(20, 24), 2000);
            for (int turn = 0; turn < 5; turn++) {
                check.due("before its pin is gone", gone.wouldBuzz(64), 1);
                gone.mend();
                gone.play(64);
                gone.mend();
            }
        });
        edges.edge(WOULD_BUZZ, "Throws `IllegalArgumentException` if steps is not 1 to 128", () -> {
            PinBarrel box = Boxes.crossed(63, 0);
            check.argument("0", () -> box.wouldBuzz(0));
            check.argument("-1", () -> box.wouldBuzz(-1));
            check.argument("129", () -> box.wouldBuzz(129));
            check.due("1", box.wouldBuzz(1), 1);
            check.due("128", box.wouldBuzz(128), 1);
        });
    }

    private void nothingIsChanged() {
        edges.edge("3. Playing", "---- what would be (nothing is changed).", () -> {
            PinBarrel box = Boxes.busy();
            PinBarrel twin = Boxes.busy();
            for (int tune = 0; tune < 4; tune++) {
                box.bestKey(tune, tune % 3);
            }
            box.lasts();
            box.wouldBuzz(128);
            box.digest();
            check.due("all is as in a box that was not asked", Boxes.state(box), Boxes.state(twin));
        });
    }

    private void digest() {
        edges.edge(DIGEST, "A number d starts with 58312;", () -> {
            check.due("a new box", new PinBarrel().digest(), told(0, 0, 0, 0, 0, 0, 0, 4, 0, 0, 0, 0, 0, 0, 0, 0, 0));
        });
        edges.edge(DIGEST, "for each of the following numbers v, d becomes d * 31 + v, which wraps around as a 64-bit integer: many() of 0 to 14;", () -> {
            PinBarrel box = Boxes.wound(new PinBarrel(), 2000);
            box.wind(1);
            box.shift(2);
            box.govern(8);
            box.play(32);
            check.due("of a played box", box.digest(), told(0, 0, 0, 0, 32, 2, 1936, 8, 32, 0, 0, 0, 0, 1, 2, 968, 0));
        });
        edges.edge(DIGEST, "TOOTH by TOOTH ofTooth() of 0 to 4, and pins() of the LINES 0 to 2;", () -> {
            PinBarrel box = Boxes.pinned(4, 63);
            box.note(0, 5, 47);
            box.tooth(47);
            box.pin(0, 2, 0);
            box.note(0, 5, 47);
            check.due("of two teeth", box.digest(), told(2, 0, 1, 3, 0, 0, 0, 4, 0, 0, 0, 0, 0, 0, 0,
                    20, 0, 0, 0, 2, 1L << 4 | 1L << 63, 0, 0, 47, 0, 0, 0, 1, 0, 0, 32,
                    0, -1, -1, 0, 0, 0, 0, 0));
        });
        edges.edge(DIGEST, "TUNE by TUNE ofTune() of 0 to 4, and bestKey() for the LINE 0;", () -> {
            PinBarrel box = Boxes.withTeeth(20);
            Boxes.tune(box, 8, 18);
            Boxes.tune(box, 7, 21, 7, 30, 40, 20);
            box.pin(0, 0, 2);
            check.due("a pin in lines 0 bars", box.digest(), told(1, 0, 2, 1, 0, 0, 0, 4, 0, 0, 0, 0, 0, 0, 0,
                    20, 0, 0, 0, 1, 256, 0, 0,
                    1, 18, 18, 1, 1, 0,
                    3, 20, 30, 2, 2, 0, 0, 0));
        });
        edges.edge(DIGEST, "lasts(), wouldBuzz() of 16.", () -> {
            for (int place = 14; place <= 17; place++) {
                PinBarrel box = Boxes.wound(Boxes.pinned(10, place), 500);
                check.due("with a buzz in the step " + place, box.digest(), told(1, 0, 1, 2, 0, 0, 500, 4, 0, 0, 0, 0, 0, 0, 0,
                        20, 0, 0, 0, 2, 1L << 10 | 1L << place, 0, 0, 0, -1, -1, 0, 0, 0, box.lasts(), place <= 16 ? 1 : 0));
            }
        });
    }

    private void digestOfSounds() {
        edges.edge(DIGEST, "SOUND by SOUND that is kept its PITCH, and the CLOCK at which it was HEARD (as it was) times 8.0 without what is behind its point (a long);", () -> {
            for (int place = 1; place <= 4; place++) {
                PinBarrel box = Boxes.wound(Boxes.pinned(place), 1500);
                box.govern(8);
                box.play(place);
                box.file(0, 47);
                check.due(place + " sixteenths", box.digest(), told(1, 0, 1, 1, place, 0, 1499 - 2 * place, 8, place, 1, 1, 0, 0, 0, 0,
                        47, 0, 0, 1, 1, 1L << place, 0, 0, 0, -1, -1, 0, 0, 0, 20, place / 2, box.lasts(), 0));
            }
        });
    }

    /** Behind what is told of a box with 24 TEETH and two TUNES, the 40 SOUNDS of 41 at the end. */
    private void digestOfKeptSounds() {
        edges.edge(DIGEST, "SOUND by SOUND that is kept its PITCH,", () -> {
            PinBarrel box = Boxes.wound(Boxes.chord(41), 1800);
            box.govern(8);
            box.play(11);
            List<Long> numbers = new ArrayList<>();
            for (int what = 0; what <= 14; what++) {
                numbers.add((long) box.many(what));
            }
            for (int tooth = 0; tooth < 24; tooth++) {
                long both = 1L << 1 | (tooth < 17 ? 1L << 11 : 0L);
                numbers.addAll(List.of((long) tooth, 0L, 0L, (long) Long.bitCount(both), (long) Long.bitCount(both), both, 0L, 0L));
            }
            numbers.addAll(List.of(24L, 0L, 23L, 1L, 24L, (long) box.bestKey(0, 0)));
            numbers.addAll(List.of(17L, 0L, 16L, 1L, 17L, (long) box.bestKey(1, 0)));
            for (int sound = 1; sound <= 40; sound++) {
                numbers.add((long) sound % 24);
                numbers.add(sound < 24 ? 0L : 5L);
            }
            numbers.add((long) box.lasts());
            numbers.add((long) box.wouldBuzz(16));
            check.due("of 41 sounds", box.digest(), told(numbers.stream().mapToLong(Long::longValue).toArray()));
        });
    }

    private static long told(long... numbers) {
        BigInteger d = BigInteger.valueOf(58312);
        for (long number : numbers) {
            d = d.multiply(BigInteger.valueOf(31)).add(BigInteger.valueOf(number));
        }
        return d.longValue();
    }
}
