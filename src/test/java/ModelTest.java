import java.util.Random;
import java.util.function.Supplier;

/** Runs of some 500 calls, each answer compared with that of the Model: the same seeds, so the same runs each time. */
public final class ModelTest {
    private static final int RUNS = 400;
    /** What a box answers behind its 512th call is free. */
    private static final int CALLS = 512;
    private static final int MOST_CALLS_AT_ONCE = 8;
    private static final Check check = new Check();

    /** How often all runs came to what many() of 0 to 14 tells, at their ends. */
    private static final long[] reached = new long[15];

    private final Random random;
    private final int run;
    /** How far the PITCHES of this run spread: in a narrow one TEETH share them, and NOTES bar one another. */
    private final int spread;
    private final int base;
    private final PinBarrel box = new PinBarrel();
    private final Model model = new Model();
    private int calls;

    private ModelTest(int run) {
        this.run = run;
        random = new Random(run);
        spread = 1 + random.nextInt(run % 3 == 0 ? 48 : 6);
        base = random.nextInt(48 - spread + 1);
    }

    public static void main(String[] args) {
        for (int run = 0; run < RUNS; run++) {
            new ModelTest(run).run();
        }
        for (int what = 0; what < reached.length; what++) {
            check.due("the runs reach many(" + what + ")", reached[what] > 0, true);
        }
        check.end();
    }

    private void run() {
        int ready = random.nextInt(30);
        for (int i = 0; i < ready; i++) {
            setUp();
        }
        while (calls < CALLS - MOST_CALLS_AT_ONCE) {
            call();
            if (random.nextInt(12) == 0) {
                same("digest()", box::digest, model::digest);
            }
        }
        same("digest()", box::digest, model::digest);
        for (int what = 0; what < reached.length; what++) {
            reached[what] += model.many(what);
        }
    }

    private void same(String call, Supplier<Object> asked, Supplier<Object> due) {
        calls++;
        check.due("run " + run + ", call " + calls + ": " + call, answer(asked), answer(due));
    }

    private static Object answer(Supplier<Object> asked) {
        try {
            return asked.get();
        } catch (RuntimeException e) {
            return e.getClass();
        }
    }

    /** Mostly within the bounds, sometimes at them or just outside. */
    private int within(int least, int most) {
        int luck = random.nextInt(40);
        if (luck == 0) {
            return least - 1;
        }
        if (luck == 1) {
            return most + 1;
        }
        if (luck == 2) {
            return random.nextInt();
        }
        return luck == 3 ? least : luck == 4 ? most : least + random.nextInt(most - least + 1);
    }

    private int aPitch() {
        return random.nextInt(30) == 0 ? within(0, 47) : base + random.nextInt(spread);
    }

    private int aTune() {
        return within(0, Math.max(0, model.many(2) - 1));
    }

    private int aTooth() {
        return within(0, Math.max(0, model.many(0) - 1));
    }

    private int aKey() {
        return random.nextInt(3) == 0 ? within(-24, 24) : random.nextInt(3) - 1;
    }

    private void setUp() {
        int pitch = aPitch();
        switch (random.nextInt(5)) {
            case 0, 1 -> same("tooth(" + pitch + ")", () -> box.tooth(pitch), () -> model.tooth(pitch));
            case 2 -> same("tune()", box::tune, model::tune);
            default -> writeNote();
        }
    }

    private void writeNote() {
        int tune = aTune();
        int time = within(0, 63);
        int pitch = aPitch();
        same("note(" + tune + ", " + time + ", " + pitch + ")",
                () -> box.note(tune, time, pitch), () -> model.note(tune, time, pitch));
    }

    private void call() {
        switch (random.nextInt(10)) {
            case 0 -> setUp();
            case 1, 2, 3 -> writeNote();
            case 4 -> changeBarrel();
            case 5, 6 -> changePlaying();
            case 7 -> askTooth();
            case 8 -> askTune();
            default -> askBox();
        }
    }

    private void changeBarrel() {
        int tune = aTune();
        int line = within(0, 2);
        int higher = aKey();
        int tooth = aTooth();
        int pitch = aPitch();
        boolean isWorn = random.nextInt(3) > 0;
        switch (random.nextInt(12)) {
            case 0 -> same("pull(" + line + ", " + isWorn + ")", () -> box.pull(line, isWorn), () -> model.pull(line, isWorn));
            case 1, 2 -> same("shift(" + line + ")", () -> box.shift(line), () -> model.shift(line));
            case 3 -> same("file(" + tooth + ", " + pitch + ")", () -> box.file(tooth, pitch), () -> model.file(tooth, pitch));
            default -> same("pin(" + tune + ", " + line + ", " + higher + ")",
                    () -> box.pin(tune, line, higher), () -> model.pin(tune, line, higher));
        }
    }

    private void changePlaying() {
        int much = within(1, 500);
        int governor = within(1, 8);
        int steps = random.nextInt(2) == 0 ? within(1, 128) : within(1, 6);
        switch (random.nextInt(24)) {
            case 0 -> same("mend()", box::mend, model::mend);
            case 1, 2 -> same("govern(" + governor + ")", () -> box.govern(governor), () -> model.govern(governor));
            case 3, 4, 5, 6, 7, 8, 9, 10, 11 ->
                    same("wind(" + much + ")", () -> box.wind(much), () -> model.wind(much));
            default -> same("play(" + steps + ")", () -> box.play(steps), () -> model.play(steps));
        }
    }

    private void askTooth() {
        int tooth = aTooth();
        int what = within(0, 4);
        int line = within(0, 2);
        int place = within(0, 63);
        same("ofTooth(" + tooth + ", " + what + ")", () -> box.ofTooth(tooth, what), () -> model.ofTooth(tooth, what));
        same("pins(" + tooth + ", " + line + ")", () -> box.pins(tooth, line), () -> model.pins(tooth, line));
        same("wear(" + tooth + ", " + line + ", " + place + ")",
                () -> box.wear(tooth, line, place), () -> model.wear(tooth, line, place));
        same("row(" + place + ")", () -> box.row(place), () -> model.row(place));
    }

    private void askTune() {
        int tune = aTune();
        int other = aTune();
        int higher = aKey();
        int what = within(0, 4);
        int line = within(0, 2);
        same("ofTune(" + tune + ", " + what + ")", () -> box.ofTune(tune, what), () -> model.ofTune(tune, what));
        same("likeness(" + tune + ", " + other + ", " + higher + ")",
                () -> box.likeness(tune, other, higher), () -> model.likeness(tune, other, higher));
        same("bestKey(" + tune + ", " + line + ")", () -> box.bestKey(tune, line), () -> model.bestKey(tune, line));
    }

    private void askBox() {
        int sound = within(0, Math.max(0, model.many(10) - 1));
        int what = within(0, 14);
        int steps = within(1, 128);
        same("heard(" + sound + ")", () -> box.heard(sound), () -> model.heard(sound));
        same("when(" + sound + ")", () -> box.when(sound), () -> model.when(sound));
        same("speed()", box::speed, model::speed);
        same("many(" + what + ")", () -> box.many(what), () -> model.many(what));
        same("lasts()", box::lasts, model::lasts);
        same("wouldBuzz(" + steps + ")", () -> box.wouldBuzz(steps), () -> model.wouldBuzz(steps));
    }
}
