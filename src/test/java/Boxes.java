/** Boxes that several tests begin with. */
final class Boxes {
    private Boxes() {
    }

    static PinBarrel withTeeth(int... pitches) {
        PinBarrel box = new PinBarrel();
        for (int pitch : pitches) {
            box.tooth(pitch);
        }
        return box;
    }

    /** Adds a TUNE with these NOTES: TIME, PITCH, TIME, PITCH .. */
    static int tune(PinBarrel box, int... notes) {
        int tune = box.tune();
        for (int i = 0; i < notes.length; i += 2) {
            box.note(tune, notes[i], notes[i + 1]);
        }
        return tune;
    }

    /** A box with one TOOTH of PITCH 20, and PINS in its LINE 0 at these PLACES, no two of them less than 4 away. */
    static PinBarrel pinned(int... places) {
        PinBarrel box = withTeeth(20);
        int tune = box.tune();
        for (int place : places) {
            box.note(tune, place, 20);
            if (box.pin(tune, 0, 0) > 0) {
                throw new IllegalStateException("no pin at " + place);
            }
            box.note(tune, place, 20);
        }
        return box;
    }

    /** Winds it up to so much, in steps of 500. */
    static PinBarrel wound(PinBarrel box, int much) {
        for (int rest = much; rest > 0; rest -= 500) {
            box.wind(Math.min(500, rest));
        }
        return box;
    }

    /** As many() of 0 to 14. */
    static String all(PinBarrel box) {
        StringBuilder text = new StringBuilder();
        for (int what = 0; what < 15; what++) {
            text.append(box.many(what)).append(' ');
        }
        return text.toString().trim();
    }

    /** A box with one TOOTH that has just BROKEN; its PINS, at 4, 8, 12, 16 and 20, have a WEAR of 1. */
    static PinBarrel broken() {
        PinBarrel box = wound(pinned(4, 8, 12, 16, 20), 2000);
        box.play(20);
        return box;
    }

    /** A box with three TEETH, each with a PIN at that PLACE of its LINE 0, of WEAR 4, 3 and 2. */
    static PinBarrel worn(int place) {
        PinBarrel box = wound(withTeeth(20, 21, 22), 2000);
        int tune = tune(box, place, 20);
        for (int higher = 0; higher < 3; higher++) {
            box.pin(tune, 0, higher);
            box.play(64);
        }
        box.play(64);
        return box;
    }

    /** WEAR of each TOOTH at that PLACE of its LINE 0. */
    static String wears(PinBarrel box, int place) {
        StringBuilder text = new StringBuilder();
        for (int tooth = 0; tooth < box.many(0); tooth++) {
            text.append(box.wear(tooth, 0, place)).append(' ');
        }
        return text.toString().trim();
    }

    /** A box with one TOOTH, just plucked at the first PLACE from its LINE 0; it has a PIN at the second one in its LINE 1, which is under it now. */
    static PinBarrel crossed(int first, int second) {
        PinBarrel box = wound(pinned(first), 500);
        box.pin(tune(box, second, 20), 1, 0);
        box.play(first);
        box.shift(1);
        return box;
    }

    /** A box with 24 TEETH, of PITCH 0 to 23, and so many PINS: for all of them at the PLACE 1, then at 11, at 21. */
    static PinBarrel chord(int pins) {
        PinBarrel box = new PinBarrel();
        for (int tooth = 0; tooth < 24; tooth++) {
            box.tooth(tooth);
        }
        for (int first = 0; first < pins; first += 24) {
            int tune = box.tune();
            for (int pitch = 0; pitch < Math.min(24, pins - first); pitch++) {
                box.note(tune, 1 + first / 24 * 10, pitch);
            }
            box.pin(tune, 0, 0);
        }
        return box;
    }

    /** As ofTune() of 0 to 4. */
    static String ofTune(PinBarrel box, int tune) {
        StringBuilder text = new StringBuilder();
        for (int what = 0; what < 5; what++) {
            text.append(box.ofTune(tune, what)).append(' ');
        }
        return text.toString().trim();
    }

    /** A box as full as may be, that has been played: with 24 TEETH, 4 TUNES (the last one of 30 NOTES), WOUND 2000. */
    static PinBarrel busy() {
        PinBarrel box = new PinBarrel();
        for (int tooth = 0; tooth < 24; tooth++) {
            box.tooth(20 + tooth % 6);
        }
        tune(box, 0, 20, 4, 21, 8, 20, 12, 22, 30, 25, 63, 20);
        box.tune();
        tune(box, 5, 24, 45, 19);
        int full = box.tune();
        for (int i = 0; i < 30; i++) {
            box.note(full, 2 * i, 20 + i % 4);
        }
        for (int line = 0; line < 3; line++) {
            box.pin(full, line, line);
            box.pin(0, line, 0);
            box.pin(full, line, line - 2);
        }
        wound(box, 2000);
        box.play(128);
        box.play(128);
        box.shift(1);
        box.play(60);
        wound(box, 2000);
        return box;
    }

    /** What a box answers to some 300 calls, with some that play it on, so that what is not asked for shows too. */
    static String state(PinBarrel box) {
        StringBuilder text = new StringBuilder(all(box));
        text.append(' ').append(box.digest()).append(' ').append(box.speed()).append(' ').append(box.wouldBuzz(128));
        for (int one = 0; one < box.many(2); one++) {
            text.append(' ').append(ofTune(box, one)).append(' ').append(box.bestKey(one, 1));
            for (int other = 0; other < box.many(2); other++) {
                text.append(' ').append(box.likeness(one, other, 0));
            }
        }
        for (int sound = 0; sound < box.many(10); sound++) {
            text.append(' ').append(box.when(sound));
        }
        for (int line = 0; line < 3; line++) {
            box.shift(line);
            text.append(' ').append(box.play(128)).append(' ').append(box.pull(line, true)).append(' ').append(box.digest());
        }
        return text.append(' ').append(box.mend()).append(' ').append(box.digest()).toString();
    }
}
