/** Boxes that several tests begin with. */
final class Boxes {
    private Boxes() {
    }

    static PinBarrel withTeeth(int... pitches) {
        PinBarrel box = new PinBarrel();
        for (int pitch : pitches) {
            box.tooth(pitch);
        }
        return box;
    }

    /** Adds a TUNE with these NOTES: TIME, PITCH, TIME, PITCH .. */
    static int tune(PinBarrel box, int... notes) {
        int tune = box.tune();
        for (int i = 0; i < notes.length; i += 2) {
            box.note(tune, notes[i], notes[i + 1]);
        }
        return tune;
    }

    /** A box with one TOOTH of PITCH 20, and PINS in its LINE 0 at these PLACES, whatever their distance. */
    static PinBarrel pinned(int... places) {
        PinBarrel box = withTeeth(20);
        int tune = box.tune();
        for (int place : places) {
            box.note(tune, place, 20);
            box.pin(tune, 0, 0);
            box.note(tune, place, 20);
        }
        return box;
    }

    /** Winds it up to so much, in steps of 500. */
    static PinBarrel wound(PinBarrel box, int much) {
        for (int rest = much; rest > 0; rest -= 500) {
            box.wind(Math.min(500, rest));
        }
        return box;
    }

    /** As many() of 0 to 14. */
    static String all(PinBarrel box) {
        StringBuilder text = new StringBuilder();
        for (int what = 0; what < 15; what++) {
            text.append(box.many(what)).append(' ');
        }
        return text.toString().trim();
    }
}
