/** A shop of musical boxes, with one on the bench. The words in capitals are those of the document. */
public final class PinBarrel {
    private static final int NONE = -1;
    private static final int MOST_TEETH = 24;
    private static final int PITCHES = 48;
    private static final int MOST_TUNES = 4;
    private static final int MOST_NOTES = 30;
    private static final int LINES = 3;
    private static final int PLACES = 64;
    private static final int LAST_PLACE = 63;
    private static final int FARTHEST_KEY = 24;
    private static final int MOST_WOUND = 2000;
    private static final int MOST_WOUND_AT_ONCE = 500;
    private static final int FIRST_GOVERNOR = 4;
    private static final int MOST_GOVERNOR = 8;
    private static final int MOST_STEPS = 128;
    private static final int MOST_SOUNDS = 40;
    private static final int BUZZ_STEPS = 8;
    private static final int SCRATCHES_THAT_BREAK = 4;
    private static final int WORN = 3;
    private static final int WORN_OUT = 5;
    private static final int QUESTIONS_OF_ALL = 15;
    private static final int QUESTIONS_OF_ONE = 5;
    private static final int STEPS_IN_DIGEST = 16;
    private static final long DIGEST_START = 58312L;

    private final Tunes tunes;
    private final Works works;
    private final Comb comb;
    private final Barrel barrel;
    private final Sounds sounds;
    /** What would be is played and pinned on these works, so that no call makes new ones. */
    private final Works trial;
    private int knocks;

    public PinBarrel() {
        tunes = new Tunes();
        works = new Works();
        comb = works.comb;
        barrel = works.barrel;
        sounds = works.sounds;
        trial = new Works();
    }

    // ---- comb and tunes

    public int tooth(int pitch) throws IllegalArgumentException, IllegalStateException {
        needPitch(pitch);
        if (comb.count >= MOST_TEETH) {
            throw new IllegalStateException("there are 24 teeth");
        }
        return comb.addTooth(pitch);
    }

    public int file(int tooth, int pitch) throws IndexOutOfBoundsException, IllegalArgumentException {
        needTooth(tooth);
        needPitch(pitch);
        int before = comb.pitch[tooth];
        comb.pitch[tooth] = pitch;
        return before;
    }

    public int tune() throws IllegalStateException {
        if (tunes.count >= MOST_TUNES) {
            throw new IllegalStateException("there are 4 tunes");
        }
        tunes.count++;
        return tunes.count - 1;
    }

    public int note(int tune, int time, int pitch)
            throws IndexOutOfBoundsException, IllegalArgumentException, IllegalStateException {
        needTune(tune);
        if (time < 0 || time >= PLACES) {
            throw new IllegalArgumentException("time is not 0 to 63");
        }
        needPitch(pitch);
        boolean isThere = tunes.holds(tune, time, pitch);
        if (!isThere && tunes.size[tune] >= MOST_NOTES) {
            throw new IllegalStateException("there are 30 notes");
        }
        if (isThere) {
            tunes.strike(tune, time, pitch);
        } else {
            tunes.write(tune, time, pitch);
        }
        return tunes.size[tune];
    }

    // ---- barrel

    public int pin(int tune, int line, int higher) throws IndexOutOfBoundsException, IllegalArgumentException {
        needTune(tune);
        needLine(line);
        needKey(higher);
        return pinTune(barrel, tune, line, higher);
    }

    public int pull(int line, boolean isWorn) throws IndexOutOfBoundsException {
        needLine(line);
        int pulled = 0;
        for (int tooth = 0; tooth < comb.count; tooth++) {
            pulled += barrel.pullFrom(tooth, line, isWorn ? WORN : 0);
        }
        return pulled;
    }

    public int shift(int line) throws IndexOutOfBoundsException {
        needLine(line);
        int before = works.shift;
        works.shift = line;
        return before;
    }

    // ---- playing

    public int wind(int much) throws IllegalArgumentException {
        if (much < 1 || much > MOST_WOUND_AT_ONCE) {
            throw new IllegalArgumentException("much is not 1 to 500");
        }
        if (works.wound >= MOST_WOUND) {
            knocks++;
        } else {
            works.wound = Math.min(MOST_WOUND, works.wound + much);
        }
        return works.wound;
    }

    public double govern(int governor) throws IllegalArgumentException {
        if (governor < 1 || governor > MOST_GOVERNOR) {
            throw new IllegalArgumentException("the governor is not 1 to 8");
        }
        works.governor = governor;
        return speed();
    }

    public int play(int steps) throws IllegalArgumentException {
        needSteps(steps);
        int before = sounds.ever;
        works.run(steps);
        return sounds.ever - before;
    }

    public int mend() {
        int mended = 0;
        for (int tooth = 0; tooth < comb.count; tooth++) {
            mended += comb.mendTooth(tooth);
            for (int line = 0; line < LINES; line++) {
                mended += barrel.renewPins(tooth, line);
            }
        }
        return mended;
    }

    // ---- what one asks

    public int ofTooth(int tooth, int what) throws IndexOutOfBoundsException, IllegalArgumentException {
        needTooth(tooth);
        needQuestion(what, QUESTIONS_OF_ONE);
        switch (what) {
            case 0: return comb.pitch[tooth];
            case 1: return comb.broken[tooth] ? 1 : 0;
            case 2: return comb.scratches[tooth];
            case 3: return comb.plucks[tooth];
            default: return barrel.pinsOfTooth(tooth);
        }
    }

    public long pins(int tooth, int line) throws IndexOutOfBoundsException {
        needTooth(tooth);
        needLine(line);
        return barrel.placesOf(tooth, line);
    }

    public int wear(int tooth, int line, int place) throws IndexOutOfBoundsException {
        needTooth(tooth);
        needLine(line);
        needPlace(place);
        return barrel.hasPin(tooth, line, place) ? barrel.wearOf(tooth, line, place) : NONE;
    }

    public String row(int place) throws IndexOutOfBoundsException {
        needPlace(place);
        StringBuilder signs = new StringBuilder();
        for (int tooth = 0; tooth < comb.count; tooth++) {
            signs.append(signOf(tooth, place));
        }
        return signs.toString();
    }

    public int ofTune(int tune, int what) throws IndexOutOfBoundsException, IllegalArgumentException {
        needTune(tune);
        needQuestion(what, QUESTIONS_OF_ONE);
        switch (what) {
            case 0: return tunes.size[tune];
            case 1: return tunes.lowest(tune);
            case 2: return tunes.highest(tune);
            case 3: return tunes.times(tune);
            default: return tunes.mostAtOnce(tune);
        }
    }

    public double likeness(int one, int other, int higher)
            throws IndexOutOfBoundsException, IllegalArgumentException {
        needTune(one);
        needTune(other);
        needKey(higher);
        int most = Math.max(tunes.size[one], tunes.size[other]);
        if (most == 0) {
            return 0.0;
        }
        return (double) tunes.shared(one, other, higher) / (double) most;
    }

    public int heard(int sound) throws IndexOutOfBoundsException {
        needSound(sound);
        return sounds.pitchOf(sound);
    }

    public double when(int sound) throws IndexOutOfBoundsException {
        needSound(sound);
        return (double) nearestWhole(8.0 * sounds.clockOf(sound)) / 8.0;
    }

    public double speed() {
        return (double) works.speedNow();
    }

    public int many(int what) throws IllegalArgumentException {
        needQuestion(what, QUESTIONS_OF_ALL);
        switch (what) {
            case 0: return comb.count;
            case 1: return comb.brokenTeeth();
            case 2: return tunes.count;
            case 3: return allPins();
            case 4: return works.place;
            case 5: return works.shift;
            case 6: return works.wound;
            case 7: return works.governor;
            case 8: return works.steps;
            case 9: return sounds.ever;
            case 10: return sounds.kept;
            case 11: return works.buzzes;
            case 12: return works.wornOut;
            case 13: return knocks;
            default: return (int) works.clock;
        }
    }

    // ---- what would be (nothing is changed)

    public int bestKey(int tune, int line) throws IndexOutOfBoundsException {
        needTune(tune);
        needLine(line);
        int best = 0;
        int fewest = wouldLose(tune, line, 0);
        // From 0 outwards, the one above ahead of the one below: the first of several is the one to tell.
        for (int away = 1; away <= FARTHEST_KEY && fewest > 0; away++) {
            int above = wouldLose(tune, line, away);
            if (above < fewest) {
                fewest = above;
                best = away;
            }
            int below = wouldLose(tune, line, -away);
            if (below < fewest) {
                fewest = below;
                best = -away;
            }
        }
        return best;
    }

    public int lasts() {
        trial.takeOver(works);
        int steps = 0;
        while (trial.wound > 0 && steps < MOST_WOUND) {
            trial.step();
            steps++;
        }
        return steps;
    }

    public int wouldBuzz(int steps) throws IllegalArgumentException {
        needSteps(steps);
        trial.takeOver(works);
        trial.run(steps);
        return trial.buzzes - works.buzzes;
    }

    public long digest() {
        long d = DIGEST_START;
        for (int what = 0; what < QUESTIONS_OF_ALL; what++) {
            d = d * 31 + many(what);
        }
        for (int tooth = 0; tooth < comb.count; tooth++) {
            d = digestTooth(d, tooth);
        }
        for (int tune = 0; tune < tunes.count; tune++) {
            d = digestTune(d, tune);
        }
        for (int sound = 0; sound < sounds.kept; sound++) {
            d = d * 31 + sounds.pitchOf(sound);
            d = d * 31 + (long) (sounds.clockOf(sound) * 8.0);
        }
        d = d * 31 + lasts();
        return d * 31 + wouldBuzz(STEPS_IN_DIGEST);
    }

    // ---- parts of the calls

    private long digestTooth(long start, int tooth) {
        long d = start;
        for (int what = 0; what < QUESTIONS_OF_ONE; what++) {
            d = d * 31 + ofTooth(tooth, what);
        }
        for (int line = 0; line < LINES; line++) {
            d = d * 31 + barrel.placesOf(tooth, line);
        }
        return d;
    }

    private long digestTune(long start, int tune) {
        long d = start;
        for (int what = 0; what < QUESTIONS_OF_ONE; what++) {
            d = d * 31 + ofTune(tune, what);
        }
        return d * 31 + bestKey(tune, 0);
    }

    private int pinTune(Barrel into, int tune, int line, int higher) {
        int lost = 0;
        int size = tunes.size[tune];
        for (int i = 0; i < size; i++) {
            int time = tunes.timeOf(tune, i);
            int tooth = into.freeTooth(comb, line, tunes.pitchOf(tune, i) + higher, time);
            if (tooth == NONE) {
                lost++;
            } else {
                into.setPin(tooth, line, time);
            }
        }
        return lost;
    }

    private int wouldLose(int tune, int line, int higher) {
        trial.barrel.takePins(barrel, line);
        return pinTune(trial.barrel, tune, line, higher);
    }

    private int allPins() {
        int pins = 0;
        for (int tooth = 0; tooth < comb.count; tooth++) {
            pins += barrel.pinsOfTooth(tooth);
        }
        return pins;
    }

    private char signOf(int tooth, int place) {
        if (comb.broken[tooth]) {
            return 'x';
        }
        return barrel.hasPin(tooth, works.shift, place) ? '|' : '.';
    }

    /** As Math.rint, which the language leaves out: a half goes to the even neighbour. Only for 0 and more. */
    private static long nearestWhole(double number) {
        long whole = (long) number;
        double rest = number - (double) whole;
        if (rest > 0.5 || (rest == 0.5 && (whole & 1L) == 1L)) {
            return whole + 1L;
        }
        return whole;
    }

    // ---- what is refused

    private void needTooth(int tooth) throws IndexOutOfBoundsException {
        if (tooth < 0 || tooth >= comb.count) {
            throw new IndexOutOfBoundsException("there is no such tooth");
        }
    }

    private void needTune(int tune) throws IndexOutOfBoundsException {
        if (tune < 0 || tune >= tunes.count) {
            throw new IndexOutOfBoundsException("there is no such tune");
        }
    }

    private void needSound(int sound) throws IndexOutOfBoundsException {
        if (sound < 0 || sound >= sounds.kept) {
            throw new IndexOutOfBoundsException("there is no such sound");
        }
    }

    private static void needLine(int line) throws IndexOutOfBoundsException {
        if (line < 0 || line >= LINES) {
            throw new IndexOutOfBoundsException("there is no such line");
        }
    }

    private static void needPlace(int place) throws IndexOutOfBoundsException {
        if (place < 0 || place >= PLACES) {
            throw new IndexOutOfBoundsException("there is no such place");
        }
    }

    private static void needPitch(int pitch) throws IllegalArgumentException {
        if (pitch < 0 || pitch >= PITCHES) {
            throw new IllegalArgumentException("pitch is not 0 to 47");
        }
    }

    private static void needKey(int higher) throws IllegalArgumentException {
        if (higher < -FARTHEST_KEY || higher > FARTHEST_KEY) {
            throw new IllegalArgumentException("higher is not -24 to 24");
        }
    }

    private static void needSteps(int steps) throws IllegalArgumentException {
        if (steps < 1 || steps > MOST_STEPS) {
            throw new IllegalArgumentException("steps is not 1 to 128");
        }
    }

    private static void needQuestion(int what, int questions) throws IllegalArgumentException {
        if (what < 0 || what >= questions) {
            throw new IllegalArgumentException("there is no such question");
        }
    }

    /** The TUNES, each with its NOTES in their order. */
    private static final class Tunes {
        final int[] size;
        /** A NOTE is TIME * PITCHES + PITCH, so that their order is the order of these numbers. */
        final int[] notes;
        int count;

        Tunes() {
            size = new int[MOST_TUNES];
            notes = new int[MOST_TUNES * MOST_NOTES];
        }

        int timeOf(int tune, int i) {
            return notes[tune * MOST_NOTES + i] / PITCHES;
        }

        int pitchOf(int tune, int i) {
            return notes[tune * MOST_NOTES + i] % PITCHES;
        }

        /** How many NOTES of the TUNE are ahead of this one. */
        int rankOf(int tune, int note) {
            int rank = 0;
            while (rank < size[tune] && notes[tune * MOST_NOTES + rank] < note) {
                rank++;
            }
            return rank;
        }

        boolean holds(int tune, int time, int pitch) {
            int note = time * PITCHES + pitch;
            int rank = rankOf(tune, note);
            return rank < size[tune] && notes[tune * MOST_NOTES + rank] == note;
        }

        /** Only for a NOTE that is not there, in a TUNE that has room. */
        void write(int tune, int time, int pitch) {
            int note = time * PITCHES + pitch;
            int first = tune * MOST_NOTES;
            int rank = rankOf(tune, note);
            for (int i = size[tune]; i > rank; i--) {
                notes[first + i] = notes[first + i - 1];
            }
            notes[first + rank] = note;
            size[tune]++;
        }

        /** Only for a NOTE that is there. */
        void strike(int tune, int time, int pitch) {
            int first = tune * MOST_NOTES;
            size[tune]--;
            for (int i = rankOf(tune, time * PITCHES + pitch); i < size[tune]; i++) {
                notes[first + i] = notes[first + i + 1];
            }
        }

        int lowest(int tune) {
            int lowest = NONE;
            for (int i = 0; i < size[tune]; i++) {
                int pitch = pitchOf(tune, i);
                if (lowest == NONE || pitch < lowest) {
                    lowest = pitch;
                }
            }
            return lowest;
        }

        int highest(int tune) {
            int highest = NONE;
            for (int i = 0; i < size[tune]; i++) {
                highest = Math.max(highest, pitchOf(tune, i));
            }
            return highest;
        }

        int times(int tune) {
            int times = 0;
            for (int i = 0; i < size[tune]; i++) {
                if (i == 0 || timeOf(tune, i) != timeOf(tune, i - 1)) {
                    times++;
                }
            }
            return times;
        }

        int mostAtOnce(int tune) {
            int most = 0;
            int atOnce = 0;
            for (int i = 0; i < size[tune]; i++) {
                boolean isNewTime = i == 0 || timeOf(tune, i) != timeOf(tune, i - 1);
                atOnce = isNewTime ? 1 : atOnce + 1;
                most = Math.max(most, atOnce);
            }
            return most;
        }

        /** How many NOTES of the first TUNE are in the second one, if that is told so much higher. */
        int shared(int one, int other, int higher) {
            int shared = 0;
            for (int i = 0; i < size[one]; i++) {
                int pitch = pitchOf(one, i) - higher;
                // Another PITCH than 0 to 47 would be read as a NOTE of another TIME.
                if (pitch >= 0 && pitch < PITCHES && holds(other, timeOf(one, i), pitch)) {
                    shared++;
                }
            }
            return shared;
        }
    }

    /** The TEETH. */
    private static final class Comb {
        final int[] pitch;
        final boolean[] broken;
        final int[] scratches;
        final int[] plucks;
        /** The number of the step that plucked it last. */
        final int[] lastPluck;
        int count;

        Comb() {
            pitch = new int[MOST_TEETH];
            broken = new boolean[MOST_TEETH];
            scratches = new int[MOST_TEETH];
            plucks = new int[MOST_TEETH];
            lastPluck = new int[MOST_TEETH];
        }

        /** Only if there is room. */
        int addTooth(int itsPitch) {
            pitch[count] = itsPitch;
            count++;
            return count - 1;
        }

        int brokenTeeth() {
            int many = 0;
            for (int tooth = 0; tooth < count; tooth++) {
                if (broken[tooth]) {
                    many++;
                }
            }
            return many;
        }

        /** Returns how many BROKEN ones that mends: 0 or 1. */
        int mendTooth(int tooth) {
            int mended = broken[tooth] ? 1 : 0;
            broken[tooth] = false;
            scratches[tooth] = 0;
            return mended;
        }

        /** Returns whether it BUZZES. */
        boolean pluckTooth(int tooth, int step) {
            boolean isBuzz = plucks[tooth] > 0 && step - lastPluck[tooth] < BUZZ_STEPS;
            plucks[tooth]++;
            lastPluck[tooth] = step;
            if (isBuzz) {
                scratches[tooth]++;
                broken[tooth] = scratches[tooth] >= SCRATCHES_THAT_BREAK;
            }
            return isBuzz;
        }

        void takeTeeth(Comb from) {
            count = from.count;
            for (int tooth = 0; tooth < count; tooth++) {
                pitch[tooth] = from.pitch[tooth];
                broken[tooth] = from.broken[tooth];
                scratches[tooth] = from.scratches[tooth];
                plucks[tooth] = from.plucks[tooth];
                lastPluck[tooth] = from.lastPluck[tooth];
            }
        }
    }

    /** The PINS. The LINES with the same number stand together, as one runs over just these. */
    private static final class Barrel {
        /** For each LINE the set of PLACES with a PIN. */
        final long[] places;
        /** For each PLACE of each LINE the WEAR of the PIN there; free without one. */
        final int[] wears;

        Barrel() {
            places = new long[LINES * MOST_TEETH];
            wears = new int[LINES * MOST_TEETH * PLACES];
        }

        static int lineAt(int tooth, int line) {
            return line * MOST_TEETH + tooth;
        }

        static int pinAt(int tooth, int line, int place) {
            return (line * MOST_TEETH + tooth) * PLACES + place;
        }

        /** The PLACES that are less than 4 away, round. */
        static long placesNear(int place) {
            int first = (place - 3) & LAST_PLACE;
            // Java takes the distance of a shift modulo 64: together that turns the seven bits round.
            return (127L << first) | (127L >>> -first);
        }

        long placesOf(int tooth, int line) {
            return places[lineAt(tooth, line)];
        }

        int wearOf(int tooth, int line, int place) {
            return wears[pinAt(tooth, line, place)];
        }

        boolean hasPin(int tooth, int line, int place) {
            return (places[lineAt(tooth, line)] >>> place & 1L) == 1L;
        }

        void setPin(int tooth, int line, int place) {
            places[lineAt(tooth, line)] |= 1L << place;
            wears[pinAt(tooth, line, place)] = 0;
        }

        int pinsOfTooth(int tooth) {
            int pins = 0;
            for (int line = 0; line < LINES; line++) {
                pins += Long.bitCount(placesOf(tooth, line));
            }
            return pins;
        }

        /** The TOOTH of the COMB that a NOTE is pinned for, or NONE. */
        int freeTooth(Comb comb, int line, int pitch, int time) {
            long near = placesNear(time);
            int free = NONE;
            int fewest = PLACES;
            for (int tooth = 0; tooth < comb.count; tooth++) {
                if (comb.pitch[tooth] == pitch && !comb.broken[tooth]) {
                    long taken = places[lineAt(tooth, line)];
                    int pins = Long.bitCount(taken);
                    if ((taken & near) == 0L && pins < fewest) {
                        free = tooth;
                        fewest = pins;
                    }
                }
            }
            return free;
        }

        /** Pulls out the PINS with at least that WEAR, and returns how many. */
        int pullFrom(int tooth, int line, int leastWear) {
            int pulled = 0;
            for (int place = 0; place < PLACES; place++) {
                if (hasPin(tooth, line, place) && wearOf(tooth, line, place) >= leastWear) {
                    places[lineAt(tooth, line)] &= ~(1L << place);
                    pulled++;
                }
            }
            return pulled;
        }

        /** Returns how many PINS that mends. */
        int renewPins(int tooth, int line) {
            int renewed = 0;
            for (int place = 0; place < PLACES; place++) {
                if (hasPin(tooth, line, place) && wearOf(tooth, line, place) >= WORN) {
                    wears[pinAt(tooth, line, place)] = 0;
                    renewed++;
                }
            }
            return renewed;
        }

        /** Returns whether the PIN is gone by that. */
        boolean wearDown(int tooth, int line, int place) {
            int pin = pinAt(tooth, line, place);
            wears[pin]++;
            if (wears[pin] < WORN_OUT) {
                return false;
            }
            places[lineAt(tooth, line)] &= ~(1L << place);
            return true;
        }

        void takePins(Barrel from, int line) {
            int first = lineAt(0, line);
            System.arraycopy(from.places, first, places, first, MOST_TEETH);
        }

        void takeWears(Barrel from, int line) {
            int first = pinAt(0, line, 0);
            System.arraycopy(from.wears, first, wears, first, MOST_TEETH * PLACES);
        }
    }

    /** The latest SOUNDS, round: the newest one takes the room of the oldest. */
    private static final class Sounds {
        final int[] pitches;
        final double[] clocks;
        int oldest;
        int kept;
        int ever;

        Sounds() {
            pitches = new int[MOST_SOUNDS];
            clocks = new double[MOST_SOUNDS];
        }

        int roomOf(int sound) {
            return (oldest + sound) % MOST_SOUNDS;
        }

        int pitchOf(int sound) {
            return pitches[roomOf(sound)];
        }

        double clockOf(int sound) {
            return clocks[roomOf(sound)];
        }

        void addSound(int pitch, double clock) {
            int room = roomOf(kept);
            pitches[room] = pitch;
            clocks[room] = clock;
            ever++;
            if (kept < MOST_SOUNDS) {
                kept++;
            } else {
                oldest = roomOf(1);
            }
        }
    }

    /** SPRING, GOVERNOR and CLOCK, and what they move. */
    private static final class Works {
        final Comb comb;
        final Barrel barrel;
        final Sounds sounds;
        int wound;
        int governor;
        int place;
        int shift;
        int steps;
        int buzzes;
        int wornOut;
        double clock;

        Works() {
            comb = new Comb();
            barrel = new Barrel();
            sounds = new Sounds();
            governor = FIRST_GOVERNOR;
        }

        float speedNow() {
            float speed = 0.125f * (float) governor + (float) wound * 0.0009765625f;
            return speed > 2f ? 2f : speed;
        }

        void run(int many) {
            for (int i = 0; i < many && wound > 0; i++) {
                step();
            }
        }

        /** Only while it is WOUND. */
        void step() {
            clock += 0.125 / (double) speedNow();
            place = (place + 1) % PLACES;
            steps++;
            int plucked = 0;
            for (int tooth = 0; tooth < comb.count; tooth++) {
                if (!comb.broken[tooth] && barrel.hasPin(tooth, shift, place)) {
                    pluck(tooth);
                    plucked++;
                }
            }
            wound = Math.max(0, wound - 2 - plucked);
        }

        void pluck(int tooth) {
            if (comb.pluckTooth(tooth, steps)) {
                buzzes++;
            } else {
                sounds.addSound(comb.pitch[tooth], clock);
            }
            if (barrel.wearDown(tooth, shift, place)) {
                wornOut++;
            }
        }

        /** Takes over all that playing on asks for; the LINES in other SHIFTS and the SOUNDS are none of it. */
        void takeOver(Works from) {
            comb.takeTeeth(from.comb);
            barrel.takePins(from.barrel, from.shift);
            barrel.takeWears(from.barrel, from.shift);
            wound = from.wound;
            governor = from.governor;
            place = from.place;
            shift = from.shift;
            steps = from.steps;
            buzzes = from.buzzes;
            wornOut = from.wornOut;
            clock = from.clock;
        }
    }
}
