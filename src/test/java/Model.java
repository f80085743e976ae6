import java.util.ArrayList;
import java.util.List;
import java.util.TreeMap;
import java.util.TreeSet;

/** A box written from the document a second time, slow and plain, with the Java library, to compare with. */
final class Model {
    private static final class Tooth {
        int pitch;
        boolean isBroken;
        int scratches;
        List<Integer> plucked = new ArrayList<>();
        /** For each LINE the WEAR by PLACE. */
        List<TreeMap<Integer, Integer>> lines = new ArrayList<>();

        Tooth(int pitch) {
            this.pitch = pitch;
            for (int i = 0; i < 3; i++) {
                lines.add(new TreeMap<>());
            }
        }

        Tooth(Tooth from) {
            pitch = from.pitch;
            isBroken = from.isBroken;
            scratches = from.scratches;
            plucked.addAll(from.plucked);
            for (TreeMap<Integer, Integer> line : from.lines) {
                lines.add(new TreeMap<>(line));
            }
        }
    }

    private record Note(int time, int pitch) implements Comparable<Note> {
        @Override
        public int compareTo(Note other) {
            return time != other.time ? Integer.compare(time, other.time) : Integer.compare(pitch, other.pitch);
        }
    }

    private record Sound(int pitch, double clock) {
    }

    private final List<Tooth> teeth = new ArrayList<>();
    private final List<TreeSet<Note>> tunes = new ArrayList<>();
    private final List<Sound> sounds = new ArrayList<>();
    private int place;
    private int shift;
    private int wound;
    private int governor = 4;
    private int steps;
    private int buzzes;
    private int gone;
    private int knocks;
    private double clock;

    Model() {
    }

    private Model(Model from) {
        for (Tooth tooth : from.teeth) {
            teeth.add(new Tooth(tooth));
        }
        for (TreeSet<Note> tune : from.tunes) {
            tunes.add(new TreeSet<>(tune));
        }
        sounds.addAll(from.sounds);
        place = from.place;
        shift = from.shift;
        wound = from.wound;
        governor = from.governor;
        steps = from.steps;
        buzzes = from.buzzes;
        gone = from.gone;
        knocks = from.knocks;
        clock = from.clock;
    }

    private static void index(int number, int size) {
        if (number < 0 || number >= size) {
            throw new IndexOutOfBoundsException();
        }
    }

    private static void range(int number, int least, int most) {
        if (number < least || number > most) {
            throw new IllegalArgumentException();
        }
    }

    int tooth(int pitch) {
        range(pitch, 0, 47);
        if (teeth.size() == 24) {
            throw new IllegalStateException();
        }
        teeth.add(new Tooth(pitch));
        return teeth.size() - 1;
    }

    int file(int tooth, int pitch) {
        index(tooth, teeth.size());
        range(pitch, 0, 47);
        int before = teeth.get(tooth).pitch;
        teeth.get(tooth).pitch = pitch;
        return before;
    }

    int tune() {
        if (tunes.size() == 4) {
            throw new IllegalStateException();
        }
        tunes.add(new TreeSet<>());
        return tunes.size() - 1;
    }

    int note(int tune, int time, int pitch) {
        index(tune, tunes.size());
        range(time, 0, 63);
        range(pitch, 0, 47);
        TreeSet<Note> notes = tunes.get(tune);
        Note note = new Note(time, pitch);
        if (!notes.remove(note)) {
            if (notes.size() == 30) {
                throw new IllegalStateException();
            }
            notes.add(note);
        }
        return notes.size();
    }

    int pin(int tune, int line, int higher) {
        index(tune, tunes.size());
        index(line, 3);
        range(higher, -24, 24);
        int lost = 0;
        for (Note note : tunes.get(tune)) {
            Tooth chosen = null;
            for (Tooth tooth : teeth) {
                if (tooth.pitch == note.pitch() + higher && !tooth.isBroken && isFree(tooth, line, note.time())
                        && (chosen == null || tooth.lines.get(line).size() < chosen.lines.get(line).size())) {
                    chosen = tooth;
                }
            }
            if (chosen == null) {
                lost++;
            } else {
                chosen.lines.get(line).put(note.time(), 0);
            }
        }
        return lost;
    }

    private static boolean isFree(Tooth tooth, int line, int time) {
        for (int pinned : tooth.lines.get(line).keySet()) {
            int way = Math.abs(pinned - time);
            if (Math.min(way, 64 - way) < 4) {
                return false;
            }
        }
        return true;
    }

    int pull(int line, boolean isWorn) {
        index(line, 3);
        int before = many(3);
        for (Tooth tooth : teeth) {
            tooth.lines.get(line).values().removeIf(wear -> !isWorn || wear >= 3);
        }
        return before - many(3);
    }

    int shift(int line) {
        index(line, 3);
        int before = shift;
        shift = line;
        return before;
    }

    int wind(int much) {
        range(much, 1, 500);
        if (wound == 2000) {
            knocks++;
        }
        wound = Math.min(2000, wound + much);
        return wound;
    }

    double govern(int much) {
        range(much, 1, 8);
        governor = much;
        return speed();
    }

    int play(int many) {
        range(many, 1, 128);
        int before = sounds.size();
        for (int i = 0; i < many; i++) {
            step();
        }
        return sounds.size() - before;
    }

    private void step() {
        if (wound == 0) {
            return;
        }
        clock = clock + 0.125 / speed();
        place = place == 63 ? 0 : place + 1;
        steps++;
        int plucked = 0;
        for (Tooth tooth : teeth) {
            TreeMap<Integer, Integer> line = tooth.lines.get(shift);
            if (tooth.isBroken || !line.containsKey(place)) {
                continue;
            }
            plucked++;
            line.merge(place, 1, Integer::sum);
            boolean buzzing = false;
            for (int step : tooth.plucked) {
                buzzing |= steps - step < 8;
            }
            tooth.plucked.add(steps);
            if (buzzing) {
                buzzes++;
                tooth.scratches++;
                if (tooth.scratches == 4) {
                    tooth.isBroken = true;
                }
            } else {
                sounds.add(new Sound(tooth.pitch, clock));
            }
            if (line.get(place) == 5) {
                line.remove(place);
                gone++;
            }
        }
        wound -= 2;
        wound -= plucked;
        if (wound < 0) {
            wound = 0;
        }
    }

    int mend() {
        int mended = 0;
        for (Tooth tooth : teeth) {
            if (tooth.isBroken) {
                mended++;
            }
            tooth.isBroken = false;
            tooth.scratches = 0;
            for (TreeMap<Integer, Integer> line : tooth.lines) {
                for (int pinned : line.keySet()) {
                    if (line.get(pinned) >= 3) {
                        line.put(pinned, 0);
                        mended++;
                    }
                }
            }
        }
        return mended;
    }

    int ofTooth(int number, int what) {
        index(number, teeth.size());
        range(what, 0, 4);
        Tooth tooth = teeth.get(number);
        return switch (what) {
            case 0 -> tooth.pitch;
            case 1 -> tooth.isBroken ? 1 : 0;
            case 2 -> tooth.scratches;
            case 3 -> tooth.plucked.size();
            default -> tooth.lines.stream().mapToInt(TreeMap::size).sum();
        };
    }

    long pins(int tooth, int line) {
        index(tooth, teeth.size());
        index(line, 3);
        long set = 0;
        for (int pinned : teeth.get(tooth).lines.get(line).keySet()) {
            set += 1L << pinned;
        }
        return set;
    }

    int wear(int tooth, int line, int at) {
        index(tooth, teeth.size());
        index(line, 3);
        index(at, 64);
        return teeth.get(tooth).lines.get(line).getOrDefault(at, -1);
    }

    String row(int at) {
        index(at, 64);
        String row = "";
        for (Tooth tooth : teeth) {
            row += tooth.isBroken ? "x" : tooth.lines.get(shift).containsKey(at) ? "|" : ".";
        }
        return row;
    }

    int ofTune(int tune, int what) {
        index(tune, tunes.size());
        range(what, 0, 4);
        TreeSet<Note> notes = tunes.get(tune);
        TreeMap<Integer, Integer> atOnce = new TreeMap<>();
        for (Note note : notes) {
            atOnce.merge(note.time(), 1, Integer::sum);
        }
        return switch (what) {
            case 0 -> notes.size();
            case 1 -> notes.stream().mapToInt(Note::pitch).min().orElse(-1);
            case 2 -> notes.stream().mapToInt(Note::pitch).max().orElse(-1);
            case 3 -> atOnce.size();
            default -> atOnce.values().stream().mapToInt(Integer::intValue).max().orElse(0);
        };
    }

    double likeness(int one, int other, int higher) {
        index(one, tunes.size());
        index(other, tunes.size());
        range(higher, -24, 24);
        double same = 0;
        for (Note note : tunes.get(one)) {
            if (tunes.get(other).contains(new Note(note.time(), note.pitch() - higher))) {
                same++;
            }
        }
        int most = Math.max(tunes.get(one).size(), tunes.get(other).size());
        return most == 0 ? 0.0 : same / most;
    }

    private List<Sound> kept() {
        return sounds.subList(Math.max(0, sounds.size() - 40), sounds.size());
    }

    int heard(int sound) {
        index(sound, kept().size());
        return kept().get(sound).pitch();
    }

    double when(int sound) {
        index(sound, kept().size());
        return Math.rint(8.0 * kept().get(sound).clock()) / 8.0;
    }

    double speed() {
        return Math.min(2f, 0.125f * governor + wound * 0.0009765625f);
    }

    int many(int what) {
        range(what, 0, 14);
        return switch (what) {
            case 0 -> teeth.size();
            case 1 -> (int) teeth.stream().filter(tooth -> tooth.isBroken).count();
            case 2 -> tunes.size();
            case 3 -> teeth.stream().flatMap(tooth -> tooth.lines.stream()).mapToInt(TreeMap::size).sum();
            case 4 -> place;
            case 5 -> shift;
            case 6 -> wound;
            case 7 -> governor;
            case 8 -> steps;
            case 9 -> sounds.size();
            case 10 -> kept().size();
            case 11 -> buzzes;
            case 12 -> gone;
            case 13 -> knocks;
            default -> (int) Math.floor(clock);
        };
    }

    int bestKey(int tune, int line) {
        index(tune, tunes.size());
        index(line, 3);
        int best = 0;
        int fewest = Integer.MAX_VALUE;
        for (int n = -24; n <= 24; n++) {
            int lost = new Model(this).pin(tune, line, n);
            if (lost < fewest || lost == fewest && Math.abs(n) <= Math.abs(best)) {
                best = n;
                fewest = lost;
            }
        }
        return best;
    }

    int lasts() {
        Model copy = new Model(this);
        while (copy.wound > 0) {
            copy.step();
        }
        return copy.steps - steps;
    }

    int wouldBuzz(int many) {
        range(many, 1, 128);
        Model copy = new Model(this);
        copy.play(many);
        return copy.buzzes - buzzes;
    }

    long digest() {
        List<Long> numbers = new ArrayList<>();
        for (int what = 0; what <= 14; what++) {
            numbers.add((long) many(what));
        }
        for (int tooth = 0; tooth < teeth.size(); tooth++) {
            for (int what = 0; what <= 4; what++) {
                numbers.add((long) ofTooth(tooth, what));
            }
            for (int line = 0; line < 3; line++) {
                numbers.add(pins(tooth, line));
            }
        }
        for (int tune = 0; tune < tunes.size(); tune++) {
            for (int what = 0; what <= 4; what++) {
                numbers.add((long) ofTune(tune, what));
            }
            numbers.add((long) bestKey(tune, 0));
        }
        for (Sound sound : kept()) {
            numbers.add((long) sound.pitch());
            numbers.add((long) (sound.clock() * 8.0));
        }
        numbers.add((long) lasts());
        numbers.add((long) wouldBuzz(16));
        long d = 58312;
        for (long number : numbers) {
            d = d * 31 + number;
        }
        return d;
    }
}
