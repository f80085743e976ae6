/** 'Playing', and the promises 9 to 12. */
final class PlayingEdges {
    private static final String TERMS = "3. Playing";
    private static final String WIND = "Promise 9: wind";
    private static final String GOVERN = "Promise 10: govern";
    private static final String PLAY = "Promise 11: play";
    private static final String MEND = "Promise 12: mend";

    private final Edges edges;
    private final Check check;

    PlayingEdges(Edges edges) {
        this.edges = edges;
        check = edges.check;
    }

    void run() {
        springAndSpeed();
        step();
        plucks();
        buzzes();
        scratches();
        wear();
        spring();
        sounds();
        mending();
        wind();
        govern();
        play();
        mend();
    }

    private void springAndSpeed() {
        edges.edge(TERMS, "The SPRING is WOUND by 0 to 2000 (0 at first).", () -> {
            PinBarrel box = new PinBarrel();
            check.due("at first", box.many(6), 0);
            Boxes.wound(box, 1999);
            check.due("wind(2)", box.wind(2), 2000);
            for (int steps = 1; steps <= 8; steps++) {
                box.play(128);
            }
            check.due("played down", box.many(6), 0);
        });
        edges.edge(TERMS, "The GOVERNOR is 1 to 8 (4 at first).", () -> {
            PinBarrel box = new PinBarrel();
            check.due("at first", box.many(7), 4);
            box.govern(1);
            check.due("least", box.many(7), 1);
            box.govern(8);
            check.due("greatest", box.many(7), 8);
        });
        edges.edge(TERMS, "SPEED (float) is 0.125f * GOVERNOR + WOUND * 0.0009765625f, 2f at most.", () -> {
            PinBarrel box = Boxes.wound(new PinBarrel(), 1023);
            check.due("just below 2", box.govern(8), 1.0 + 1023.0 / 1024.0);
            box.wind(1);
            check.due("just 2", box.speed(), 2.0);
            box.wind(1);
            check.due("no more than 2", box.speed(), 2.0);
            PinBarrel slow = Boxes.wound(new PinBarrel(), 1919);
            check.due("just below 2, governed by 1", slow.govern(1), 0.125 + 1919.0 / 1024.0);
            slow.wind(81);
            check.due("2000 and 1", slow.speed(), 2.0);
            check.due("2000 and 8", slow.govern(8), 2.0);
        });
    }

    private void step() {
        edges.edge(TERMS, "To PLAY a step: if WOUND is 0, it stands still (nothing happens).", () -> {
            PinBarrel box = Boxes.pinned(1, 2 + 3);
            check.due("nothing is heard", box.play(128), 0);
            check.due("nothing happens", Boxes.all(box), "1 0 1 2 0 0 0 4 0 0 0 0 0 0 0");
            check.due("no wear", box.wear(0, 0, 1), 0);
            box.wind(1);
            check.due("WOUND 1 is enough for a step", box.play(128), 1);
            check.due("just one", Boxes.all(box), "1 0 1 2 1 0 0 4 1 1 1 0 0 0 0");
        });
        edges.edge(TERMS, "CLOCK (double; 0.0 at first) is 0.125 / SPEED more", () -> {
            PinBarrel box = Boxes.wound(new PinBarrel(), 2000);
            box.govern(8);
            check.due("at first", box.many(14), 0);
            box.play(15);
            check.due("15 sixteenths", box.many(14), 0);
            box.play(1);
            check.due("16 sixteenths", box.many(14), 1);
        });
        edges.edge(TERMS, "(SPEED made double, as it is ahead of the step).", () -> {
            PinBarrel box = new PinBarrel();
            box.govern(1);
            box.wind(1);
            box.play(1);
            check.due("0.992, and not 1 as behind the step", box.many(14), 0);
            check.due("behind it", box.speed(), 0.125);
        });
        edges.edge(TERMS, "The BARREL goes on by a PLACE (0 behind 63).", () -> {
            PinBarrel box = Boxes.wound(Boxes.pinned(0, 50), 500);
            check.due("the place 0 is none of the first 63", box.play(63), 1);
            check.due("the place", box.many(4), 63);
            check.due("with the 64th step it is there", box.play(1), 1);
            check.due("the place", box.many(4), 0);
            box.play(1);
            check.due("and on", box.many(4), 1);
            PinBarrel last = Boxes.wound(Boxes.pinned(63), 500);
            check.due("62 steps", last.play(62), 0);
            check.due("the 63rd", last.play(1), 1);
        });
    }

    private void plucks() {
        edges.edge(TERMS, "TOOTH by TOOTH, each PIN at that PLACE in the LINE that is under it plucks it,", () -> {
            PinBarrel box = new PinBarrel();
            for (int tooth = 0; tooth < 24; tooth++) {
                box.tooth(47 - tooth);
            }
            box.tune();
            for (int tooth = 0; tooth < 24; tooth++) {
                box.note(0, 1, 47 - tooth);
            }
            box.pin(0, 2, 0);
            box.wind(500);
            check.due("lines 2 are not under teeth", box.play(64), 0);
            box.shift(2);
            check.due("now they are", box.play(1), 24);
            for (int tooth = 0; tooth < 24; tooth++) {
                check.due("heard by their numbers", box.heard(tooth), 47 - tooth);
            }
        });
        edges.edge(TERMS, "if it is whole: its WEAR is 1 more.", () -> {
            PinBarrel box = Boxes.wound(Boxes.pinned(1, 40), 500);
            box.play(1);
            check.due("plucked", box.wear(0, 0, 1), 1);
            check.due("another pin", box.wear(0, 0, 40), 0);
            PinBarrel two = Boxes.withTeeth(20, 21);
            two.pin(Boxes.tune(two, 5, 20, 4, 21), 0, 0);
            two.pin(0, 1, 0);
            two.wind(500);
            two.play(4);
            check.due("that of the other tooth", two.wear(1, 0, 4), 1);
            check.due("not that at the next place", two.wear(0, 0, 5), 0);
            check.due("not that of another line", two.wear(1, 1, 4), 0);
            PinBarrel broken = Boxes.broken();
            int plucked = broken.ofTooth(0, 3);
            check.due("a broken one is not heard", broken.play(64), 0);
            check.due("nor plucked", broken.ofTooth(0, 3), plucked);
            check.due("no wear", broken.wear(0, 0, 8), 1);
        });
    }

    private void buzzes() {
        edges.edge(TERMS, "A TOOTH that was plucked less than 8 steps ago", () -> {
            for (int away = 1; away <= 10; away++) {
                PinBarrel box = Boxes.crossed(20, 20 + away);
                check.due("buzzes in the first step", box.many(11), 0);
                box.play(away);
                check.due("buzzes, " + away + " steps behind it", box.many(11), away < 8 ? 1 : 0);
                check.due("sounds", box.many(9), away < 8 ? 1 : 2);
            }
            for (int place = 1; place <= 8; place++) {
                PinBarrel box = Boxes.wound(Boxes.pinned(place), 500);
                check.due("one never plucked does not, at " + place, box.play(place), 1);
            }
        });
        edges.edge(TERMS, "(in steps that were done,", () -> {
            PinBarrel box = Boxes.pinned(1, 8);
            box.wind(3);
            check.due("one step is done", box.play(128), 1);
            check.due("none is", box.play(128), 0);
            box.wind(500);
            check.due("7 steps ago all the same", box.play(7), 0);
            check.due("buzzes", box.many(11), 1);
            PinBarrel round = Boxes.wound(Boxes.pinned(60, 3), 500);
            round.play(60);
            round.play(7);
            check.due("7 steps ago, beyond 63", round.many(11), 1);
        });
        edges.edge(TERMS, "in whichever SHIFT) BUZZES (counted),", () -> {
            PinBarrel box = Boxes.crossed(20, 27);
            check.due("of the lines 1", box.play(7), 0);
            check.due("counted", box.many(11), 1);
            check.due("plucked", box.ofTooth(0, 3), 2);
        });
    }

    private void scratches() {
        edges.edge(TERMS, "and it gets a SCRATCH more,", () -> {
            PinBarrel box = Boxes.wound(Boxes.pinned(2, 6, 10, 14, 18), 500);
            int[] due = {0, 1, 2, 3, 4};
            for (int i = 0; i < due.length; i++) {
                box.play(i == 0 ? 2 : 4);
                check.due("scratches behind " + (i + 1) + " plucks", box.ofTooth(0, 2), due[i]);
            }
        });
        edges.edge(TERMS, "and with its 4th SCRATCH it is BROKEN at once;", () -> {
            PinBarrel box = Boxes.wound(Boxes.pinned(2, 6, 10, 14, 18, 22), 500);
            box.play(14);
            check.due("whole with three", box.ofTooth(0, 1), 0);
            box.play(3);
            check.due("whole a step ahead", box.row(0), ".");
            box.play(1);
            check.due("broken with the fourth", box.ofTooth(0, 1), 1);
            check.due("the pluck that broke it", box.ofTooth(0, 3), 5);
            box.play(4);
            check.due("none behind it", box.ofTooth(0, 3), 5);
            check.due("scratches", box.ofTooth(0, 2), 4);
        });
        edges.edge(TERMS, "one that does not BUZZ is HEARD: a SOUND of its PITCH, at CLOCK.", () -> {
            PinBarrel box = Boxes.wound(Boxes.pinned(2, 6, 14), 2000);
            box.govern(8);
            check.due("the first one and the last one", box.play(14), 2);
            check.due("sounds", box.many(9), 2);
            check.due("pitch", box.heard(1), 20);
            check.due("2 sixteenths", box.when(0), 0.125);
            check.due("14 sixteenths, that step with it", box.when(1), 0.875);
            check.due("buzzes", box.many(11), 1);
        });
    }

    private void wear() {
        edges.edge(TERMS, "A PIN with a WEAR of 5 is gone.", () -> {
            PinBarrel box = Boxes.wound(Boxes.pinned(5), 2000);
            for (int turn = 1; turn <= 4; turn++) {
                box.play(64);
                check.due("wear", box.wear(0, 0, 5), turn);
            }
            check.due("none is gone", box.many(12), 0);
            check.due("the fifth one is heard", box.play(64), 1);
            check.due("gone", box.wear(0, 0, 5), -1);
            check.due("gone ever", box.many(12), 1);
            check.due("pins", box.many(3), 0);
            check.due("not heard", box.play(64), 0);
        });
    }

    private void spring() {
        edges.edge(TERMS, "WOUND is less by 2,", () -> {
            PinBarrel box = Boxes.wound(Boxes.pinned(3), 5);
            box.play(1);
            check.due("5 less 2", box.many(6), 3);
        });
        edges.edge(TERMS, "and by 1 more for each TOOTH that was plucked;", () -> {
            check.due("24 of 27", wornOfChord(27), 1);
            PinBarrel box = Boxes.wound(Boxes.pinned(4, 8, 12, 16, 20), 100);
            box.play(4);
            check.due("one that is heard", box.many(6), 100 - 9);
            box.play(4);
            check.due("one that buzzes", box.many(6), 100 - 18);
            box.play(12);
            check.due("one that breaks", box.many(6), 100 - 45);
            check.due("it is broken", box.many(1), 1);
            PinBarrel broken = Boxes.broken();
            int wound = broken.many(6);
            broken.play(64);
            check.due("none that is broken", broken.many(6), wound - 128);
        });
        edges.edge(TERMS, "0 at least.", () -> {
            PinBarrel box = new PinBarrel();
            box.wind(1);
            box.play(1);
            check.due("1 less 2", box.many(6), 0);
            for (int wound = 1; wound <= 26; wound++) {
                check.due(wound + " less 26", wornOfChord(wound), 0);
            }
        });
    }

    /** How much is WOUND behind a step that plucks 24 TEETH. */
    private static int wornOfChord(int wound) {
        PinBarrel box = Boxes.chord(24);
        box.wind(wound);
        box.play(1);
        return box.many(6);
    }

    private void sounds() {
        edges.edge(TERMS, "SOUNDS: the latest 40 are kept, numbered from 0, the oldest of these, on.", () -> {
            for (int many = 38; many <= 43; many++) {
                PinBarrel box = Boxes.chord(many);
                box.wind(500);
                box.play(40);
                check.due("sounds ever", box.many(9), many);
                int kept = Math.min(many, 40);
                check.due("kept", box.many(10), kept);
                for (int sound = 0; sound < kept; sound++) {
                    check.due("heard", box.heard(sound), (many - kept + sound) % 24);
                }
                check.index("behind the last one", () -> box.heard(kept));
            }
        });
    }

    private void mending() {
        edges.edge(TERMS, "To MEND: all TEETH that are BROKEN are whole,", () -> {
            PinBarrel box = Boxes.broken();
            check.due("broken", box.many(1), 1);
            box.mend();
            check.due("whole", box.ofTooth(0, 1), 0);
            check.due("broken", box.many(1), 0);
            check.due("it is plucked again", box.play(64) > 0, true);
        });
        edges.edge(TERMS, "all SCRATCHES are gone,", () -> {
            PinBarrel box = Boxes.broken();
            box.mend();
            check.due("of one that was broken", box.ofTooth(0, 2), 0);
            PinBarrel whole = Boxes.wound(Boxes.pinned(4, 8, 12, 16), 500);
            whole.play(16);
            check.due("three", whole.ofTooth(0, 2), 3);
            check.due("they are not counted", whole.mend(), 0);
            check.due("of a whole one", whole.ofTooth(0, 2), 0);
        });
        edges.edge(TERMS, "and all PINS with a WEAR of 3 or more have a WEAR of 0;", () -> {
            for (int place : new int[] {0, 10, 63}) {
                PinBarrel box = Boxes.worn(place);
                check.due("wears", Boxes.wears(box, place), "4 3 2");
                box.shift(2);
                check.due("two of three", box.mend(), 2);
                check.due("wears of lines not under teeth", Boxes.wears(box, place), "0 0 2");
                check.due("the pins stay", box.many(3), 3);
            }
        });
        edges.edge(TERMS, "how many of both.", () -> {
            PinBarrel box = Boxes.wound(Boxes.pinned(1, 5, 9), 2000);
            box.tooth(21);
            box.pin(Boxes.tune(box, 30, 21), 0, 0);
            box.play(64);
            box.play(64);
            check.due("4 buzzes", box.many(1), 1);
            box.play(64);
            check.due("wear of the other one", box.wear(1, 0, 30), 3);
            check.due("a tooth, and a pin", box.mend(), 2);
        });
    }

    private void wind() {
        edges.edge(WIND, "WINDS the SPRING by so much more, 2000 at most;", () -> {
            PinBarrel box = Boxes.wound(new PinBarrel(), 1500);
            check.due("just 2000", box.wind(500), 2000);
            PinBarrel more = Boxes.wound(new PinBarrel(), 1999);
            check.due("499 beyond", more.wind(500), 2000);
            check.due("no knocks", box.many(13) + more.many(13), 0);
        });
        edges.edge(WIND, "with WOUND 2000 ahead of the call that is a KNOCK (nothing is done).", () -> {
            PinBarrel box = Boxes.wound(new PinBarrel(), 2000);
            check.due("none yet", box.many(13), 0);
            check.due("a knock", box.wind(1), 2000);
            check.due("a knock", box.wind(500), 2000);
            check.due("knocks", box.many(13), 2);
            check.argument("a refused call is none", () -> box.wind(501));
            box.play(1);
            check.due("with 1998 it is wound", box.wind(1), 1999);
            check.due("with 1999 too", box.wind(1), 2000);
            check.due("knocks", box.many(13), 2);
        });
        edges.edge(WIND, "Throws `IllegalArgumentException` if much is not 1 to 500", () -> {
            PinBarrel box = new PinBarrel();
            check.argument("0", () -> box.wind(0));
            check.argument("-1", () -> box.wind(-1));
            check.argument("501", () -> box.wind(501));
            check.argument("the greatest int", () -> box.wind(Integer.MAX_VALUE));
            check.due("1", box.wind(1), 1);
            check.due("500", box.wind(500), 501);
        });
    }

    private void govern() {
        edges.edge(GOVERN, "Returns SPEED then, made double.", () -> {
            PinBarrel box = new PinBarrel();
            check.due("1, not wound", box.govern(1), 0.125);
            check.due("8, not wound", box.govern(8), 1.0);
            box.wind(1);
            check.due("1, wound by 1", box.govern(1), 0.1259765625);
            check.due("the same again", box.govern(1), 0.1259765625);
        });
        edges.edge(GOVERN, "Throws `IllegalArgumentException` if it is not 1 to 8", () -> {
            PinBarrel box = new PinBarrel();
            check.argument("0", () -> box.govern(0));
            check.argument("9", () -> box.govern(9));
            check.argument("-1", () -> box.govern(-1));
            check.due("as it was", box.speed(), 0.5);
            check.due("8", box.govern(8), 1.0);
            check.due("1", box.govern(1), 0.125);
        });
    }

    private void play() {
        edges.edge(PLAY, "Returns how many SOUNDS are HEARD in these.", () -> {
            PinBarrel box = Boxes.chord(48);
            Boxes.wound(box, 2000);
            check.due("none", new PinBarrel().play(1), 0);
            check.due("more than are kept", box.play(40), 48);
            check.due("none in these", box.play(24), 0);
            check.due("not those ahead", box.play(1), 24);
        });
        edges.edge(PLAY, "Throws `IllegalArgumentException` if steps is not 1 to 128", () -> {
            PinBarrel box = Boxes.wound(new PinBarrel(), 2000);
            check.argument("0", () -> box.play(0));
            check.argument("-1", () -> box.play(-1));
            check.argument("129", () -> box.play(129));
            check.argument("the least int", () -> box.play(Integer.MIN_VALUE));
            check.due("no steps", box.many(8), 0);
            box.play(1);
            check.due("1", box.many(8), 1);
            box.play(128);
            check.due("128", box.many(8), 129);
        });
    }

    private void mend() {
        edges.edge(MEND, "Returns how many TEETH that were BROKEN, and PINS, together, are mended.", () -> {
            check.due("a new box", new PinBarrel().mend(), 0);
            PinBarrel box = Boxes.broken();
            check.due("the tooth, no pin", box.mend(), 1);
            check.due("nothing more", box.mend(), 0);
            PinBarrel worn = Boxes.worn(10);
            check.due("two pins, no tooth", worn.mend(), 2);
            check.due("nothing more", worn.mend(), 0);
        });
    }
}
