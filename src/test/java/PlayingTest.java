/** Promises 9 to 12. */
public final class PlayingTest {
    private static final Check check = new Check();

    public static void main(String[] args) {
        wind();
        govern();
        clock();
        standStill();
        springRest();
        buzz();
        breaking();
        shiftedBuzz();
        wearOut();
        playRefused();
        mend();
        check.end();
    }

    private static void wind() {
        PinBarrel box = new PinBarrel();
        check.argument("wind(0)", () -> box.wind(0));
        check.argument("wind(501)", () -> box.wind(501));
        check.argument("wind(-1)", () -> box.wind(-1));
        check.due("wind(1)", box.wind(1), 1);
        check.due("wind(500)", box.wind(500), 501);
        check.due("wind(500)", box.wind(500), 1001);
        check.due("wind(500)", box.wind(500), 1501);
        check.due("wind(498)", box.wind(498), 1999);
        check.due("2000 at most", box.wind(500), 2000);
        check.due("no knock yet", box.many(13), 0);
        check.due("a knock", box.wind(1), 2000);
        check.due("a knock", box.wind(500), 2000);
        check.argument("a refusal is no knock", () -> box.wind(501));
        check.due("knocks", box.many(13), 2);
    }

    private static void govern() {
        PinBarrel box = new PinBarrel();
        check.argument("govern(0)", () -> box.govern(0));
        check.argument("govern(9)", () -> box.govern(9));
        check.due("governor", box.many(7), 4);
        for (int governor = 1; governor <= 8; governor++) {
            check.due("govern", box.govern(governor), 0.125 * governor);
            check.due("governor", box.many(7), governor);
        }
        Boxes.wound(box, 1024);
        check.due("just 2", box.govern(8), 2.0);
        box.wind(500);
        check.due("2 at most", box.govern(8), 2.0);
        check.due("below 2", box.govern(4), 0.5 + 1524.0 / 1024.0);
    }

    private static void clock() {
        PinBarrel box = Boxes.pinned(1, 10, 19);
        Boxes.wound(box, 512);
        box.govern(4);
        check.due("heard", box.play(19), 3);
        double clock = 0.0;
        int wound = 512;
        int sound = 0;
        for (int step = 1; step <= 19; step++) {
            clock += 0.125 / (double) (0.5f + wound * 0.0009765625f);
            wound -= 2;
            if (step == 1 || step == 10 || step == 19) {
                wound--;
                check.due("clock", box.when(sound), Math.rint(8.0 * clock) / 8.0);
                sound++;
            }
        }
        check.due("wound", box.many(6), wound);
        check.due("whole clock", box.many(14), (int) clock);
        check.due("place", box.many(4), 19);
        check.due("steps", box.many(8), 19);
        PinBarrel slow = new PinBarrel();
        slow.govern(1);
        Boxes.wound(slow, 1000);
        slow.play(128);
        slow.play(128);
        check.due("round", slow.many(4), 0);
        slow.play(1);
        check.due("on by a place", slow.many(4), 1);
    }

    private static void standStill() {
        PinBarrel box = Boxes.pinned(1);
        check.due("without spring", box.play(128), 0);
        check.due("nothing happens", Boxes.all(box), "1 0 1 1 0 0 0 4 0 0 0 0 0 0 0");
        box.wind(1);
        check.due("one step", box.play(128), 1);
        check.due("one step", Boxes.all(box), "1 0 1 1 1 0 0 4 1 1 1 0 0 0 0");
        double when = box.when(0);
        box.play(1);
        check.due("no more", box.many(8), 1);
        check.due("the clock stands too", box.when(0), when);
    }

    private static void springRest() {
        PinBarrel box = Boxes.withTeeth(20, 21, 22);
        int tune = Boxes.tune(box, 1, 20, 1, 21, 1, 22);
        box.pin(tune, 0, 0);
        box.wind(9);
        check.due("three at once", box.play(1), 3);
        check.due("2 and 3 less", box.many(6), 4);
        box.play(1);
        check.due("2 less", box.many(6), 2);
        box.play(1);
        check.due("0", box.many(6), 0);
        check.due("in the order of teeth", "" + box.heard(0) + box.heard(1) + box.heard(2), "202122");
        PinBarrel low = Boxes.pinned(1);
        low.wind(2);
        low.play(1);
        check.due("0 at least", low.many(6), 0);
    }

    private static void buzz() {
        for (int away = 4; away < 12; away++) {
            PinBarrel box = Boxes.wound(Boxes.pinned(2, 2 + away), 500);
            check.due("heard, " + away + " apart", box.play(20), away < 8 ? 1 : 2);
            check.due("buzzes", box.many(11), away < 8 ? 1 : 0);
            check.due("scratches", box.ofTooth(0, 2), away < 8 ? 1 : 0);
            check.due("plucked ever", box.ofTooth(0, 3), 2);
            check.due("a buzz wears too", box.wear(0, 0, 2 + away), 1);
            check.due("a buzz takes spring too", box.many(6), 500 - 40 - 2);
        }
        PinBarrel box = Boxes.wound(Boxes.pinned(2, 8, 14, 22), 500);
        check.due("a buzz counts as a pluck", box.play(14), 1);
        check.due("two buzzes", box.many(11), 2);
        check.due("8 steps ago is long enough", box.play(8), 1);
        PinBarrel early = Boxes.wound(Boxes.pinned(1), 500);
        check.due("a first pluck does not buzz", early.play(1), 1);
        PinBarrel two = Boxes.withTeeth(20, 20);
        int tune = Boxes.tune(two, 2, 20);
        two.pin(tune, 0, 0);
        two.note(tune, 2, 20);
        two.note(tune, 3, 20);
        two.pin(tune, 0, 0);
        Boxes.wound(two, 500);
        check.due("other teeth do not matter", two.play(5), 2);
    }

    private static void breaking() {
        PinBarrel box = Boxes.wound(Boxes.pinned(1, 5, 9, 13, 17, 21, 40), 500);
        box.play(13);
        check.due("scratches", box.ofTooth(0, 2), 3);
        check.due("still whole", box.ofTooth(0, 1), 0);
        box.play(4);
        check.due("broken at once", box.ofTooth(0, 1), 1);
        check.due("broken ones", box.many(1), 1);
        check.due("the fourth pluck counts", box.wear(0, 0, 17), 1);
        check.due("silent", box.play(40), 0);
        check.due("no wear", box.wear(0, 0, 21), 0);
        check.due("plucks", box.ofTooth(0, 3), 5);
        check.due("scratches", box.ofTooth(0, 2), 4);
        check.due("buzzes", box.many(11), 4);
        check.due("no spring for a broken one", box.many(6), 500 - 2 * 57 - 5);
        check.due("its row", box.row(40), "x");
        check.due("its row without a pin", box.row(41), "x");
    }

    private static void shiftedBuzz() {
        PinBarrel box = Boxes.withTeeth(20);
        int one = Boxes.tune(box, 1, 20);
        int two = Boxes.tune(box, 3, 20);
        box.pin(one, 0, 0);
        box.pin(two, 1, 0);
        box.wind(500);
        box.play(1);
        box.shift(1);
        check.due("a buzz in another shift", box.play(5), 0);
        check.due("buzzes", box.many(11), 1);
        check.due("the pin of the other line", box.wear(0, 1, 3), 1);
        check.due("not that of this one", box.wear(0, 0, 1), 1);
    }

    private static void wearOut() {
        PinBarrel box = Boxes.wound(Boxes.pinned(10), 2000);
        for (int turn = 1; turn <= 4; turn++) {
            check.due("heard", box.play(64), 1);
            check.due("wear", box.wear(0, 0, 10), turn);
        }
        check.due("the fifth is heard", box.play(64), 1);
        check.due("gone", box.wear(0, 0, 10), -1);
        check.due("gone", box.pins(0, 0), 0L);
        check.due("pins gone ever", box.many(12), 1);
        check.due("silent", box.play(64), 0);
        check.due("plucked ever", box.ofTooth(0, 3), 5);
    }

    private static void playRefused() {
        PinBarrel box = Boxes.wound(Boxes.pinned(1), 500);
        check.argument("play(0)", () -> box.play(0));
        check.argument("play(129)", () -> box.play(129));
        check.argument("play(-5)", () -> box.play(-5));
        check.due("no steps", box.many(8), 0);
        box.play(128);
        check.due("all steps", box.many(8), 128);
    }

    private static void mend() {
        PinBarrel box = Boxes.withTeeth(20, 30);
        int tune = Boxes.tune(box, 1, 20, 5, 20, 9, 20, 20, 30, 40, 30);
        box.pin(tune, 0, 0);
        box.pin(tune, 1, 0);
        Boxes.wound(box, 2000);
        check.due("nothing to mend", box.mend(), 0);
        box.play(64);
        check.due("two scratches", box.ofTooth(0, 2), 2);
        check.due("scratches do not count", box.mend(), 0);
        check.due("scratches are gone", box.ofTooth(0, 2), 0);
        check.due("a wear of 1 stays", box.wear(1, 0, 20), 1);
        box.play(64);
        check.due("a wear of 2", box.wear(0, 0, 9), 2);
        box.play(60);
        check.due("a wear of 3", box.wear(0, 0, 5), 3);
        check.due("broken", box.ofTooth(0, 1), 1);
        check.due("the tooth and five pins", box.mend(), 6);
        check.due("whole", box.ofTooth(0, 1), 0);
        check.due("scratches are gone", box.ofTooth(0, 2), 0);
        check.due("no wear", box.wear(0, 0, 5), 0);
        check.due("the pin stays", box.pins(0, 0), 1L << 1 | 1L << 5 | 1L << 9);
        check.due("plucks stay", box.ofTooth(0, 3) > 5, true);
        check.due("nothing more to mend", box.mend(), 0);
        mendKeepsLastPluck();
    }

    private static void mendKeepsLastPluck() {
        PinBarrel box = Boxes.wound(Boxes.pinned(1, 5), 500);
        box.play(1);
        box.mend();
        check.due("plucked less than 8 steps ago all the same", box.play(4), 0);
    }
}
