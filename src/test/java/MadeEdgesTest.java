/** The boundary cases that promises 26 to 29 name, a test for each sentence. */
public final class MadeEdgesTest {
    private static final int LEAST = Integer.MIN_VALUE;
    private static final int MOST = Integer.MAX_VALUE;
    private static final int SPENT = WheelDisc.SPENT;

    public static void main(String[] args) {
        grays();
        chains();
        singles();
        searchesThatGoOn();
        Due.end();
    }

    private static void grays() {
        promise26_leastAndMostSectors();
        promise26_leastAndMostReaders();
        promise26_asManyWordsAsSectors();
        promise26_fewerWordsThanSectors();
        promise26_oddBelow4Above512();
        promise26_rNot2To10();
        promise26_theLeastNumberOfBits();
        promise26_readerIOnTrackIAtPlace0();
    }

    private static void chains() {
        promise27_leastAndMostBits();
        promise27_rNot1To9();
        promise27_noSuchWord();
        promise27_theLeastRow();
        promise27_stand0HasThisWord();
        promise27_oneBehindAnother();
    }

    private static void singles() {
        promise28_leastAndMostNumbers();
        promise28_otherSectors();
        promise28_otherReaders();
        promise28_notDivisible();
        promise28_noStepsAndMostSteps();
        promise28_otherSteps();
        promise28_theStepThatFinds();
        promise28_theLastStep();
        promise28_fourMillionInAll();
        promise28_oneMoreThanFourMillion();
        promise28_severalFaultsTheLeast();
        promise28_refusedStepsAreNotAskedFor();
        promise28_anotherSearchBegins();
        promise28_noChangeUnlessOneIsFound();
    }

    private static void searchesThatGoOn() {
        promise29_noSearch();
        promise29_itEnded();
        promise29_otherSteps();
        promise29_moreThanFourMillion();
        promise29_severalFaultsTheLeast();
        promise29_noSteps();
        promise29_behindTheOneFound();
        promise29_theLatestSearch();
        promise29_undoLeavesTheSearch();
    }

    private static int gray(int i) {
        return i ^ (i >> 1);
    }

    private static void grayWords(int n, int r, int first) {
        WheelDisc x = new WheelDisc();
        String what = "26 gray " + n + " " + r + ": ";
        Due.yes(x, what + "made", x.gray(n, r));
        Due.answer(x, what + "sectors", x.count(0), n);
        Due.answer(x, what + "tracks", x.count(1), r);
        Due.answer(x, what + "readers", x.count(2), r);
        Due.answer(x, what + "a step disc", x.count(3), 2);
        Due.answer(x, what + "one change", x.count(4), 1);
        Due.answer(x, what + "word 0", x.word(0), gray(first));
        Due.answer(x, what + "word 1", x.word(1), gray(first + 1));
        Due.answer(x, what + "the middle word", x.word(n / 2), gray(first + n / 2));
        Due.answer(x, what + "the last word", x.word(n - 1), gray(first + n - 1));
    }

    private static void promise26_leastAndMostSectors() {
        grayWords(4, 2, 0);
        grayWords(512, 9, 0);
        grayWords(512, 10, 0);
    }

    private static void promise26_leastAndMostReaders() {
        grayWords(4, 10, 0);
        grayWords(6, 10, 1);
    }

    private static void promise26_asManyWordsAsSectors() {
        for (int r = 2; r <= 9; r++) {
            grayWords(1 << r, r, 0);
        }
    }

    private static void promise26_fewerWordsThanSectors() {
        for (int r = 2; r <= 8; r++) {
            int bits = r;
            Refusal.truth("26 gray: " + ((1 << r) + 2) + " words of " + r, x -> x.gray((1 << bits) + 2, bits), 1);
            Refusal.truth("26 gray: 512 words of " + r, x -> x.gray(512, bits), 1);
        }
    }

    private static void promise26_oddBelow4Above512() {
        for (int n : new int[] {5, 7, 511, 3, 2, 1, 0, -1, -4, 513, 514, 1024, LEAST, MOST}) {
            Refusal.truth("26 gray: n " + n, x -> x.gray(n, 10), 1);
        }
    }

    private static void promise26_rNot2To10() {
        for (int r : new int[] {1, 0, -1, 11, 31, 32, 33, 34, 64, LEAST, MOST}) {
            Refusal.truth("26 gray: r " + r, x -> x.gray(4, r), 1);
        }
        Refusal.truth("26 gray: neither", x -> x.gray(5, 1), 1);
    }

    private static void promise26_theLeastNumberOfBits() {
        grayWords(6, 3, 1);
        grayWords(6, 9, 1);
        grayWords(8, 10, 0);
        grayWords(10, 4, 3);
        grayWords(14, 4, 1);
        grayWords(18, 5, 7);
        grayWords(258, 9, 127);
        grayWords(510, 9, 1);
    }

    private static void promise26_readerIOnTrackIAtPlace0() {
        WheelDisc x = new WheelDisc();
        x.gray(4, 10);
        for (int r = 0; r < 10; r++) {
            Due.answer(x, "26 gray: track of reader " + r, x.seen(r, 0), r);
            Due.answer(x, "26 gray: place of reader " + r, x.seen(r, 1), 0);
            Due.answer(x, "26 gray: bits that no word needs stay dark", x.seen(r, 2), r < 8 ? 0 : 2);
        }
    }

    private static void chainLights(int r, int word, String lights) {
        WheelDisc x = new WheelDisc();
        String what = "27 chain " + r + " " + word + ": ";
        Due.yes(x, what + "made", x.chain(r, word));
        Due.answer(x, what + "sectors", x.count(0), 1 << r);
        Due.answer(x, what + "tracks", x.count(1), 1);
        Due.answer(x, what + "readers", x.count(2), r);
        Due.answer(x, what + "one change", x.count(4), 1);
        for (int s = 0; s < lights.length(); s++) {
            boolean is = lights.charAt(s) == '1';
            Due.answer(x, what + "sector " + s, x.light(0, s, is), is ? 1 : 0);
        }
    }

    private static void promise27_leastAndMostBits() {
        chainLights(1, 0, "01");
        chainLights(1, 1, "10");
        chainLights(9, 0, "0000000001000000011");
        chainLights(9, 511, "111111111000000000100");
        WheelDisc x = new WheelDisc();
        x.chain(9, 300);
        Due.answer(x, "27 chain: r 9: a chain", x.count(3), 4);
        Due.answer(x, "27 chain: r 9: place of the last", x.seen(8, 1), 8);
    }

    private static void promise27_rNot1To9() {
        for (int r : new int[] {0, -1, 10, 31, 32, 33, 64, LEAST, MOST}) {
            Refusal.truth("27 chain: r " + r, x -> x.chain(r, 0), 1);
        }
        Refusal.truth("27 chain: neither", x -> x.chain(0, -1), 1);
    }

    private static void promise27_noSuchWord() {
        for (int r = 1; r <= 9; r++) {
            int bits = r;
            for (int word : new int[] {-1, 1 << r, 512, LEAST, MOST}) {
                Refusal.truth("27 chain: r " + r + ", no word " + word, x -> x.chain(bits, word), 1);
            }
        }
    }

    private static void promise27_theLeastRow() {
        chainLights(2, 0, "0011");
        chainLights(3, 0, "00010111");
        chainLights(4, 0, "0000100110101111");
        chainLights(5, 0, "00000100011001010011101011011111");
    }

    private static void promise27_stand0HasThisWord() {
        chainLights(2, 1, "0110");
        chainLights(2, 2, "1001");
        chainLights(2, 3, "1100");
        chainLights(3, 4, "10001011");
        chainLights(3, 6, "11000101");
        chainLights(3, 7, "11100010");
        for (int r = 1; r <= 9; r++) {
            for (int word : new int[] {0, (1 << r) - 1, (1 << r) - 2, 1 << (r - 1)}) {
                WheelDisc x = new WheelDisc();
                x.chain(r, word);
                Due.answer(x, "27 chain: stand 0 has this word", x.word(0), word);
                Due.answer(x, "27 chain: it alone", x.where(word), 1);
            }
        }
    }

    private static void promise27_oneBehindAnother() {
        WheelDisc x = new WheelDisc();
        x.chain(9, 511);
        x.chain(3, 0);
        Due.words(x, "27 chain: a short one behind the longest", 0, 1, 2, 5, 3, 7, 6, 4);
        x.chain(3, 2);
        Due.words(x, "27 chain: the same, turned", 2, 5, 3, 7, 6, 4, 0, 1);
    }

    private static void promise28_leastAndMostNumbers() {
        int[][] numbers = {{2, 2}, {20, 2}, {3, 3}, {18, 3}, {4, 4}, {20, 4}, {5, 5}, {20, 5}};
        for (int[] n : numbers) {
            WheelDisc x = new WheelDisc();
            Due.answer(x, "28 single " + n[0] + " " + n[1], x.single(n[0], n[1], 0), SPENT);
        }
        WheelDisc x = new WheelDisc();
        Due.answer(x, "28 single: two sectors", x.single(2, 2, 2000000), 0);
        Due.answer(x, "28 single: twenty sectors, more steps than numbers", x.single(20, 2, 1048577), 0);
    }

    private static void promise28_otherSectors() {
        for (int n : new int[] {1, 0, -1, -2, 21, 22, 24, LEAST, MOST}) {
            for (int r = 2; r <= 5; r++) {
                int readers = r;
                Refusal.number("28 single: n " + n, x -> x.single(n, readers, 1), 1);
            }
        }
    }

    private static void promise28_otherReaders() {
        for (int r : new int[] {1, 0, -1, -2, 6, 10, 12, LEAST, MOST}) {
            Refusal.number("28 single: r " + r, x -> x.single(12, r, 1), 1);
        }
        Refusal.number("28 single: r 6 of 6", x -> x.single(6, 6, 1), 1);
    }

    private static void promise28_notDivisible() {
        for (int n = 2; n <= 20; n++) {
            for (int r = 2; r <= 5; r++) {
                int sectors = n;
                int readers = r;
                if (n % r != 0) {
                    Refusal.number("28 single: " + n + " by " + r, x -> x.single(sectors, readers, 100), 1);
                }
            }
        }
    }

    private static void promise28_noStepsAndMostSteps() {
        WheelDisc x = new WheelDisc();
        Due.answer(x, "28 single: no steps", x.single(6, 3, 0), SPENT);
        Due.answer(x, "28 single: no steps: the disc stays", x.count(0), 1);
        Due.answer(x, "28 single: most steps", x.single(6, 3, 2000000), 1);
        Due.answer(x, "28 single: most steps", x.count(0), 6);
    }

    private static void promise28_otherSteps() {
        for (int steps : new int[] {-1, 2000001, 4000000, 4000001, LEAST, MOST}) {
            Refusal.number("28 single: steps " + steps, x -> x.single(6, 3, steps), 1);
        }
    }

    /** The first single of 6 and 3 is the track 000111, number 7: the eighth step. */
    private static void promise28_theStepThatFinds() {
        WheelDisc x = new WheelDisc();
        Due.answer(x, "28 single: a step too few", x.single(6, 3, 7), SPENT);
        Due.answer(x, "28 single: the disc stays", x.count(0), 1);
        Due.answer(x, "28 single: just as many", x.single(6, 3, 8), 1);
        Due.words(x, "28 single: the disc is that", 1, 3, 2, 6, 4, 5);
        Due.answer(x, "28 single: a step more", x.single(6, 3, 9), 1);
        Due.words(x, "28 single: the first one all the same", 1, 3, 2, 6, 4, 5);
        for (int r = 0; r < 3; r++) {
            Due.answer(x, "28 single: its place", x.seen(r, 1), 2 * r);
        }
        Due.answer(x, "28 single: one track", x.count(1), 1);
        Due.answer(x, "28 single: three readers", x.count(2), 3);
        Due.answer(x, "28 single: a single", x.count(3), 3);
    }

    private static void promise28_theLastStep() {
        WheelDisc x = new WheelDisc();
        Due.answer(x, "28 single: one step short of the end", x.single(2, 2, 3), SPENT);
        Due.answer(x, "28 single: to the end", x.single(2, 2, 4), 0);
        Due.answer(x, "28 single: beyond the end", x.single(2, 2, 5), 0);
        Due.answer(x, "28 single: one step short of the end", x.single(4, 2, 15), SPENT);
        Due.answer(x, "28 single: to the end", x.single(4, 2, 16), 0);
    }

    private static void allButTenSteps(WheelDisc x) {
        x.single(4, 2, 2000000);
        x.single(6, 3, 1999990);
    }

    private static void promise28_fourMillionInAll() {
        WheelDisc x = new WheelDisc();
        Due.answer(x, "28 single: two millions", x.single(4, 2, 2000000), 0);
        Due.answer(x, "28 single: four millions", x.single(6, 3, 2000000), 1);
        Due.answer(x, "28 single: no more steps are none", x.single(6, 3, 0), SPENT);
        x = new WheelDisc();
        allButTenSteps(x);
        Due.answer(x, "28 single: just the ten that are left", x.single(6, 3, 10), 1);
        Refusal.number("28 single: behind them not one", y -> {
            allButTenSteps(y);
            y.single(6, 3, 10);
        }, y -> y.single(6, 3, 1), 4);
    }

    private static void promise28_oneMoreThanFourMillion() {
        Refusal.number("28 single: eleven of ten", MadeEdgesTest::allButTenSteps, x -> x.single(8, 2, 11), 4);
        Refusal.number("28 single: most of ten", MadeEdgesTest::allButTenSteps, x -> x.single(8, 2, 2000000), 4);
        Refusal.number("28 single: steps of single() and go()", x -> {
            x.single(6, 3, 2000000);
            x.go(1999999);
        }, x -> x.single(6, 3, 2), 4);
    }

    private static void promise28_severalFaultsTheLeast() {
        Refusal.number("28 single: too many, and n", MadeEdgesTest::allButTenSteps, x -> x.single(5, 2, 11), 1);
        Refusal.number("28 single: too many, and r", MadeEdgesTest::allButTenSteps, x -> x.single(6, 6, 11), 1);
        Refusal.number("28 single: too many, and steps", MadeEdgesTest::allButTenSteps,
                x -> x.single(6, 3, 2000001), 1);
    }

    private static void promise28_refusedStepsAreNotAskedFor() {
        WheelDisc x = new WheelDisc();
        allButTenSteps(x);
        x.single(6, 3, 11);
        x.go(11);
        x.single(5, 3, 5);
        x.go(-5);
        Due.answer(x, "28 single: the ten are left", x.single(6, 3, 10), 1);
    }

    private static void promise28_anotherSearchBegins() {
        WheelDisc x = new WheelDisc();
        x.single(6, 3, 5);
        Due.answer(x, "28 single: begins at 0 again", x.single(6, 3, 7), SPENT);
        Due.answer(x, "28 single: begins at 0 again", x.go(1), 1);
        Due.answer(x, "28 single: another one", x.single(2, 2, 3), SPENT);
        Due.answer(x, "28 single: another one", x.go(1), 0);
        Due.answer(x, "28 single: begins behind an end", x.single(6, 3, 8), 1);
    }

    private static void promise28_noChangeUnlessOneIsFound() {
        WheelDisc x = Due.ring("01", 0);
        x.single(6, 3, 7);
        x.single(4, 2, 100);
        Due.answer(x, "28 single: none found is no change", x.count(4), 3);
        Due.answer(x, "28 single: the disc stays", x.count(0), 2);
        x.single(6, 3, 8);
        Due.answer(x, "28 single: one found is a change", x.count(4), 4);
        Due.answer(x, "28 single: it is undone", x.undo(), 3);
        Due.words(x, "28 single: it is undone", 0, 1);
    }

    private static void promise29_noSearch() {
        for (int steps : new int[] {0, 1, 2000000}) {
            Refusal.number("29 go: no search", x -> x.disc(6), x -> x.go(steps), 2);
        }
        Refusal.number("29 go: a refused single() is no search", x -> x.single(5, 3, 1), x -> x.go(1), 2);
    }

    private static void promise29_itEnded() {
        for (int steps : new int[] {0, 1, 2000000}) {
            Refusal.number("29 go: single() ended", x -> x.single(4, 2, 16), x -> x.go(steps), 2);
            Refusal.number("29 go: go() ended", x -> {
                x.single(6, 3, 8);
                x.go(56);
            }, x -> x.go(steps), 2);
        }
    }

    private static void promise29_otherSteps() {
        for (int steps : new int[] {-1, 2000001, LEAST, MOST}) {
            Refusal.number("29 go: steps " + steps, x -> x.go(steps), 1);
        }
    }

    private static void promise29_moreThanFourMillion() {
        Refusal.number("29 go: eleven of ten", MadeEdgesTest::allButTenSteps, x -> x.go(11), 4);
        WheelDisc x = new WheelDisc();
        allButTenSteps(x);
        Due.answer(x, "29 go: just the ten that are left", x.go(10), SPENT);
        Refusal.number("29 go: behind them not one", y -> {
            allButTenSteps(y);
            y.go(10);
        }, y -> y.go(1), 4);
    }

    private static void promise29_severalFaultsTheLeast() {
        Refusal.number("29 go: no search, and steps", y -> y.disc(6), y -> y.go(-1), 1);
        Refusal.number("29 go: no search, and steps", y -> y.disc(6), y -> y.go(2000001), 1);
        Refusal.number("29 go: it ended, and steps", y -> y.single(2, 2, 4), y -> y.go(-1), 1);
        Refusal.number("29 go: too many, and steps", MadeEdgesTest::allButTenSteps, y -> y.go(2000001), 1);
        Refusal.number("29 go: it ended, and too many", y -> {
            y.single(4, 2, 2000000);
            y.single(4, 2, 2000000);
        }, y -> y.go(1), 2);
    }

    private static void promise29_noSteps() {
        WheelDisc x = new WheelDisc();
        x.single(6, 3, 7);
        Due.answer(x, "29 go: no steps", x.go(0), SPENT);
        Due.answer(x, "29 go: no steps: the disc stays", x.count(0), 1);
        Due.answer(x, "29 go: the next step finds it", x.go(1), 1);
        x.single(6, 3, 2000000);
        x.single(6, 3, 1999000);
        x.go(984);
        x.single(6, 3, 8);
        Due.refused(x, "29 go: all steps are asked for", x.go(1), 4);
        Due.answer(x, "29 go: no steps are never too many", x.go(0), SPENT);
    }

    private static void promise29_behindTheOneFound() {
        WheelDisc x = new WheelDisc();
        x.single(6, 3, 2000000);
        Due.answer(x, "29 go: 55 of the 56 steps behind it", x.go(55), SPENT);
        Due.answer(x, "29 go: it is not found again", x.count(4), 1);
        Due.answer(x, "29 go: the last step", x.go(1), 0);
    }

    private static void promise29_theLatestSearch() {
        WheelDisc x = new WheelDisc();
        x.single(2, 2, 1);
        x.single(6, 3, 1);
        Due.answer(x, "29 go: the latest", x.go(7), 1);
        Due.answer(x, "29 go: the latest", x.count(0), 6);
    }

    private static void promise29_undoLeavesTheSearch() {
        WheelDisc x = new WheelDisc();
        x.disc(9);
        x.single(6, 3, 7);
        Due.answer(x, "29 go: one is found", x.go(1), 1);
        Due.answer(x, "29 go: a change", x.count(4), 2);
        Due.answer(x, "29 go: undone", x.undo(), 1);
        Due.answer(x, "29 go: undone", x.count(0), 9);
        Due.answer(x, "29 go: behind it", x.go(55), SPENT);
    }
}
