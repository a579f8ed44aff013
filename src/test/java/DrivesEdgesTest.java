/** The boundary cases that promises 30 to 35 name, a test for each sentence. */
public final class DrivesEdgesTest {
    private static final int LEAST = Integer.MIN_VALUE;
    private static final int MOST = Integer.MAX_VALUE;
    private static final int NONE = WheelDisc.NONE;
    private static final int[] NO_WORDS_OF_THREE = {-1, 3, 2000, LEAST, MOST};

    public static void main(String[] args) {
        drives();
        followed();
        mended();
        Due.end();
    }

    private static void drives() {
        promise30_anyInt();
        promise30_noChange();
        promise30_allCallsOfAnObject();
        promise30_twoThousand();
        promise31_anEmptyDrive();
        promise31_itIsEmptyThen();
    }

    private static void followed() {
        promise32_noWords();
        promise32_withoutASlip();
        promise32_theFirstWord();
        promise32_theFirstOfSeveral();
        promise32_onThisDisc();
        promise33_noneSuch();
        promise33_atTheSlipAndBehindIt();
        promise33_roundTheRing();
        promise33_besideOrTheSame();
        promise33_oneTwoAndThreeSectors();
        promise33_withoutReaders();
        promise34_theLeast();
        promise34_noneSuch();
        promise34_thereIsNone();
    }

    private static void mended() {
        promise35_withoutASlip();
        promise35_theFewestBitsOf32();
        promise35_toZeroForTheFirstWord();
        promise35_roundTheRing();
        promise35_theLeastOfTheStandsAhead();
        promise35_ofTwoAsNearTheLeast();
        promise35_oneSector();
    }

    private static void driveAll(WheelDisc x, int... words) {
        for (int word : words) {
            x.drive(word);
        }
    }

    /** The words of its stands: 1, 3, 2, 6, 7, 5. */
    private static WheelDisc graySix(int... words) {
        WheelDisc x = new WheelDisc();
        x.gray(6, 3);
        driveAll(x, words);
        return x;
    }

    private static void promise30_anyInt() {
        WheelDisc x = new WheelDisc();
        int[] words = {0, -1, 1024, LEAST, MOST};
        for (int i = 0; i < words.length; i++) {
            Due.answer(x, "30 drive " + words[i], x.drive(words[i]), i + 1);
        }
    }

    private static void promise30_noChange() {
        WheelDisc x = graySix(1, 3);
        Due.answer(x, "30 drive: no change of the disc", x.count(4), 1);
        x.disc(3);
        Due.answer(x, "30 drive: a new disc leaves it", x.count(5), 2);
        x.undo();
        Due.answer(x, "30 drive: an undo leaves it", x.count(5), 2);
    }

    private static void promise30_allCallsOfAnObject() {
        WheelDisc x = new WheelDisc();
        for (int i = 1; i < 512; i++) {
            Due.is("30 drive: word " + i, x.drive(0), i);
        }
        Due.is("30 drive: followed by an object's last call", x.stands(510), 1);
    }

    private static void drive2000(WheelDisc x) {
        for (int i = 0; i < 2000; i++) {
            x.drive(0);
        }
    }

    /** More calls than an object is promised for, and yet the only way there. */
    private static void promise30_twoThousand() {
        Refusal.number("30 drive: one more than 2000", DrivesEdgesTest::drive2000, y -> y.drive(1), 4);
        WheelDisc x = new WheelDisc();
        for (int i = 1; i < 2000; i++) {
            x.drive(0);
        }
        Due.answer(x, "30 drive: the two thousandth", x.drive(1), 2000);
        Due.refused(x, "30 drive: one more", x.drive(1), 4);
        Due.answer(x, "30 drive: one more is not taken", x.count(5), 2000);
        Due.answer(x, "30 drive: one more is not taken", x.slip(), 1999);
        Due.answer(x, "31 halt: of two thousand", x.halt(), 2000);
        Due.answer(x, "30 drive: room again", x.drive(0), 1);
    }

    private static void promise31_anEmptyDrive() {
        WheelDisc x = new WheelDisc();
        Due.answer(x, "31 halt: of no words", x.halt(), 0);
        Due.answer(x, "31 halt: again", x.halt(), 0);
    }

    private static void promise31_itIsEmptyThen() {
        WheelDisc x = graySix(1, 9, 1);
        Due.answer(x, "31 halt: ahead of it a slip", x.slip(), 1);
        Due.answer(x, "31 halt: of three", x.halt(), 3);
        Due.answer(x, "31 halt: no words", x.count(5), 0);
        Due.answer(x, "31 halt: no slip", x.slip(), NONE);
        Due.answer(x, "31 halt: nothing to mend", x.mend(), NONE);
        Due.refused(x, "31 halt: no word", x.stands(0), 1);
        Due.refused(x, "31 halt: no word", x.stand(0), 1);
        driveAll(x, 7, 5);
        Due.answer(x, "31 halt: a drive anew", x.count(5), 2);
        Due.answer(x, "31 halt: a drive anew", x.slip(), NONE);
        Due.answer(x, "31 halt: a drive anew", x.stand(1), 5);
    }

    private static void promise32_noWords() {
        WheelDisc x = new WheelDisc();
        x.word(-1);
        Due.answer(x, "32 slip: no words, not refused", x.slip(), NONE);
    }

    private static void promise32_withoutASlip() {
        WheelDisc x = graySix(1, 3, 2, 6, 7, 5, 1);
        x.word(-1);
        Due.answer(x, "32 slip: once round the ring, not refused", x.slip(), NONE);
    }

    private static void promise32_theFirstWord() {
        for (int word : new int[] {0, 4, 8, 9, -1, LEAST, MOST}) {
            Due.is("32 slip: the first word " + word, graySix(word).slip(), 0);
        }
        Due.is("32 slip: a new one has the word 0", new WheelDisc().slip(), NONE);
    }

    private static void promise32_theFirstOfSeveral() {
        WheelDisc x = graySix(1, 3, 6, 6, 3, 0, 1);
        Due.answer(x, "32 slip: two stands on", x.slip(), 2);
        Due.is("32 slip: the last word", graySix(1, 3, 2, 7).slip(), 3);
        Due.is("32 slip: back two stands round the ring", graySix(1, 7).slip(), 1);
    }

    private static void promise32_onThisDisc() {
        WheelDisc x = graySix(1, 3, 2);
        Due.answer(x, "32 slip: on gray 6", x.slip(), NONE);
        x.light(0, 1, true);
        Due.answer(x, "32 slip: behind a light", x.slip(), 1);
        x.undo();
        Due.answer(x, "32 slip: behind an undo", x.slip(), NONE);
        x.lift(2);
        Due.answer(x, "32 slip: behind a lift", x.slip(), 2);
        x.disc(5);
        Due.answer(x, "32 slip: behind a new disc", x.slip(), 0);
        x.single(6, 3, 8);
        Due.answer(x, "32 slip: behind a single that is found", x.slip(), NONE);
    }

    private static void promise33_noneSuch() {
        for (int i : NO_WORDS_OF_THREE) {
            Refusal.number("33 stands: no word " + i, x -> x.stands(i), 1);
        }
        Refusal.number("33 stands: an empty drive", x -> x.gray(6, 3), x -> x.stands(0), 1);
    }

    private static void promise33_atTheSlipAndBehindIt() {
        WheelDisc x = graySix(1, 3, 9, 3, 1);
        int[] stands = {1, 1, 0, 0, 0};
        for (int i = 0; i < 5; i++) {
            Due.answer(x, "33 stands: of word " + i + ", not refused", x.stands(i), stands[i]);
        }
    }

    private static void promise33_roundTheRing() {
        WheelDisc x = graySix(5, 1, 5);
        Due.answer(x, "33 stands: from the last to the first", x.stands(1), 1);
        Due.answer(x, "34 stand: from the last to the first", x.stand(1), 0);
        Due.answer(x, "33 stands: from the first to the last", x.stands(2), 1);
        Due.answer(x, "34 stand: from the first to the last", x.stand(2), 5);
        x = Due.disc("0".repeat(511) + "1");
        driveAll(x, 1, 0, 1);
        Due.answer(x, "33 stands: most sectors, beside the last", x.stands(1), 2);
        Due.answer(x, "34 stand: most sectors, beside the last", x.stand(1), 0);
        Due.answer(x, "34 stand: most sectors, the last", x.stand(2), 511);
    }

    private static void promise33_besideOrTheSame() {
        WheelDisc x = Due.disc("0010000");
        driveAll(x, 1, 0, 0, 0, 0, 1, 1);
        int[] stands = {1, 2, 4, 6, 6, 1, 1};
        int[] leasts = {2, 1, 0, 0, 0, 2, 2};
        for (int i = 0; i < 7; i++) {
            Due.answer(x, "33 stands: one of those so far, or beside one: " + i, x.stands(i), stands[i]);
            Due.answer(x, "34 stand: one of those so far, or beside one: " + i, x.stand(i), leasts[i]);
        }
    }

    private static void promise33_oneTwoAndThreeSectors() {
        WheelDisc x = Due.ring("1", 0);
        driveAll(x, 1, 1, 0);
        Due.answer(x, "33 stands: one sector is beside itself", x.stands(1), 1);
        Due.answer(x, "33 stands: one sector, another word", x.stands(2), 0);
        x = Due.ring("01", 0);
        driveAll(x, 0, 1, 0);
        Due.answer(x, "33 stands: two sectors", x.stands(2), 1);
        x = Due.ring("001", 0);
        driveAll(x, 0, 1, 0);
        Due.answer(x, "33 stands: three sectors, the first word", x.stands(0), 2);
        Due.answer(x, "33 stands: three sectors, all beside one another", x.stands(2), 2);
        Due.answer(x, "34 stand: three sectors, all beside one another", x.stand(2), 0);
    }

    private static void promise33_withoutReaders() {
        WheelDisc x = new WheelDisc();
        x.disc(512);
        driveAll(x, 0, 0, 1);
        Due.answer(x, "33 stands: no readers, all", x.stands(0), 512);
        Due.answer(x, "33 stands: no readers, all", x.stands(1), 512);
        Due.answer(x, "33 stands: no readers, another word", x.stands(2), 0);
    }

    private static void promise34_theLeast() {
        WheelDisc x = Due.disc("0110011");
        driveAll(x, 1, 1, 0, 1);
        int[] leasts = {1, 1, 0, 1};
        for (int i = 0; i < 4; i++) {
            Due.answer(x, "34 stand: the least behind word " + i, x.stand(i), leasts[i]);
        }
    }

    private static void promise34_noneSuch() {
        for (int i : NO_WORDS_OF_THREE) {
            Refusal.number("34 stand: no word " + i, x -> x.stand(i), 1);
        }
        Refusal.number("34 stand: an empty drive", x -> x.gray(6, 3), x -> x.stand(0), 1);
    }

    private static void promise34_thereIsNone() {
        Refusal.number("34 stand: at the slip", x -> x.stand(2), 1);
        Refusal.number("34 stand: behind the slip", x -> {
            x.gray(6, 3);
            driveAll(x, 1, 9, 1);
        }, x -> x.stand(2), 1);
        Refusal.number("34 stand: the first word slips", x -> {
            x.gray(6, 3);
            driveAll(x, 0, 1);
        }, x -> x.stand(0), 1);
    }

    private static void promise35_withoutASlip() {
        WheelDisc x = new WheelDisc();
        x.word(-1);
        Due.answer(x, "35 mend: no words, not refused", x.mend(), NONE);
        x = graySix(1, 3);
        x.word(-1);
        Due.answer(x, "35 mend: no slip, not refused", x.mend(), NONE);
        Refusal.changesNothing("35 mend: asking changes nothing", Refusal::rich, WheelDisc::mend);
    }

    private static void promise35_theFewestBitsOf32() {
        Due.is("35 mend: -1, the word with most lights", graySix(-1).mend(), 4);
        Due.is("35 mend: the smallest int, the fewest lights, nearest to 0", graySix(LEAST).mend(), 0);
        Due.is("35 mend: the largest int, the most lights", graySix(MOST).mend(), 4);
        Due.is("35 mend: the word itself, however far", graySix(1, 6).mend(), 3);
        Due.is("35 mend: bits above the readers' don't help", graySix(LEAST + 6).mend(), 3);
        Due.is("35 mend: for the slip alone", graySix(1, 6, 5).mend(), 3);
    }

    private static void promise35_toZeroForTheFirstWord() {
        WheelDisc x = Due.disc("00010000");
        x.drive(2);
        Due.answer(x, "35 mend: the first word, all dark as near: 0", x.mend(), 0);
        x.halt();
        x.drive(3);
        Due.answer(x, "35 mend: the first word, one is nearest", x.mend(), 3);
        x = new WheelDisc();
        x.disc(512);
        x.drive(7);
        Due.answer(x, "35 mend: the first word, no readers", x.mend(), 0);
    }

    private static void promise35_roundTheRing() {
        WheelDisc x = Due.disc("00100001");
        x.drive(3);
        Due.answer(x, "35 mend: the last is nearer to 0 than 2", x.mend(), 7);
        x = Due.disc("0".repeat(256) + "11" + "0".repeat(254));
        x.drive(3);
        Due.answer(x, "35 mend: of 512 stands 257 is nearer to 0 than 256", x.mend(), 257);
        x = Due.disc("0000001", "1010000");
        driveAll(x, 2, 5);
        Due.answer(x, "35 mend: 0 is nearer to 6 than 2", x.mend(), 0);
    }

    private static void promise35_theLeastOfTheStandsAhead() {
        WheelDisc x = Due.disc("0100000010", "0001000001");
        driveAll(x, 2, 5);
        Due.answer(x, "35 mend: 3 and 9 are as near to 1", x.mend(), 3);
        x = Due.disc("0010000010", "0000100001");
        driveAll(x, 2, 5);
        Due.answer(x, "35 mend: 4 is nearer to 2 than 9, though 9 is beside 8", x.mend(), 4);
        x = Due.disc("01000000", "00010000");
        driveAll(x, 2, 0, 0, 5);
        Due.answer(x, "35 mend: the word ahead stands at 0, 2, 7", x.stands(2), 3);
        Due.answer(x, "35 mend: the only one, however far", x.mend(), 3);
    }

    private static void promise35_ofTwoAsNearTheLeast() {
        WheelDisc x = Due.disc("01000001");
        x.drive(3);
        Due.answer(x, "35 mend: 1 and 7 are as near to 0", x.mend(), 1);
        x = Due.disc("0".repeat(511) + "1", "1" + "0".repeat(509) + "10");
        driveAll(x, 2, 5);
        Due.answer(x, "35 mend: 0 and 510 are as near to 511", x.mend(), 0);
        x = Due.disc("0001", "1010");
        driveAll(x, 2, 5);
        Due.answer(x, "35 mend: 0 and 2 are as near to 3", x.mend(), 0);
    }

    private static void promise35_oneSector() {
        WheelDisc x = new WheelDisc();
        x.drive(-1);
        Due.answer(x, "35 mend: one sector, no readers", x.mend(), 0);
        x = Due.ring("1", 0);
        driveAll(x, 1, 0);
        Due.answer(x, "35 mend: one sector", x.mend(), 0);
    }
}
