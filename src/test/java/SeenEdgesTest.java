/** The boundary cases that promises 13 to 25 name, a test for each sentence. */
public final class SeenEdgesTest {
    private static final int LEAST = Integer.MIN_VALUE;
    private static final int MOST = Integer.MAX_VALUE;
    private static final int NONE = WheelDisc.NONE;
    private static final int[] NO_STANDS_OF_SIX = {-1, 6, 512, LEAST, MOST};
    private static final int[] NO_READERS_OF_THREE = {-1, 3, 10, LEAST, MOST};

    public static void main(String[] args) {
        counts();
        words();
        edges();
        spares();
        forms();
        Due.end();
    }

    private static void counts() {
        promise13_anotherWhat();
        promise13_entriesWithoutARim();
        promise13_entriesOfAMissingRimAndOfAnEmptyOne();
        promise13_sectorsTracksReadersAtMost();
        promise13_kindOfOneSector();
        promise13_kindOfTwoSectors();
        promise13_kindTrueNeedsAllUnlike();
        promise13_kindStepBehindTheLastTheFirst();
        promise13_kindStepInJustOneReader();
        promise13_kindSingleWithOneTrack();
        promise13_kindChainBehindTheLastPlaceComes0();
        promise13_kindChainOneMoreThanTheOneAhead();
        promise13_kindTheFirstThatFits();
    }

    private static void words() {
        promise14_firstAndLastStand();
        promise14_noneSuch();
        promise14_withoutReaders();
        promise14_reader0sBitIsTheHighest();
        promise14_roundTheRing();
        promise15_noneSuch();
        promise15_anotherWhat();
        promise15_neverChanges();
        promise15_changesAtEachStand();
        promise15_aStretchRoundTheRing();
        promise15_oneAndTwoSectors();
        promise16_anyInt();
        promise16_withoutReaders();
        promise17_fromTheLeastOn();
        promise17_noneSuch();
    }

    private static void edges() {
        promise18_behindTheLastStand();
        promise18_noneAndAllChange();
        promise18_oneSector();
        promise18_noneSuch();
        promise19_fromTheLeastOn();
        promise19_noneSuch();
    }

    private static void spares() {
        promise20_oneSector();
        promise20_twoAlike();
        promise20_inAllReaders();
        promise21_ofKind0();
        promise21_oneSector();
        promise21_eachAlone();
        promise21_reader0sBitIsTheHighest();
        promise22_ofKind0();
        promise22_oneSector();
        promise22_fromTheLastOneToTheFirst();
    }

    private static void forms() {
        promise23_noneSuch();
        promise23_oneSector();
        promise23_anotherStandFirst();
        promise23_theOtherWay();
        promise23_readersInAnotherOrder();
        promise23_theLargest();
        promise24_inPlaceOfTheOneThatIs();
        promise24_noChange();
        promise25_noneIsKept();
        promise25_asManyReaders();
        promise25_asManySectors();
        promise25_theKeptOneStays();
    }

    private static void promise13_anotherWhat() {
        for (int what : new int[] {-1, 8, LEAST, MOST}) {
            Refusal.number("13 count: what " + what, x -> x.count(what), 1);
        }
    }

    private static void promise13_entriesWithoutARim() {
        WheelDisc x = new WheelDisc();
        x.word(-1);
        Due.answer(x, "13 count(7): no rim, not refused", x.count(7), NONE);
        x.rim(2, 3);
        x.track();
        x.word(-1);
        Due.answer(x, "13 count(7): the rim became a track, not refused", x.count(7), NONE);
    }

    private static void promise13_entriesOfAMissingRimAndOfAnEmptyOne() {
        WheelDisc x = new WheelDisc();
        x.rim(3, 9);
        Due.answer(x, "13 count(7): a missing rim", x.count(7), 0);
        x.rim(0, 0);
        Due.answer(x, "13 count(7): a rim of no entries", x.count(7), 0);
        x.rim(0, 64);
        Due.answer(x, "13 count(7): a rim of most entries", x.count(7), 64);
    }

    private static void promise13_sectorsTracksReadersAtMost() {
        WheelDisc x = new WheelDisc();
        x.gray(512, 10);
        Due.answer(x, "13 count(0): most sectors", x.count(0), 512);
        Due.answer(x, "13 count(1): most tracks", x.count(1), 10);
        Due.answer(x, "13 count(2): most readers", x.count(2), 10);
        Due.answer(x, "13 count(3): the largest disc", x.count(3), 2);
    }

    private static void kind(String what, WheelDisc x, int want) {
        Due.answer(x, "13 kind: " + what, x.count(3), want);
    }

    private static void promise13_kindOfOneSector() {
        kind("one sector, no tracks: true", new WheelDisc(), 1);
        kind("one sector, two tracks: true, no step", Due.disc("1", "0"), 1);
        kind("one sector, one track, no readers: a chain", Due.ring("1"), 4);
        kind("one sector, one track, one reader: a chain", Due.ring("0", 0), 4);
        kind("one sector, behind place 0 comes 0: a chain", Due.ring("1", 0, 0), 4);
    }

    private static void promise13_kindOfTwoSectors() {
        kind("two sectors, two tracks, unlike in two: true", Due.disc("01", "10"), 1);
        WheelDisc x = new WheelDisc();
        x.disc(2);
        kind("two sectors, no readers: two like words", x, 0);
        kind("two sectors, one reader: a single", Due.ring("01", 0), 3);
        kind("two sectors, one reader that sees no light: a disc", Due.ring("00", 0), 0);
        kind("two sectors, unlike in two of two: a chain", Due.ring("01", 0, 1), 4);
        kind("two sectors, unlike in one of two: a step disc", Due.disc("01", "11"), 2);
    }

    private static void promise13_kindTrueNeedsAllUnlike() {
        kind("the first and the last word alike", Due.disc("0110", "0010", "0000"), 0);
        kind("two words beside one another alike", Due.disc("0011", "0001"), 0);
        kind("all unlike", Due.disc("0011", "0101"), 1);
        WheelDisc x = new WheelDisc();
        x.gray(512, 9);
        x.light(8, 511, true);
        kind("of 512 words the last two alike", x, 0);
    }

    private static void promise13_kindStepBehindTheLastTheFirst() {
        kind("all steps but the one behind the last", Due.disc("0001", "0011", "0111"), 1);
        kind("that one, too", Due.disc("000111", "001110", "011100"), 2);
    }

    private static void promise13_kindStepInJustOneReader() {
        kind("a step in two readers", Due.disc("0011", "0101"), 1);
        kind("a reader twice: each step in two", Due.disc("01", "01"), 1);
    }

    private static void promise13_kindSingleWithOneTrack() {
        WheelDisc x = Due.ring("0011", 0, 1);
        kind("one track", x, 3);
        x.rim(3, 0);
        x.track();
        kind("a further track that none reads: no single", x, 2);
        x.undo();
        kind("without it", x, 3);
    }

    private static void promise13_kindChainBehindTheLastPlaceComes0() {
        kind("places 0 1 2", Due.ring("00010111", 0, 1, 2), 4);
        kind("places 5 6 7", Due.ring("00010111", 5, 6, 7), 4);
        kind("places 6 7 0", Due.ring("00010111", 6, 7, 0), 4);
        kind("places 7 0 1", Due.ring("00010111", 7, 0, 1), 4);
    }

    private static void promise13_kindChainOneMoreThanTheOneAhead() {
        kind("places 2 1 0", Due.ring("00010111", 2, 1, 0), 1);
        kind("places 0 1 2 4", Due.ring("00010111", 0, 1, 2, 4), 1);
        kind("places 0 1 2 2", Due.ring("00010111", 0, 1, 2, 2), 1);
        kind("places 0 0 1 2", Due.ring("00010111", 0, 0, 1, 2), 1);
        WheelDisc x = new WheelDisc();
        x.chain(9, 0);
        x.reader(0, 9);
        kind("ten readers that follow one another", x, 4);
        x.lift(9);
        x.reader(0, 10);
        kind("the last of ten one too far", x, 1);
        x = Due.ring("00010111", 0, 1, 2);
        x.rim(3, 0);
        x.track();
        kind("a further track: no chain", x, 1);
    }

    private static void promise13_kindTheFirstThatFits() {
        kind("a single that is a chain: 3", Due.ring("0011", 0, 1), 3);
        kind("a single that is a chain, one reader: 3", Due.ring("10", 1), 3);
        kind("a single whose places don't follow: 3", Due.ring("000111", 0, 2, 4), 3);
    }

    private static void promise14_firstAndLastStand() {
        WheelDisc x = new WheelDisc();
        x.gray(512, 10);
        Due.answer(x, "14 word: the first", x.word(0), 0);
        Due.answer(x, "14 word: the last", x.word(511), 256);
    }

    private static void promise14_noneSuch() {
        for (int stand : NO_STANDS_OF_SIX) {
            Refusal.number("14 word: no stand " + stand, x -> x.word(stand), 1);
        }
    }

    private static void promise14_withoutReaders() {
        WheelDisc x = Due.ring("111");
        Due.words(x, "14 word: no readers, all light", 0, 0, 0);
    }

    private static void promise14_reader0sBitIsTheHighest() {
        for (int readers = 1; readers <= 10; readers++) {
            WheelDisc x = new WheelDisc();
            x.disc(2);
            Due.track(x, "10");
            for (int r = 0; r < readers; r++) {
                x.reader(0, r == 0 ? 0 : 1);
            }
            Due.words(x, "14 word: " + readers + " readers", 1 << (readers - 1), (1 << (readers - 1)) - 1);
        }
    }

    private static void promise14_roundTheRing() {
        WheelDisc x = Due.ring("10010", 0, 1, 4);
        Due.words(x, "14 word: (s + place) % n", 0b100, 0b001, 0b010, 0b100, 0b011);
        x = new WheelDisc();
        x.disc(512);
        Due.track(x, "1");
        x.reader(0, 511);
        Due.answer(x, "14 word: 0 + 511", x.word(0), 0);
        Due.answer(x, "14 word: 1 + 511 is 0 again", x.word(1), 1);
        Due.answer(x, "14 word: 511 + 511", x.word(511), 0);
    }

    private static void promise15_noneSuch() {
        for (int reader : NO_READERS_OF_THREE) {
            for (int what = 0; what < 4; what++) {
                int of = what;
                Refusal.number("15 seen: no reader " + reader, x -> x.seen(reader, of), 1);
            }
        }
        Refusal.number("15 seen: no readers at all", x -> Due.ring(x, "01"), x -> x.seen(0, 0), 1);
    }

    private static void promise15_anotherWhat() {
        for (int what : new int[] {-1, 4, LEAST, MOST}) {
            Refusal.number("15 seen: what " + what, x -> x.seen(0, what), 1);
            Refusal.number("15 seen: what " + what + " and no reader", x -> x.seen(3, what), 1);
        }
    }

    private static void seen(String what, String lights, int place, int changes, int stretch) {
        WheelDisc x = Due.ring(lights, place);
        Due.answer(x, "15 seen: " + what + ": track", x.seen(0, 0), 0);
        Due.answer(x, "15 seen: " + what + ": place", x.seen(0, 1), place);
        Due.answer(x, "15 seen: " + what + ": changes", x.seen(0, 2), changes);
        Due.answer(x, "15 seen: " + what + ": shortest stretch", x.seen(0, 3), stretch);
    }

    private static void promise15_neverChanges() {
        seen("all dark", "00000", 2, 0, 5);
        seen("all light", "11111", 4, 0, 5);
        seen("all dark, most sectors", "0".repeat(512), 511, 0, 512);
        seen("all light, most sectors", "1".repeat(512), 0, 0, 512);
    }

    private static void promise15_changesAtEachStand() {
        seen("each unlike the one ahead", "0101", 1, 4, 1);
        seen("each unlike the one ahead, most sectors", "01".repeat(256), 0, 512, 1);
        seen("one light of most sectors", "0".repeat(511) + "1", 0, 2, 1);
        seen("one dark of most sectors", "0" + "1".repeat(511), 3, 2, 1);
        seen("half and half of most sectors", "0".repeat(256) + "1".repeat(256), 100, 2, 256);
    }

    private static void promise15_aStretchRoundTheRing() {
        seen("round the ring the longer one", "1100011", 0, 2, 3);
        seen("round the ring the shorter one", "1000001", 0, 2, 2);
        seen("round the ring the shorter one of four", "1000110001", 0, 4, 2);
        seen("the first and the last unlike, the last the shortest", "0011001", 0, 4, 1);
        seen("the first and the last unlike, the first the shortest", "0110011", 0, 4, 1);
    }

    private static void promise15_oneAndTwoSectors() {
        seen("one sector, light", "1", 0, 0, 1);
        seen("one sector, dark", "0", 0, 0, 1);
        seen("two sectors, unlike", "10", 1, 2, 1);
        seen("two sectors, alike", "11", 1, 0, 2);
    }

    private static void promise16_anyInt() {
        WheelDisc x = Due.ring("111", 0, 0, 0, 0, 0, 0, 0, 0, 0, 0);
        Due.answer(x, "16 where: the largest word", x.where(1023), 3);
        for (int word : new int[] {0, 1022, 1024, 2047, 1023 | LEAST, -1, LEAST, MOST}) {
            Due.answer(x, "16 where: " + word, x.where(word), 0);
        }
    }

    private static void promise16_withoutReaders() {
        WheelDisc x = new WheelDisc();
        Due.answer(x, "16 where: one sector, no readers", x.where(0), 1);
        x.disc(512);
        Due.answer(x, "16 where: most sectors, no readers", x.where(0), 512);
        Due.answer(x, "16 where: no such word", x.where(1), 0);
        Due.answer(x, "16 where: no such word", x.where(-1), 0);
    }

    private static void promise17_fromTheLeastOn() {
        WheelDisc x = Due.disc("10110001");
        int[] stands = {0, 2, 3, 7};
        for (int i = 0; i < 4; i++) {
            Due.answer(x, "17 at: the stands from the least on", x.at(1, i), stands[i]);
        }
        x.disc(512);
        Due.answer(x, "17 at: the first of most", x.at(0, 0), 0);
        Due.answer(x, "17 at: the last of most", x.at(0, 511), 511);
        Due.refused(x, "17 at: none behind the last of most", x.at(0, 512), 1);
    }

    private static void promise17_noneSuch() {
        for (int i : new int[] {-1, 1, 512, LEAST, MOST}) {
            Refusal.number("17 at: the only stand with 1 is no " + i, x -> x.at(1, i), 1);
        }
        for (int word : new int[] {0, 7, 8, -1, LEAST, MOST}) {
            Refusal.number("17 at: no stand with " + word, x -> x.at(word, 0), 1);
            Refusal.number("17 at: no stand with " + word, x -> x.at(word, -1), 1);
        }
    }

    private static void promise18_behindTheLastStand() {
        WheelDisc x = Due.disc("0111", "0000");
        Due.answer(x, "18 edge: behind the last the first", x.edge(3), 2);
        Due.answer(x, "18 edge: behind the first", x.edge(0), 2);
        Due.answer(x, "18 edge: where none changes", x.edge(2), 1);
        Due.answer(x, "19 way: behind the last the first", x.way(3, 0), 0);
        Due.answer(x, "19 way: behind the last the first", x.way(3, 1), 2);
    }

    private static void promise18_noneAndAllChange() {
        WheelDisc x = Due.ring("0011", 0, 0, 0, 0, 0, 0, 0, 0, 0, 0);
        int[] words = {1, 1024, 1, 1024};
        for (int s = 0; s < 4; s++) {
            Due.answer(x, "18 edge: ten readers at once, or none", x.edge(s), words[s]);
        }
        x = new WheelDisc();
        x.disc(3);
        Due.answer(x, "18 edge: no readers", x.edge(2), 1);
        Due.answer(x, "19 way: no readers", x.way(2, 0), 0);
    }

    private static void promise18_oneSector() {
        WheelDisc x = Due.ring("1", 0, 0);
        Due.answer(x, "18 edge: one sector is its own next one", x.edge(0), 1);
        Due.answer(x, "19 way: one sector", x.way(0, 0), 3);
        Due.refused(x, "19 way: one sector, no further", x.way(0, 1), 1);
    }

    private static void promise18_noneSuch() {
        for (int stand : NO_STANDS_OF_SIX) {
            Refusal.number("18 edge: no stand " + stand, x -> x.edge(stand), 1);
        }
    }

    private static void promise19_fromTheLeastOn() {
        WheelDisc x = Due.disc("01", "11", "10", "00");
        int[] ways = {4, 6, 12, 14};
        for (int s = 0; s < 2; s++) {
            Due.answer(x, "19 way: how many", x.edge(s), 4);
            for (int i = 0; i < 4; i++) {
                Due.answer(x, "19 way: from the least on", x.way(s, i), ways[i]);
            }
        }
        x = Due.ring("01", 0, 0, 0, 0, 0, 0, 0, 0, 0, 0);
        for (int i : new int[] {0, 1, 511, 512, 1022, 1023}) {
            Due.answer(x, "19 way: of ten readers", x.way(1, i), i);
        }
        Due.refused(x, "19 way: none behind the last", x.way(1, 1024), 1);
    }

    private static void promise19_noneSuch() {
        for (int i : new int[] {-1, 2, 1024, LEAST, MOST}) {
            Refusal.number("19 way: no word " + i, x -> x.way(0, i), 1);
            Refusal.number("19 way: no word " + i + " behind the last", x -> x.way(5, i), 1);
        }
        for (int stand : NO_STANDS_OF_SIX) {
            Refusal.number("19 way: no stand " + stand, x -> x.way(stand, 0), 1);
            Refusal.number("19 way: no stand " + stand + ", no word", x -> x.way(stand, -1), 1);
        }
    }

    private static void promise20_oneSector() {
        WheelDisc x = new WheelDisc();
        x.word(-1);
        Due.answer(x, "20 fewest: one sector, not refused", x.fewest(), NONE);
        x = Due.ring("1", 0, 0, 0);
        x.word(-1);
        Due.answer(x, "20 fewest: one sector with readers, not refused", x.fewest(), NONE);
    }

    private static void promise20_twoAlike() {
        WheelDisc x = new WheelDisc();
        x.disc(2);
        Due.answer(x, "20 fewest: no readers", x.fewest(), 0);
        x = Due.disc("0110", "0010", "0100", "1111");
        Due.answer(x, "20 fewest: the first and the last alike", x.fewest(), 0);
        x.gray(512, 9);
        x.light(8, 511, true);
        Due.answer(x, "20 fewest: of 512 words the last two alike", x.fewest(), 0);
    }

    private static void promise20_inAllReaders() {
        for (int readers = 1; readers <= 10; readers++) {
            WheelDisc x = new WheelDisc();
            x.disc(2);
            Due.track(x, "01");
            for (int r = 0; r < readers; r++) {
                x.reader(0, r % 2);
            }
            Due.answer(x, "20 fewest: two sectors, unlike in all " + readers, x.fewest(), readers);
        }
        WheelDisc x = Due.disc("011", "011", "011", "011", "011", "001", "001", "001", "001", "001");
        Due.answer(x, "20 fewest: three words of ten readers", x.fewest(), 5);
        x.lift(9);
        Due.answer(x, "20 fewest: the least of all pairs", x.fewest(), 4);
        x = Due.disc("0101", "0101", "0110");
        Due.answer(x, "20 fewest: two stands that are no neighbours", x.fewest(), 1);
    }

    private static void promise21_ofKind0() {
        WheelDisc x = Due.disc("0110", "0000", "1111");
        Due.answer(x, "21 blind: kind", x.count(3), 0);
        Due.answer(x, "21 blind: of kind 0", x.blind(), 0);
        x = new WheelDisc();
        x.disc(2);
        Due.answer(x, "21 blind: of kind 0 without readers", x.blind(), 0);
    }

    private static void promise21_oneSector() {
        Due.is("21 blind: a new one", new WheelDisc().blind(), 0);
        Due.is("21 blind: one sector, one reader", Due.ring("1", 0).blind(), 1);
        Due.is("21 blind: one sector, ten", Due.ring("1", 0, 0, 0, 0, 0, 0, 0, 0, 0, 0).blind(), 1023);
    }

    private static void promise21_eachAlone() {
        Due.is("21 blind: the only reader is needed", Due.ring("01", 0).blind(), 0);
        Due.is("21 blind: each of ten alone", Due.ring("01", 0, 0, 0, 0, 0, 0, 0, 0, 0, 0).blind(), 1023);
        Due.is("21 blind: all are needed", Due.disc("0011", "0101").blind(), 0);
    }

    private static void promise21_reader0sBitIsTheHighest() {
        Due.is("21 blind: reader 0 of three", Due.disc("0000", "0011", "0101").blind(), 4);
        Due.is("21 blind: reader 1 of three", Due.disc("0011", "1111", "0101").blind(), 2);
        Due.is("21 blind: reader 2 of three", Due.disc("0011", "0101", "0000").blind(), 1);
        WheelDisc x = new WheelDisc();
        x.gray(512, 10);
        Due.answer(x, "21 blind: reader 0 of ten", x.blind(), 512);
        Due.answer(x, "22 spare: reader 0 of ten", x.spare(), 512);
    }

    private static void promise22_ofKind0() {
        Due.is("22 spare: of kind 0", Due.disc("0110", "0000", "1111").spare(), 0);
        WheelDisc x = new WheelDisc();
        x.disc(2);
        Due.answer(x, "22 spare: of kind 0 without readers", x.spare(), 0);
    }

    private static void promise22_oneSector() {
        Due.is("22 spare: a new one", new WheelDisc().spare(), 0);
        Due.is("22 spare: one sector, all", Due.ring("1", 0, 0, 0, 0, 0, 0, 0, 0, 0, 0).spare(), 1023);
    }

    private static void promise22_fromTheLastOneToTheFirst() {
        Due.is("22 spare: of ten alike all but the first", Due.ring("01", 0, 0, 0, 0, 0, 0, 0, 0, 0, 0).spare(), 511);
        Due.is("22 spare: of two alike the last", Due.disc("0011", "0011", "0101").spare(), 2);
        Due.is("22 spare: with those left out already", Due.disc("0011", "0101", "0110").spare(), 1);
        Due.is("22 spare: all are needed", Due.disc("0011", "0101").spare(), 0);
        Due.is("22 spare: the first alone", Due.disc("0110", "0011", "0101").spare(), 1);
        Due.is("22 spare: reader 0", Due.disc("0000", "0011", "0101").spare(), 4);
    }

    private static void promise23_noneSuch() {
        for (int i : NO_STANDS_OF_SIX) {
            Refusal.number("23 form: no word " + i, x -> x.form(i), 1);
        }
    }

    private static void promise23_oneSector() {
        Due.form(new WheelDisc(), "23 form: a new one", 0);
        Due.form(Due.disc("1", "0", "1", "0", "0"), "23 form: one sector, the lights last", 3);
        Due.form(Due.disc("1", "1", "1", "1", "1", "1", "1", "1", "1", "1"), "23 form: one sector, ten lights", 1023);
        WheelDisc x = new WheelDisc();
        x.disc(3);
        Due.form(x, "23 form: no readers", 0, 0, 0);
    }

    private static void promise23_anotherStandFirst() {
        for (int turn = 0; turn < 5; turn++) {
            WheelDisc x = Due.disc("00010");
            x.turn(turn);
            Due.form(x, "23 form: turned by " + turn, 0, 0, 0, 0, 1);
        }
        Due.form(Due.disc("10"), "23 form: two sectors", 0, 1);
    }

    private static void promise23_theOtherWay() {
        Due.form(Due.disc("001011"), "23 form: as it is", 0, 0, 1, 0, 1, 1);
        Due.form(Due.disc("110100"), "23 form: the other way", 0, 0, 1, 0, 1, 1);
        Due.form(Due.disc("101100"), "23 form: the other way, another stand first", 0, 0, 1, 0, 1, 1);
    }

    private static void promise23_readersInAnotherOrder() {
        Due.form(Due.disc("10", "01"), "23 form: two readers", 1, 2);
        Due.form(Due.disc("0100", "0010", "0001"), "23 form: three readers", 0, 1, 2, 4);
        Due.form(Due.disc("0110", "0100"), "23 form: the first word that is not alike", 0, 0, 1, 3);
        Due.form(Due.disc("11", "00", "11"), "23 form: like readers", 3, 3);
    }

    private static void promise23_theLargest() {
        WheelDisc x = new WheelDisc();
        x.disc(512);
        Due.track(x, "1");
        for (int r = 0; r < 10; r++) {
            x.reader(0, r);
        }
        Due.answer(x, "23 form: 512 sectors, the first", x.form(0), 0);
        Due.answer(x, "23 form: 512 sectors, the last dark", x.form(501), 0);
        for (int i = 0; i < 10; i++) {
            Due.answer(x, "23 form: 512 sectors, light " + i, x.form(502 + i), 1 << i);
        }
        Due.refused(x, "23 form: 512 sectors, no further", x.form(512), 1);
    }

    private static void promise24_inPlaceOfTheOneThatIs() {
        WheelDisc x = Due.disc("0001");
        Due.yes(x, "24 keep", x.keep());
        x.light(0, 0, true);
        Due.yes(x, "24 keep: in place of it", x.keep());
        Due.yes(x, "24 keep: the latest", x.same());
        x.undo();
        Due.no(x, "24 keep: the one ahead is kept no more", x.same());
    }

    private static void promise24_noChange() {
        WheelDisc x = new WheelDisc();
        Due.yes(x, "24 keep: a new one", x.keep());
        Due.yes(x, "24 keep: a new one is like itself", x.same());
        Due.answer(x, "24 keep: no change", x.count(4), 0);
        x.gray(512, 10);
        Due.yes(x, "24 keep: the largest", x.keep());
        Due.answer(x, "24 keep: no change", x.count(4), 1);
        x.turn(200);
        x.mirror();
        x.swap(0, 9);
        Due.yes(x, "24 keep: the largest, turned, mirrored, readers exchanged", x.same());
    }

    private static void promise25_noneIsKept() {
        Refusal.truth("25 same: none is kept", x -> Due.ring(x, "01", 0), WheelDisc::same, 2);
        Refusal.truth("25 same: none is kept, a new one", x -> x.rim(0, 1), WheelDisc::same, 2);
    }

    private static void promise25_asManyReaders() {
        WheelDisc x = Due.ring("00", 0);
        x.keep();
        x.reader(0, 0);
        Due.no(x, "25 same: a reader more, words alike", x.same());
        x.lift(0);
        Due.yes(x, "25 same: as many readers", x.same());
        x.lift(0);
        Due.no(x, "25 same: a reader less, words alike", x.same());
    }

    private static void promise25_asManySectors() {
        WheelDisc x = new WheelDisc();
        x.disc(3);
        x.keep();
        x.disc(4);
        Due.no(x, "25 same: a sector more, words alike", x.same());
        x.disc(2);
        Due.no(x, "25 same: a sector less, words alike", x.same());
        x.disc(3);
        Due.yes(x, "25 same: as many sectors", x.same());
        x.rim(3, 0);
        x.track();
        Due.yes(x, "25 same: a track that none reads doesn't count", x.same());
    }

    private static void promise25_theKeptOneStays() {
        WheelDisc x = Due.disc("0011", "0001");
        x.keep();
        x.light(1, 0, true);
        Due.no(x, "25 same: another light", x.same());
        x.undo();
        Due.yes(x, "25 same: undone", x.same());
        for (int i = 0; i < 3; i++) {
            x.undo();
        }
        Due.no(x, "25 same: what is kept is not undone", x.same());
        Refusal.changesNothing("25 same: asking changes nothing", Refusal::rich, WheelDisc::same);
    }
}
