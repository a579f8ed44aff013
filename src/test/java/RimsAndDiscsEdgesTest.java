/** The boundary cases that promises 1 to 12 name, a test for each sentence. */
public final class RimsAndDiscsEdgesTest {
    private static final int LEAST = Integer.MIN_VALUE;
    private static final int MOST = Integer.MAX_VALUE;
    private static final int NONE = WheelDisc.NONE;

    public static void main(String[] args) {
        rims();
        discs();
        readers();
        wholeDiscs();
        Due.end();
    }

    private static void rims() {
        promise1_aDiscOfOneSectorNoTracksNoReaders();
        promise1_noRim();
        promise1_anEmptyDriveAndList();
        promise1_nothingToUndoNothingKeptNoSearch();
        promise2_noEntries();
        promise2_mostEntries();
        promise2_mAbove64();
        promise2_mBelow0();
        promise2_anotherKind();
        promise2_severalFaultsTheLeast();
        promise2_aMissingOneWhateverM();
        promise2_allEntriesAre0();
        promise2_inPlaceOfTheOneThatThereIs();
        promise3_firstAndLastEntry();
        promise3_noSuchEntry();
        promise3_noRimAskedAhead();
        promise3_aMissingRimAskedAhead();
        promise3_itsLowestBits();
        promise3_becomesV();
    }

    private static void discs() {
        promise4_leastAndMostSectors();
        promise4_anotherN();
        promise4_aNewDisc();
        promise5_noRim();
        promise5_noRimThen();
        promise5_aMissingRimIsAllDark();
        promise5_tenTracks();
        promise5_tenTracksAndNoRim();
        promise5_whatTheRimHasNotIsDark();
        promise5_lastBitOfAnEntryAndFirstOfTheNext();
        promise5_aRimLongerThanTheDisc();
        promise6_firstAndLast();
        promise6_noneSuch();
        promise6_asItWasIsAChangeToo();
    }

    private static void readers() {
        promise7_firstAndLastPlace();
        promise7_noSuchTrackOrPlace();
        promise7_tenReaders();
        promise7_severalFaultsTheLeast();
        promise7_roomAgainBehindALift();
        promise8_thoseBehindHaveNumbersOneLess();
        promise8_theirTracksGoWithThem();
        promise8_theLastThatThereIs();
        promise8_noneSuch();
        promise11_noneSuch();
        promise11_oneWithItself();
        promise11_firstAndLastOfTen();
    }

    private static void wholeDiscs() {
        promise9_anyIntRound();
        promise9_theSmallestAndLargestInt();
        promise9_oneSector();
        promise9_allTracksAreTurnedPlacesStay();
        promise10_place0Stays();
        promise10_oneAndTwoSectors();
        promise10_mostSectors();
        promise12_noChange();
        promise12_thirtyCanBeUndone();
        promise12_theThirtyFirstCannot();
        promise12_refusedCallsAreNoChanges();
        promise12_onlyThoseCallsAreChanges();
        promise12_theLatestThatIsNotUndone();
        promise12_untilNoneIsLeft();
        promise12_ofTheLargestDisc();
    }

    private static void nothing(WheelDisc x) {
    }

    private static void promise1_aDiscOfOneSectorNoTracksNoReaders() {
        WheelDisc x = new WheelDisc();
        Due.answer(x, "1 new: sectors", x.count(0), 1);
        Due.answer(x, "1 new: tracks", x.count(1), 0);
        Due.answer(x, "1 new: readers", x.count(2), 0);
        Due.answer(x, "1 new: word(0)", x.word(0), 0);
        Refusal.number("1 new: no stand 1", RimsAndDiscsEdgesTest::nothing, y -> y.word(1), 1);
        Refusal.number("1 new: no track 0", RimsAndDiscsEdgesTest::nothing, y -> y.light(0, 0, true), 1);
        Refusal.number("1 new: no track 0 to read", RimsAndDiscsEdgesTest::nothing, y -> y.reader(0, 0), 1);
        Refusal.number("1 new: no reader 0", RimsAndDiscsEdgesTest::nothing, y -> y.lift(0), 1);
    }

    private static void promise1_noRim() {
        WheelDisc x = new WheelDisc();
        Due.answer(x, "1 new: no rim", x.count(7), NONE);
        Refusal.number("1 new: no rim to become a track", RimsAndDiscsEdgesTest::nothing, WheelDisc::track, 2);
        Refusal.truth("1 new: no rim with entries", RimsAndDiscsEdgesTest::nothing, y -> y.entry(0, 1), 2);
    }

    private static void promise1_anEmptyDriveAndList() {
        WheelDisc x = new WheelDisc();
        Due.answer(x, "1 new: words of the drive", x.count(5), 0);
        Due.answer(x, "1 new: words of the list", x.count(6), 0);
        Due.answer(x, "1 new: halt()", x.halt(), 0);
        Due.answer(x, "1 new: clear()", x.clear(), 0);
        Refusal.number("1 new: no word of the drive", RimsAndDiscsEdgesTest::nothing, y -> y.stands(0), 1);
        Refusal.truth("1 new: no word of the list", RimsAndDiscsEdgesTest::nothing, y -> y.forge(0, 0), 1);
    }

    private static void promise1_nothingToUndoNothingKeptNoSearch() {
        WheelDisc x = new WheelDisc();
        Due.is("1 new: fault()", x.fault(), 0);
        Due.answer(x, "1 new: changes", x.count(4), 0);
        Refusal.number("1 new: no change", RimsAndDiscsEdgesTest::nothing, WheelDisc::undo, 2);
        Refusal.truth("1 new: nothing kept", RimsAndDiscsEdgesTest::nothing, WheelDisc::same, 2);
        Refusal.number("1 new: no search", RimsAndDiscsEdgesTest::nothing, y -> y.go(0), 2);
    }

    private static void promise2_noEntries() {
        for (int kind = 0; kind < 3; kind++) {
            int of = kind;
            WheelDisc x = new WheelDisc();
            Due.answer(x, "2 rim of no entries", x.rim(kind, 0), 0);
            Due.answer(x, "2 rim of no entries: it is there", x.count(7), 0);
            Refusal.truth("2 rim of no entries: none to set", y -> y.rim(of, 0), y -> y.entry(0, 1), 1);
            Due.answer(x, "2 rim of no entries: a track", x.track(), 0);
            Due.answer(x, "2 rim of no entries: dark", x.light(0, 0, false), 0);
        }
    }

    private static void promise2_mostEntries() {
        for (int kind = 0; kind < 3; kind++) {
            int of = kind;
            WheelDisc x = new WheelDisc();
            Due.answer(x, "2 rim of 64 entries", x.rim(kind, 64), 64);
            Due.answer(x, "2 rim of 64 entries: count", x.count(7), 64);
            Due.yes(x, "2 rim of 64 entries: the last", x.entry(63, 1));
            Refusal.truth("2 rim of 64 entries: no further", y -> y.rim(of, 64), y -> y.entry(64, 1), 1);
        }
    }

    private static void promise2_mAbove64() {
        for (int kind = 0; kind < 3; kind++) {
            int of = kind;
            Refusal.number("2 rim: m 65", x -> x.rim(of, 65), 1);
            Refusal.number("2 rim: m the largest", x -> x.rim(of, MOST), 1);
        }
        Refusal.number("2 rim: m 65, none there", RimsAndDiscsEdgesTest::nothing, x -> x.rim(2, 65), 1);
    }

    private static void promise2_mBelow0() {
        for (int kind = 0; kind < 3; kind++) {
            int of = kind;
            Refusal.number("2 rim: m -1", x -> x.rim(of, -1), 3);
            Refusal.number("2 rim: m the smallest", x -> x.rim(of, LEAST), 3);
        }
        Refusal.number("2 rim: m -1, none there", RimsAndDiscsEdgesTest::nothing, x -> x.rim(0, -1), 3);
        Refusal.number("2 rim: m -1, a missing one there", x -> x.rim(3, 0), x -> x.rim(0, -1), 3);
    }

    private static void promise2_anotherKind() {
        for (int kind : new int[] {-1, 4, LEAST, MOST}) {
            Refusal.number("2 rim: kind " + kind, x -> x.rim(kind, 1), 1);
        }
    }

    private static void promise2_severalFaultsTheLeast() {
        for (int kind : new int[] {-1, 4}) {
            Refusal.number("2 rim: kind " + kind + " and m -1", x -> x.rim(kind, -1), 1);
            Refusal.number("2 rim: kind " + kind + " and m 65", x -> x.rim(kind, 65), 1);
        }
    }

    private static void promise2_aMissingOneWhateverM() {
        for (int m : new int[] {0, 1, 64, 65, -1, LEAST, MOST}) {
            WheelDisc x = new WheelDisc();
            Due.answer(x, "2 rim: missing, m " + m, x.rim(3, m), 0);
            Due.answer(x, "2 rim: missing, m " + m + ": count", x.count(7), 0);
            Due.answer(x, "2 rim: missing, m " + m + ": a track", x.track(), 0);
        }
    }

    private static void promise2_allEntriesAre0() {
        WheelDisc x = new WheelDisc();
        x.disc(256);
        x.rim(2, 4);
        for (int i = 0; i < 4; i++) {
            x.entry(i, -1);
        }
        x.rim(2, 1);
        x.rim(2, 4);
        x.reader(x.track(), 0);
        Due.answer(x, "2 rim: all 0, though one ahead was not", x.where(0), 256);
    }

    private static void promise2_inPlaceOfTheOneThatThereIs() {
        WheelDisc x = new WheelDisc();
        x.rim(0, 5);
        Due.answer(x, "2 rim: missing in place of one", x.rim(3, 5), 0);
        Due.answer(x, "2 rim: missing in place of one: count", x.count(7), 0);
        Due.refused(x, "2 rim: missing in place of one: entry", x.entry(0, 1), 2);
        Due.answer(x, "2 rim: one in place of a missing one", x.rim(1, 7), 7);
        Due.yes(x, "2 rim: one in place of a missing one: entry", x.entry(6, 1));
        Due.answer(x, "2 rim: no change of the disc", x.count(4), 0);
    }

    private static void promise3_firstAndLastEntry() {
        int[] widths = {8, 16, 64};
        for (int kind = 0; kind < 3; kind++) {
            WheelDisc x = new WheelDisc();
            x.disc(3 * widths[kind]);
            x.rim(kind, 3);
            Due.yes(x, "3 entry: the first", x.entry(0, 1));
            Due.yes(x, "3 entry: the last", x.entry(2, 1));
            x.reader(x.track(), 0);
            Due.answer(x, "3 entry: lights", x.where(1), 2);
            Due.answer(x, "3 entry: the first's", x.at(1, 0), 0);
            Due.answer(x, "3 entry: the last's", x.at(1, 1), 2 * widths[kind]);
        }
    }

    private static void promise3_noSuchEntry() {
        for (int i : new int[] {-1, 2, 64, LEAST, MOST}) {
            Refusal.truth("3 entry: no entry " + i, x -> x.entry(i, -1), 1);
        }
    }

    private static void promise3_noRimAskedAhead() {
        for (int i : new int[] {0, -1, 64, LEAST, MOST}) {
            Refusal.truth("3 entry " + i + ": no rim", RimsAndDiscsEdgesTest::nothing, x -> x.entry(i, 1), 2);
        }
        Refusal.truth("3 entry: the rim became a track", x -> {
            x.rim(0, 1);
            x.track();
        }, x -> x.entry(0, 1), 2);
    }

    private static void promise3_aMissingRimAskedAhead() {
        for (int i : new int[] {0, -1, 5, LEAST, MOST}) {
            Refusal.truth("3 entry " + i + ": a missing rim", x -> x.rim(3, 5), x -> x.entry(i, 1), 2);
        }
    }

    /** Where the lights are on a disc of 130 sectors whose rim's first two entries are v and 0. */
    private static void entryGives(int kind, long v, int lights, int first, int last) {
        WheelDisc x = new WheelDisc();
        x.disc(130);
        x.rim(kind, 2);
        Due.yes(x, "3 entry " + v, x.entry(0, v));
        x.reader(x.track(), 0);
        String what = "3 entry " + v + " of kind " + kind + ": ";
        Due.answer(x, what + "lights", x.where(1), lights);
        if (lights > 0) {
            Due.answer(x, what + "first light", x.at(1, 0), first);
            Due.answer(x, what + "last light", x.at(1, lights - 1), last);
        }
    }

    private static void promise3_itsLowestBits() {
        entryGives(0, 255, 8, 0, 7);
        entryGives(0, 256, 0, 0, 0);
        entryGives(0, -1, 8, 0, 7);
        entryGives(0, -128, 1, 7, 7);
        entryGives(0, Long.MIN_VALUE, 0, 0, 0);
        entryGives(1, 65535, 16, 0, 15);
        entryGives(1, 65536, 0, 0, 0);
        entryGives(1, -1, 16, 0, 15);
        entryGives(1, Long.MIN_VALUE, 0, 0, 0);
        entryGives(2, -1, 64, 0, 63);
        entryGives(2, 1L << 32, 1, 32, 32);
        entryGives(2, Long.MIN_VALUE, 1, 63, 63);
        entryGives(2, Long.MAX_VALUE, 63, 0, 62);
    }

    private static void promise3_becomesV() {
        WheelDisc x = new WheelDisc();
        x.disc(8);
        x.rim(0, 1);
        x.entry(0, 255);
        Due.yes(x, "3 entry: another one", x.entry(0, 16));
        x.reader(x.track(), 0);
        Due.answer(x, "3 entry: the latest alone", x.where(1), 1);
        Due.answer(x, "3 entry: the latest alone", x.at(1, 0), 4);
    }

    private static void promise4_leastAndMostSectors() {
        WheelDisc x = new WheelDisc();
        Due.yes(x, "4 disc: n 512", x.disc(512));
        Due.answer(x, "4 disc: n 512: sectors", x.count(0), 512);
        Due.answer(x, "4 disc: n 512: last stand", x.word(511), 0);
        Due.refused(x, "4 disc: n 512: no further stand", x.word(512), 1);
        Due.yes(x, "4 disc: n 1", x.disc(1));
        Due.answer(x, "4 disc: n 1: sectors", x.count(0), 1);
        Due.refused(x, "4 disc: n 1: no further stand", x.word(1), 1);
        Due.yes(x, "4 disc: n 1 again", x.disc(1));
        Due.answer(x, "4 disc: that is a change, too", x.count(4), 3);
    }

    private static void promise4_anotherN() {
        for (int n : new int[] {0, -1, 513, LEAST, MOST}) {
            Refusal.truth("4 disc: n " + n, x -> x.disc(n), 1);
        }
    }

    private static void promise4_aNewDisc() {
        WheelDisc x = new WheelDisc();
        Refusal.rich(x);
        Due.yes(x, "4 disc: a new one", x.disc(6));
        Due.answer(x, "4 disc: no tracks", x.count(1), 0);
        Due.answer(x, "4 disc: no readers", x.count(2), 0);
        x.rim(3, 0);
        x.track();
        x.reader(0, 0);
        Due.answer(x, "4 disc: no light of the one ahead", x.where(0), 6);
    }

    private static void promise5_noRim() {
        Refusal.number("5 track: no rim", x -> x.disc(7), WheelDisc::track, 2);
    }

    private static void promise5_noRimThen() {
        for (int kind = 0; kind < 4; kind++) {
            int of = kind;
            WheelDisc x = new WheelDisc();
            x.rim(kind, 2);
            Due.answer(x, "5 track of kind " + kind, x.track(), 0);
            Due.answer(x, "5 track: no rim then", x.count(7), NONE);
            Refusal.number("5 track: no rim then", y -> {
                y.rim(of, 2);
                y.track();
            }, WheelDisc::track, 2);
        }
    }

    private static void promise5_aMissingRimIsAllDark() {
        WheelDisc x = new WheelDisc();
        x.disc(512);
        x.rim(2, 8);
        for (int i = 0; i < 8; i++) {
            x.entry(i, -1);
        }
        x.rim(3, 8);
        Due.answer(x, "5 track: a missing rim", x.track(), 0);
        x.reader(0, 0);
        Due.answer(x, "5 track: a missing rim is all dark", x.where(0), 512);
    }

    private static void tenTracks(WheelDisc x) {
        x.disc(9);
        for (int t = 0; t < 10; t++) {
            x.rim(0, 1);
            x.entry(0, t);
            x.track();
        }
    }

    private static void tenTracksAndARim(WheelDisc x) {
        tenTracks(x);
        x.rim(1, 3);
        x.entry(2, 5);
    }

    private static void promise5_tenTracks() {
        WheelDisc x = new WheelDisc();
        tenTracks(x);
        Due.answer(x, "5 track: ten", x.count(1), 10);
        Due.answer(x, "5 track: the tenth", x.light(9, 3, false), 1);
        Refusal.number("5 track: an eleventh", RimsAndDiscsEdgesTest::tenTracksAndARim, WheelDisc::track, 4);
        Refusal.number("5 track: an eleventh, of a missing rim", y -> {
            tenTracks(y);
            y.rim(3, 0);
        }, WheelDisc::track, 4);
        x.undo();
        x.undo();
        x.rim(0, 1);
        Due.answer(x, "5 track: room again behind an undo", x.track(), 9);
    }

    private static void promise5_tenTracksAndNoRim() {
        Refusal.number("5 track: ten, and no rim", RimsAndDiscsEdgesTest::tenTracks, WheelDisc::track, 2);
    }

    private static void lightsOfRim(int kind, int entries, int n, int lights) {
        WheelDisc x = new WheelDisc();
        x.disc(n);
        x.rim(kind, entries);
        for (int i = 0; i < entries; i++) {
            x.entry(i, -1);
        }
        x.reader(x.track(), 0);
        String what = "5 track: " + entries + " entries of kind " + kind + " on " + n + " sectors: ";
        Due.answer(x, what + "lights", x.where(1), lights);
        for (int i = 0; i < Math.min(lights, 300); i++) {
            Due.is(what + "they come first", x.at(1, i), i);
        }
    }

    private static void promise5_whatTheRimHasNotIsDark() {
        lightsOfRim(0, 0, 20, 0);
        lightsOfRim(0, 2, 20, 16);
        lightsOfRim(0, 63, 512, 504);
        lightsOfRim(1, 1, 17, 16);
        lightsOfRim(1, 31, 512, 496);
        lightsOfRim(2, 1, 65, 64);
        lightsOfRim(2, 7, 512, 448);
    }

    private static void promise5_lastBitOfAnEntryAndFirstOfTheNext() {
        int[] widths = {8, 16, 64};
        for (int kind = 0; kind < 3; kind++) {
            int width = widths[kind];
            WheelDisc x = new WheelDisc();
            x.disc(2 * width);
            x.rim(kind, 2);
            x.entry(0, 1L << (width - 1));
            x.entry(1, 1);
            x.reader(x.track(), 0);
            Due.answer(x, "5 track: two lights of kind " + kind, x.where(1), 2);
            Due.answer(x, "5 track: the last bit of entry 0", x.at(1, 0), width - 1);
            Due.answer(x, "5 track: the lowest bit of entry 1", x.at(1, 1), width);
        }
    }

    private static void promise5_aRimLongerThanTheDisc() {
        lightsOfRim(0, 1, 5, 5);
        lightsOfRim(0, 64, 512, 512);
        lightsOfRim(0, 64, 511, 511);
        lightsOfRim(1, 64, 512, 512);
        lightsOfRim(2, 64, 512, 512);
        lightsOfRim(2, 64, 1, 1);
        WheelDisc x = new WheelDisc();
        x.disc(3);
        x.rim(0, 1);
        x.entry(0, 255);
        x.reader(x.track(), 0);
        x.turn(1);
        x.mirror();
        x.light(0, 2, false);
        Due.answer(x, "5 track: no light beyond the disc comes round", x.where(1), 2);
    }

    private static void promise6_firstAndLast() {
        for (int n : new int[] {1, 2, 63, 64, 65, 512}) {
            WheelDisc x = new WheelDisc();
            x.disc(n);
            for (int t = 0; t < 10; t++) {
                x.rim(3, 0);
                x.track();
            }
            for (int track : new int[] {0, 9}) {
                Due.answer(x, "6 light: the last sector was dark", x.light(track, n - 1, true), 0);
                Due.answer(x, "6 light: the last sector was light", x.light(track, n - 1, false), 1);
                Due.answer(x, "6 light: the first sector was dark", x.light(track, 0, true), 0);
                Due.answer(x, "6 light: the first sector was light", x.light(track, 0, true), 1);
            }
            Due.answer(x, "6 light: the track beside stays dark", x.light(1, 0, false), 0);
            Due.answer(x, "6 light: the track beside stays dark", x.light(8, n - 1, false), 0);
        }
    }

    private static void promise6_noneSuch() {
        for (int track : new int[] {-1, 2, 10, LEAST, MOST}) {
            Refusal.number("6 light: no track " + track, x -> x.light(track, 0, true), 1);
        }
        for (int sector : new int[] {-1, 6, 512, LEAST, MOST}) {
            Refusal.number("6 light: no sector " + sector, x -> x.light(0, sector, true), 1);
            Refusal.number("6 light: no sector " + sector, x -> x.light(0, sector, false), 1);
        }
        Refusal.number("6 light: neither", x -> x.light(2, 6, true), 1);
        Refusal.number("6 light: no tracks at all", x -> x.disc(4), x -> x.light(0, 0, true), 1);
    }

    private static void promise6_asItWasIsAChangeToo() {
        WheelDisc x = Due.ring("01", 0);
        Due.answer(x, "6 light: light as it was", x.light(0, 1, true), 1);
        Due.answer(x, "6 light: dark as it was", x.light(0, 0, false), 0);
        Due.answer(x, "6 light: each is a change", x.count(4), 5);
        Due.words(x, "6 light: as it was", 0, 1);
    }

    private static void promise7_firstAndLastPlace() {
        WheelDisc x = new WheelDisc();
        x.disc(512);
        Due.track(x, "1");
        Due.answer(x, "7 reader: place 0", x.reader(0, 0), 0);
        Due.answer(x, "7 reader: place 511", x.reader(0, 511), 1);
        Due.answer(x, "7 reader: its place", x.seen(1, 1), 511);
        Due.answer(x, "7 reader: what place 0 sees", x.word(0), 2);
        Due.answer(x, "7 reader: what place 511 sees", x.word(1), 1);
        x = Due.ring("1");
        Due.answer(x, "7 reader: place 0 of one sector", x.reader(0, 0), 0);
        Refusal.number("7 reader: place 1 of one sector", y -> Due.ring(y, "1"), y -> y.reader(0, 1), 1);
    }

    private static void promise7_noSuchTrackOrPlace() {
        for (int track : new int[] {-1, 2, 10, LEAST, MOST}) {
            Refusal.number("7 reader: no track " + track, x -> x.reader(track, 0), 1);
        }
        for (int place : new int[] {-1, 6, 512, LEAST, MOST}) {
            Refusal.number("7 reader: no place " + place, x -> x.reader(0, place), 1);
        }
        Refusal.number("7 reader: neither", x -> x.reader(2, 6), 1);
        Refusal.number("7 reader: no tracks at all", x -> x.disc(4), x -> x.reader(0, 0), 1);
    }

    private static void tenReaders(WheelDisc x) {
        Due.ring(x, "00101", 0, 1, 2, 3, 4, 4, 3, 2, 1, 0);
    }

    private static void promise7_tenReaders() {
        WheelDisc x = new WheelDisc();
        tenReaders(x);
        Due.answer(x, "7 reader: ten", x.count(2), 10);
        Due.answer(x, "7 reader: the tenth's place", x.seen(9, 1), 0);
        Due.answer(x, "7 reader: the word of ten", x.word(0), 0b0010110100);
        Refusal.number("7 reader: an eleventh", RimsAndDiscsEdgesTest::tenReaders, y -> y.reader(0, 0), 4);
    }

    private static void promise7_severalFaultsTheLeast() {
        Refusal.number("7 reader: ten, and no track", RimsAndDiscsEdgesTest::tenReaders, y -> y.reader(1, 0), 1);
        Refusal.number("7 reader: ten, and no place", RimsAndDiscsEdgesTest::tenReaders, y -> y.reader(0, 5), 1);
    }

    private static void promise7_roomAgainBehindALift() {
        WheelDisc x = new WheelDisc();
        tenReaders(x);
        x.lift(0);
        Due.answer(x, "7 reader: room again behind a lift", x.reader(0, 2), 9);
        x.undo();
        Due.answer(x, "7 reader: room again behind an undo", x.reader(0, 3), 9);
    }

    private static void promise8_thoseBehindHaveNumbersOneLess() {
        for (int lifted = 0; lifted < 10; lifted++) {
            WheelDisc x = Due.ring("0000000001", 0, 1, 2, 3, 4, 5, 6, 7, 8, 9);
            Due.answer(x, "8 lift " + lifted + " of ten", x.lift(lifted), 9);
            for (int r = 0; r < 9; r++) {
                Due.answer(x, "8 lift: place of " + r, x.seen(r, 1), r < lifted ? r : r + 1);
            }
            Due.refused(x, "8 lift: the last number is none now", x.seen(9, 1), 1);
        }
    }

    private static void promise8_theirTracksGoWithThem() {
        WheelDisc x = Due.disc("001", "010", "100", "111");
        x.lift(1);
        int[] tracks = {0, 2, 3};
        for (int r = 0; r < 3; r++) {
            Due.answer(x, "8 lift: track of " + r, x.seen(r, 0), tracks[r]);
        }
        Due.words(x, "8 lift: words", 3, 1, 5);
        x.undo();
        for (int r = 0; r < 4; r++) {
            Due.answer(x, "12 undo of a lift: track of " + r, x.seen(r, 0), r);
        }
        Due.words(x, "12 undo of a lift: words", 3, 5, 9);
    }

    private static void promise8_theLastThatThereIs() {
        WheelDisc x = Due.ring("01", 0);
        Due.answer(x, "8 lift: the last that there is", x.lift(0), 0);
        Due.words(x, "8 lift: no readers", 0, 0);
        Due.answer(x, "8 lift: its track stays", x.count(1), 1);
        Due.answer(x, "8 lift: a reader anew", x.reader(0, 1), 0);
    }

    private static void promise8_noneSuch() {
        for (int reader : new int[] {-1, 3, 10, LEAST, MOST}) {
            Refusal.number("8 lift: no reader " + reader, x -> x.lift(reader), 1);
        }
        Refusal.number("8 lift: no readers at all", x -> Due.ring(x, "01"), x -> x.lift(0), 1);
    }

    private static void turnedTo(int n, int k, int stand) {
        WheelDisc x = new WheelDisc();
        x.disc(n);
        Due.track(x, "1");
        x.reader(0, 0);
        Due.yes(x, "9 turn " + k + " of " + n, x.turn(k));
        Due.answer(x, "9 turn: one light", x.where(1), 1);
        Due.answer(x, "9 turn " + k + " of " + n + ": what was stand 0", x.at(1, 0), stand);
        Due.answer(x, "9 turn is a change", x.count(4), 4);
    }

    private static void promise9_anyIntRound() {
        turnedTo(5, 0, 0);
        turnedTo(5, 1, 4);
        turnedTo(5, 4, 1);
        turnedTo(5, 5, 0);
        turnedTo(5, 6, 4);
        turnedTo(5, -1, 1);
        turnedTo(5, -5, 0);
        turnedTo(5, -6, 1);
        turnedTo(512, 511, 1);
        turnedTo(512, 512, 0);
        turnedTo(512, -1, 1);
    }

    /** 2^31 is 3 more than a multiple of 5, 2 more than one of 7, and a multiple of 512. */
    private static void promise9_theSmallestAndLargestInt() {
        turnedTo(5, LEAST, 3);
        turnedTo(5, MOST, 3);
        turnedTo(7, LEAST, 2);
        turnedTo(7, MOST, 6);
        turnedTo(512, LEAST, 0);
        turnedTo(512, MOST, 1);
    }

    private static void promise9_oneSector() {
        for (int k : new int[] {0, 1, -1, LEAST, MOST}) {
            turnedTo(1, k, 0);
        }
        WheelDisc x = new WheelDisc();
        Due.yes(x, "9 turn: a new one", x.turn(3));
        Due.answer(x, "9 turn: a new one: a change", x.count(4), 1);
    }

    private static void promise9_allTracksAreTurnedPlacesStay() {
        WheelDisc x = Due.ring("00001", 3);
        Due.track(x, "10000");
        x.turn(-1);
        Due.answer(x, "9 turn: the place stays", x.seen(0, 1), 3);
        Due.answer(x, "9 turn: the light goes behind the last: first", x.light(0, 0, true), 1);
        Due.answer(x, "9 turn: a track without a reader, too", x.light(1, 1, true), 1);
        Due.answer(x, "9 turn: a track without a reader, too", x.light(1, 0, false), 0);
    }

    private static void promise10_place0Stays() {
        WheelDisc x = Due.ring("00101", 0, 1, 2, 4);
        int[] places = {0, 4, 3, 1};
        int[] words = {x.word(4), x.word(3), x.word(2), x.word(1), x.word(0)};
        Due.yes(x, "10 mirror", x.mirror());
        for (int r = 0; r < 4; r++) {
            Due.answer(x, "10 mirror: place of " + r, x.seen(r, 1), places[r]);
        }
        Due.words(x, "10 mirror", words);
        x.undo();
        int[] asTheyWere = {0, 1, 2, 4};
        for (int r = 0; r < 4; r++) {
            Due.answer(x, "12 undo of a mirror: place of " + r, x.seen(r, 1), asTheyWere[r]);
        }
    }

    private static void promise10_oneAndTwoSectors() {
        WheelDisc x = Due.ring("1", 0);
        Due.yes(x, "10 mirror: one sector", x.mirror());
        Due.words(x, "10 mirror: one sector", 1);
        Due.answer(x, "10 mirror: one sector: place", x.seen(0, 1), 0);
        Due.answer(x, "10 mirror: a change", x.count(4), 4);
        x = Due.ring("01", 0, 1);
        Due.words(x, "10 ahead of mirror: two sectors", 1, 2);
        x.mirror();
        Due.words(x, "10 mirror: two sectors", 2, 1);
        Due.answer(x, "10 mirror: two sectors: place 0", x.seen(0, 1), 0);
        Due.answer(x, "10 mirror: two sectors: place 1", x.seen(1, 1), 1);
    }

    private static void promise10_mostSectors() {
        WheelDisc x = new WheelDisc();
        x.disc(512);
        Due.track(x, "1");
        x.reader(0, 0);
        x.reader(0, 511);
        x.mirror();
        Due.answer(x, "10 mirror: sector 0 is the last now", x.light(0, 511, true), 1);
        Due.answer(x, "10 mirror: place 511 is 1 now", x.seen(1, 1), 1);
        Due.answer(x, "10 mirror: the last word", x.word(511), 2);
        Due.answer(x, "10 mirror: the last but one", x.word(510), 1);
    }

    private static void promise11_noneSuch() {
        for (int reader : new int[] {-1, 3, 10, LEAST, MOST}) {
            Refusal.truth("11 swap: no reader " + reader, x -> x.swap(0, reader), 1);
            Refusal.truth("11 swap: no reader " + reader, x -> x.swap(reader, 0), 1);
            Refusal.truth("11 swap: no reader " + reader, x -> x.swap(reader, reader), 1);
        }
        Refusal.truth("11 swap: no readers at all", x -> Due.ring(x, "01"), x -> x.swap(0, 0), 1);
    }

    private static void promise11_oneWithItself() {
        WheelDisc x = Due.ring("0010", 1, 3);
        Due.yes(x, "11 swap: one with itself", x.swap(1, 1));
        Due.answer(x, "11 swap: its place stays", x.seen(1, 1), 3);
        Due.answer(x, "11 swap: a change, too", x.count(4), 5);
    }

    private static void promise11_firstAndLastOfTen() {
        WheelDisc x = new WheelDisc();
        x.disc(3);
        Due.track(x, "100");
        Due.track(x, "010");
        for (int r = 0; r < 10; r++) {
            x.reader(r < 9 ? 0 : 1, r < 9 ? 0 : 2);
        }
        Due.yes(x, "11 swap: the first and the last of ten", x.swap(0, 9));
        Due.answer(x, "11 swap: track of the first", x.seen(0, 0), 1);
        Due.answer(x, "11 swap: place of the first", x.seen(0, 1), 2);
        Due.answer(x, "11 swap: track of the last", x.seen(9, 0), 0);
        Due.answer(x, "11 swap: place of the last", x.seen(9, 1), 0);
        Due.words(x, "11 swap: the first and the last of ten", 511, 0, 512);
    }

    private static void promise12_noChange() {
        Refusal.number("12 undo: no change", RimsAndDiscsEdgesTest::nothing, WheelDisc::undo, 2);
        Refusal.number("12 undo: calls that are no changes", x -> {
            x.rim(0, 2);
            x.entry(0, 3);
            x.keep();
            x.drive(1);
            x.tell(1);
            x.single(6, 3, 7);
        }, WheelDisc::undo, 2);
        Refusal.number("12 undo: all are undone", x -> {
            x.disc(3);
            x.undo();
        }, WheelDisc::undo, 2);
    }

    private static void discsOf(WheelDisc x, int from, int to) {
        for (int n = from; n <= to; n++) {
            x.disc(n);
        }
    }

    private static void promise12_thirtyCanBeUndone() {
        WheelDisc x = new WheelDisc();
        discsOf(x, 2, 31);
        Due.answer(x, "12 undo: thirty changes", x.count(4), 30);
        for (int left = 29; left >= 0; left--) {
            Due.answer(x, "12 undo: how many more", x.undo(), left);
            Due.answer(x, "12 undo: the disc ahead of it", x.count(0), left + 1);
        }
        Due.refused(x, "12 undo: none left", x.undo(), 2);
    }

    private static void promise12_theThirtyFirstCannot() {
        WheelDisc x = new WheelDisc();
        discsOf(x, 2, 32);
        Due.answer(x, "12 undo: of thirty-one changes thirty", x.count(4), 30);
        for (int left = 29; left >= 0; left--) {
            Due.answer(x, "12 undo: how many more", x.undo(), left);
        }
        Due.answer(x, "12 undo: the oldest stays", x.count(0), 2);
        Refusal.number("12 undo: the thirty-first", y -> {
            discsOf(y, 2, 32);
            for (int i = 0; i < 30; i++) {
                y.undo();
            }
        }, WheelDisc::undo, 2);
    }

    private static void promise12_refusedCallsAreNoChanges() {
        WheelDisc x = Due.ring("01", 0);
        x.disc(0);
        x.track();
        x.light(1, 0, true);
        x.reader(0, 2);
        x.lift(1);
        x.swap(0, 1);
        x.gray(5, 3);
        x.chain(0, 0);
        x.single(5, 2, 1);
        x.go(1);
        Due.answer(x, "12 undo: refused calls are no changes", x.count(4), 3);
        Due.answer(x, "12 undo: the latest change", x.undo(), 2);
        Due.answer(x, "12 undo: it was the reader", x.count(2), 0);
    }

    private static void promise12_onlyThoseCallsAreChanges() {
        WheelDisc x = Due.ring("01", 0);
        x.rim(0, 1);
        x.entry(0, 1);
        x.keep();
        x.same();
        x.single(4, 2, 2);
        x.go(100);
        x.drive(1);
        x.mend();
        x.halt();
        x.tell(1);
        x.forge(0, 0);
        x.check(1);
        x.clear();
        Due.answer(x, "12 undo: no changes of the disc", x.count(4), 3);
        x.undo();
        Due.answer(x, "12 undo: the undo is none either", x.count(4), 2);
    }

    private static void promise12_theLatestThatIsNotUndone() {
        WheelDisc x = new WheelDisc();
        discsOf(x, 2, 5);
        x.undo();
        x.undo();
        x.disc(9);
        Due.answer(x, "12 undo: the latest", x.undo(), 2);
        Due.answer(x, "12 undo: the latest", x.count(0), 3);
        Due.answer(x, "12 undo: the one ahead of those undone", x.undo(), 1);
        Due.answer(x, "12 undo: the one ahead of those undone", x.count(0), 2);
    }

    private static void promise12_untilNoneIsLeft() {
        WheelDisc x = new WheelDisc();
        for (int round = 0; round < 3; round++) {
            discsOf(x, 2, 20);
            for (int left = 18; left >= 0; left--) {
                Due.answer(x, "12 undo: round " + round, x.undo(), left);
            }
            Due.answer(x, "12 undo: as it was", x.count(0), 1);
        }
    }

    private static void promise12_ofTheLargestDisc() {
        WheelDisc x = new WheelDisc();
        x.gray(512, 10);
        x.disc(1);
        Due.answer(x, "12 undo: the largest disc", x.undo(), 1);
        Due.answer(x, "12 undo: its tracks", x.count(1), 10);
        Due.answer(x, "12 undo: its readers", x.count(2), 10);
        for (int s = 0; s < 512; s += 7) {
            Due.is("12 undo: its word " + s, x.word(s), s ^ (s >> 1));
        }
        Due.is("12 undo: its last word", x.word(511), 256);
    }
}
