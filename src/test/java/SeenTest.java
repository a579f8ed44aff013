/** Promises 13 to 25. */
public final class SeenTest {
    private static final int LEAST = Integer.MIN_VALUE;
    private static final int MOST = Integer.MAX_VALUE;

    public static void main(String[] args) {
        count13();
        kinds13();
        word14();
        seen15();
        where16at17();
        edge18way19();
        fewest20();
        blind21spare22();
        form23();
        formOfLargeDiscs23();
        keep24same25();
        Due.end();
    }

    private static void count13() {
        WheelDisc x = Due.ring("00101", 0, 2, 3);
        x.drive(1);
        x.drive(2);
        x.tell(1);
        x.rim(1, 9);
        int[] want = {5, 1, 3, 1, 5, 2, 1, 9};
        for (int what = 0; what < want.length; what++) {
            Due.answer(x, "count(" + what + ")", x.count(what), want[what]);
        }
        Due.refused(x, "count(8)", x.count(8), 1);
        Due.refused(x, "count(-1)", x.count(-1), 1);
        Due.refused(x, "count(least)", x.count(LEAST), 1);
        x.rim(3, 9);
        Due.answer(x, "count(7) of a missing one", x.count(7), 0);
        x.track();
        Due.answer(x, "count(7) without one is not refused", x.count(7), WheelDisc.NONE);
    }

    private static void kind(String what, WheelDisc x, int want) {
        Due.answer(x, "kind of " + what, x.count(3), want);
    }

    private static void kinds13() {
        kind("a new one", new WheelDisc(), 1);
        kind("one sector, one track, no reader", Due.ring("1"), 4);
        kind("one sector, one track, three readers", Due.ring("1", 0, 0, 0), 4);
        kind("one sector, two tracks", Due.disc("1", "0"), 1);
        kind("two sectors, no reader", Due.ring("01"), 0);
        kind("two sectors, one reader", Due.ring("01", 0), 3);
        kind("two sectors, two readers", Due.ring("01", 0, 1), 4);
        kind("two sectors, two readers, apart in one", Due.disc("01", "00"), 2);
        kind("two sectors, one track, two like readers", Due.ring("01", 0, 0), 1);
        kind("two sectors, two tracks, apart in two", Due.disc("01", "01"), 1);
        kind("two like words", Due.disc("0011", "0000"), 0);
        kind("two like words far apart", Due.disc("00110", "01100"), 0);
        kind("a step disc", Due.disc("0011", "0110"), 2);
        kind("all but the step behind the last", Due.disc("0001", "0110", "0011"), 1);
        kind("a single", Due.ring("0011", 0, 1), 3);
        kind("a single whose places don't follow", Due.ring("000111", 0, 2, 4), 3);
        kind("a chain", Due.ring("00010111", 0, 1, 2), 4);
        kind("a chain round the ring", Due.ring("00010111", 6, 7, 0), 4);
        kind("a chain the other way", Due.ring("00010111", 2, 1, 0), 1);
        kind("a chain with a place too far", Due.ring("00010111", 0, 1, 2, 4), 1);
        WheelDisc x = Due.ring("0011", 0, 1);
        x.rim(3, 0);
        x.track();
        kind("a single with a further track", x, 2);
        x = Due.ring("00010111", 0, 1, 2);
        x.rim(3, 0);
        x.track();
        kind("a chain with a further track", x, 1);
        x = Due.ring("0101", 0);
        kind("two and two alike", x, 0);
        x.disc(1);
        kind("one sector again", x, 1);
    }

    private static void word14() {
        WheelDisc x = Due.disc("001", "010");
        x.reader(1, 2);
        Due.words(x, "word", 0, 2, 5);
        Due.refused(x, "word 3", x.word(3), 1);
        Due.refused(x, "word -1", x.word(-1), 1);
        Due.refused(x, "word least", x.word(LEAST), 1);
        Due.refused(x, "word most", x.word(MOST), 1);
        x.disc(512);
        Due.track(x, "1");
        x.reader(0, 511);
        Due.answer(x, "word 1: 1 + 511 goes round", x.word(1), 1);
        Due.answer(x, "word 0", x.word(0), 0);
        Due.answer(x, "word 511", x.word(511), 0);
        Due.refused(x, "word 512", x.word(512), 1);
    }

    private static void seen15() {
        WheelDisc x = Due.disc("0000000", "1111111", "0010111");
        x.reader(2, 5);
        int[][] want = {{0, 0, 0, 7}, {1, 0, 0, 7}, {2, 0, 4, 1}, {2, 5, 4, 1}};
        for (int r = 0; r < 4; r++) {
            for (int what = 0; what < 4; what++) {
                Due.answer(x, "seen(" + r + ", " + what + ")", x.seen(r, what), want[r][what]);
            }
        }
        Due.refused(x, "seen 4", x.seen(4, 0), 1);
        Due.refused(x, "seen -1", x.seen(-1, 0), 1);
        Due.refused(x, "seen what 4", x.seen(0, 4), 1);
        Due.refused(x, "seen what -1", x.seen(0, -1), 1);
        Due.refused(x, "seen far", x.seen(LEAST, MOST), 1);
        WheelDisc y = Due.ring("1100011", 0);
        Due.answer(y, "a stretch round the ring counts whole", y.seen(0, 3), 3);
        Due.answer(y, "its changes", y.seen(0, 2), 2);
        y = Due.ring("1000111001", 0);
        Due.answer(y, "the shortest stretch is one round the ring", y.seen(0, 3), 2);
        y = Due.ring("1", 0);
        Due.answer(y, "one sector: no change", y.seen(0, 2), 0);
        Due.answer(y, "one sector: stretch", y.seen(0, 3), 1);
        y = Due.ring("01", 1);
        Due.answer(y, "two sectors: changes", y.seen(0, 2), 2);
        Due.answer(y, "two sectors: stretch", y.seen(0, 3), 1);
    }

    private static void where16at17() {
        WheelDisc x = Due.disc("001101", "010001");
        int[][] want = {{0, 4}, {1}, {2, 3}, {5}};
        for (int word = 0; word < 4; word++) {
            Due.answer(x, "where(" + word + ")", x.where(word), want[word].length);
            for (int i = 0; i < want[word].length; i++) {
                Due.answer(x, "at(" + word + ", " + i + ")", x.at(word, i), want[word][i]);
            }
            Due.refused(x, "at one too far", x.at(word, want[word].length), 1);
            Due.refused(x, "at -1", x.at(word, -1), 1);
        }
        int[] others = {4, -1, LEAST, MOST, 1024, 64 + 1};
        for (int word : others) {
            Due.answer(x, "where(" + word + ")", x.where(word), 0);
            Due.refused(x, "at(" + word + ", 0)", x.at(word, 0), 1);
        }
        Due.refused(x, "at least", x.at(0, LEAST), 1);
        Due.refused(x, "at most", x.at(0, MOST), 1);
        WheelDisc y = new WheelDisc();
        Due.answer(y, "where(0) without readers", y.where(0), 1);
        Due.answer(y, "at(0, 0) without readers", y.at(0, 0), 0);
    }

    private static void edge18way19() {
        WheelDisc x = Due.disc("01", "11", "10", "00", "01");
        int[] want = {8, 9, 12, 13, 24, 25, 28, 29};
        for (int stand = 0; stand < 2; stand++) {
            Due.answer(x, "edge " + stand, x.edge(stand), 8);
            for (int i = 0; i < 8; i++) {
                Due.answer(x, "way(" + stand + ", " + i + ")", x.way(stand, i), want[i]);
            }
            Due.refused(x, "way 8", x.way(stand, 8), 1);
            Due.refused(x, "way -1", x.way(stand, -1), 1);
        }
        Due.refused(x, "edge 2", x.edge(2), 1);
        Due.refused(x, "edge -1", x.edge(-1), 1);
        Due.refused(x, "way of stand 2", x.way(2, 0), 1);
        Due.refused(x, "way of stand -1", x.way(-1, 0), 1);
        Due.refused(x, "way far", x.way(MOST, LEAST), 1);
        WheelDisc y = Due.disc("0111", "0000");
        int[] edges = {2, 1, 1, 2};
        for (int stand = 0; stand < 4; stand++) {
            Due.answer(y, "edge behind " + stand, y.edge(stand), edges[stand]);
        }
        Due.answer(y, "way behind the last", y.way(3, 0), 0);
        Due.answer(y, "way behind the last", y.way(3, 1), 2);
        Due.answer(y, "way where none changes", y.way(1, 0), 2);
        WheelDisc z = new WheelDisc();
        Due.answer(z, "edge without readers", z.edge(0), 1);
        Due.answer(z, "way without readers", z.way(0, 0), 0);
        z = Due.ring("01", 0, 0, 0, 0, 0, 0, 0, 0, 0, 0);
        Due.answer(z, "edge of ten readers", z.edge(1), 1024);
        Due.answer(z, "way of ten readers", z.way(1, 1023), 1023);
        Due.answer(z, "way of ten readers", z.way(1, 517), 517);
        z = Due.ring("1", 0, 0);
        Due.answer(z, "edge of one sector", z.edge(0), 1);
        Due.answer(z, "way of one sector", z.way(0, 0), 3);
    }

    private static void fewest20() {
        WheelDisc x = new WheelDisc();
        Due.answer(x, "fewest of one sector is not refused", x.fewest(), WheelDisc.NONE);
        x.disc(2);
        Due.answer(x, "fewest without readers", x.fewest(), 0);
        x = Due.ring("01", 0, 0, 0, 0, 0, 0, 0, 0, 0, 0);
        Due.answer(x, "fewest: in all ten", x.fewest(), 10);
        x.light(0, 1, false);
        Due.answer(x, "fewest: in none", x.fewest(), 0);
        x = Due.disc("0011", "0101", "0110");
        Due.answer(x, "fewest: in two", x.fewest(), 2);
        x = Due.disc("0011", "0101", "0000");
        Due.answer(x, "fewest: in one", x.fewest(), 1);
        x = Due.disc("010", "010", "010", "001", "001", "001", "001");
        Due.answer(x, "fewest: in three", x.fewest(), 3);
        x.gray(512, 9);
        Due.answer(x, "fewest of a gray disc", x.fewest(), 1);
        StringBuilder parity = new StringBuilder();
        for (int s = 0; s < 512; s++) {
            parity.append(s % 2);
        }
        x.reader(Due.track(x, parity.toString()), 0);
        Due.answer(x, "fewest of a gray disc with a parity reader", x.fewest(), 2);
    }

    private static void blind21spare22() {
        WheelDisc x = new WheelDisc();
        Due.answer(x, "blind without readers", x.blind(), 0);
        Due.answer(x, "spare without readers", x.spare(), 0);
        x = Due.ring("0", 0, 0, 0);
        Due.answer(x, "blind of one sector", x.blind(), 7);
        Due.answer(x, "spare of one sector", x.spare(), 7);
        x = Due.disc("0011", "0101", "0110");
        Due.answer(x, "blind: each of three", x.blind(), 7);
        Due.answer(x, "spare: the last", x.spare(), 1);
        x = Due.disc("0011", "0101", "0000", "0101", "0011");
        Due.answer(x, "blind: each but none needed", x.blind(), 31);
        Due.answer(x, "spare: from the last one on", x.spare(), 7);
        x = Due.disc("0101", "0011", "0101");
        Due.answer(x, "blind: not the second", x.blind(), 5);
        Due.answer(x, "spare: the last", x.spare(), 1);
        x = Due.disc("0011", "0010");
        Due.answer(x, "blind of kind 0", x.blind(), 0);
        Due.answer(x, "spare of kind 0", x.spare(), 0);
        x.gray(4, 10);
        Due.answer(x, "blind of a gray disc with dark readers", x.blind(), 1020);
        Due.answer(x, "spare of a gray disc with dark readers", x.spare(), 1020);
    }

    private static void form23() {
        Due.form(new WheelDisc(), "form of a new one", 0);
        WheelDisc x = Due.disc("110", "101", "011");
        Due.form(x, "form: readers in another order", 3, 5, 6);
        Due.refused(x, "form 3", x.form(3), 1);
        Due.refused(x, "form -1", x.form(-1), 1);
        Due.refused(x, "form least", x.form(LEAST), 1);
        x = Due.disc("10000", "01000", "00100");
        Due.form(x, "form: turned", 0, 0, 1, 2, 4);
        x = Due.disc("001011");
        Due.form(x, "form: mirrored or not", 0, 0, 1, 0, 1, 1);
        x = Due.disc("001101");
        Due.form(x, "form: mirrored", 0, 0, 1, 0, 1, 1);
        x = Due.disc("1", "0", "1");
        Due.form(x, "form of one sector", 3);
        x = Due.disc("0110", "0110");
        Due.form(x, "form: like readers", 0, 0, 3, 3);
        x.light(0, 1, false);
        Due.form(x, "form behind a change", 0, 0, 1, 3);
        x.undo();
        Due.form(x, "form behind an undo", 0, 0, 3, 3);
    }

    private static void formOfLargeDiscs23() {
        WheelDisc x = new WheelDisc();
        x.disc(512);
        Due.track(x, "0".repeat(300) + "1");
        for (int r = 0; r < 10; r++) {
            x.reader(0, 40 * r);
        }
        int lastLight = 511;
        Due.answer(x, "form of a large one: the longest dark first", x.form(0), 0);
        Due.answer(x, "form of a large one: the last", x.form(lastLight), 512);
        for (int i = 0; i < 9; i++) {
            Due.answer(x, "form of a large one: light " + i, x.form(lastLight - 40 * (9 - i)), 1 << i);
        }
        x.keep();
        x.mirror();
        x.turn(77);
        x.swap(0, 9);
        x.swap(3, 5);
        Due.yes(x, "a large one turned, mirrored, swapped", x.same());
        x.light(0, 0, true);
        Due.no(x, "a large one with one more light", x.same());
        x.disc(512);
        Due.track(x, "01".repeat(256));
        for (int r = 0; r < 10; r++) {
            x.reader(0, r);
        }
        for (int i = 0; i < 12; i++) {
            Due.answer(x, "form of a large one that repeats", x.form(i), i % 2 == 0 ? 31 : 992);
        }
    }

    private static void keep24same25() {
        WheelDisc x = new WheelDisc();
        x.keep();
        Due.yes(x, "same of a new one", x.same());
        x.disc(1);
        Due.yes(x, "same as a new one", x.same());
        x = Due.disc("001011", "010001");
        Due.refused(x, "same: nothing kept", x.same(), 2);
        int had = x.count(4);
        Due.yes(x, "keep", x.keep());
        Due.answer(x, "keep is no change", x.count(4), had);
        Due.yes(x, "same as itself", x.same());
        x.mirror();
        x.turn(-4);
        x.swap(0, 1);
        Due.yes(x, "same turned, mirrored, swapped", x.same());
        x.light(0, 0, x.light(0, 0, true) == 0);
        Due.no(x, "not the same with another light", x.same());
        Due.yes(x, "keep in place of it", x.keep());
        Due.yes(x, "same as the one kept now", x.same());
        x.rim(3, 0);
        x.track();
        Due.yes(x, "same with a track without reader", x.same());
        x.reader(2, 0);
        Due.no(x, "not the same with a dark reader more", x.same());
        x.lift(2);
        Due.yes(x, "same without it", x.same());
        x.disc(1);
        Due.no(x, "not the same: one sector", x.same());
        x.keep();
        x.disc(2);
        Due.no(x, "not the same: two sectors, first words alike", x.same());
        x.keep();
        x.disc(1);
        Due.no(x, "not the same: fewer sectors, all words alike", x.same());
        x = Due.disc("0", "0");
        x.keep();
        x.lift(0);
        Due.no(x, "as many readers count where the words don't tell", x.same());
    }
}
