/** Promises 1 to 12. */
public final class RimsAndDiscsTest {
    private static final int LEAST = Integer.MIN_VALUE;
    private static final int MOST = Integer.MAX_VALUE;

    public static void main(String[] args) {
        newObject1();
        rim2();
        entry3();
        disc4();
        track5();
        rimsAsTracks5();
        light6();
        reader7();
        lift8();
        turn9();
        mirror10();
        swap11();
        undo12();
        undoEachKindOfChange12();
        onlyThirtyAreUndone12();
        undoTouchesTheDiscAlone12();
        Due.end();
    }

    private static void newObject1() {
        WheelDisc x = new WheelDisc();
        Due.is("new: fault", x.fault(), 0);
        int[] want = {1, 0, 0, 1, 0, 0, 0, WheelDisc.NONE};
        for (int what = 0; what < want.length; what++) {
            Due.answer(x, "new: count(" + what + ")", x.count(what), want[what]);
        }
        Due.words(x, "new", 0);
        Due.refused(x, "new: same", x.same(), 2);
        Due.refused(x, "new: undo", x.undo(), 2);
        Due.refused(x, "new: go", x.go(1), 2);
        Due.is("NONE", WheelDisc.NONE, -1);
        Due.is("SPENT", WheelDisc.SPENT, -2);
    }

    private static void rim2() {
        WheelDisc x = new WheelDisc();
        for (int kind = 0; kind < 3; kind++) {
            Due.answer(x, "rim none", x.rim(kind, 0), 0);
            Due.answer(x, "rim none: count", x.count(7), 0);
            Due.answer(x, "rim most", x.rim(kind, 64), 64);
            Due.answer(x, "rim most: count", x.count(7), 64);
            Due.refused(x, "rim 65", x.rim(kind, 65), 1);
            Due.refused(x, "rim most int", x.rim(kind, MOST), 1);
            Due.refused(x, "rim -1", x.rim(kind, -1), 3);
            Due.refused(x, "rim least int", x.rim(kind, LEAST), 3);
            Due.answer(x, "rim refused: it stays", x.count(7), 64);
        }
        Due.refused(x, "rim kind 4", x.rim(4, 1), 1);
        Due.refused(x, "rim kind -1", x.rim(-1, 1), 1);
        Due.refused(x, "rim kind 4 below 0: the least fault", x.rim(4, -1), 1);
        Due.refused(x, "rim kind -1 below 0: the least fault", x.rim(-1, -1), 1);
        int[] lengths = {0, 5, 64, 65, -1, LEAST, MOST};
        for (int m : lengths) {
            x.rim(0, 3);
            Due.answer(x, "rim missing " + m, x.rim(3, m), 0);
            Due.answer(x, "rim missing: count", x.count(7), 0);
        }
        x.disc(8);
        x.rim(0, 1);
        x.entry(0, -1);
        x.rim(0, 1);
        x.track();
        Due.answer(x, "a new rim is all 0", x.light(0, 0, false), 0);
        Due.answer(x, "rim is no change", x.count(4), 3);
    }

    private static void entry3() {
        WheelDisc x = new WheelDisc();
        Due.refused(x, "entry: no rim", x.entry(0, 1), 2);
        Due.refused(x, "entry: no rim, asked ahead", x.entry(-1, 1), 2);
        x.rim(3, 0);
        Due.refused(x, "entry: missing", x.entry(0, 1), 2);
        Due.refused(x, "entry: missing, asked ahead", x.entry(99, 1), 2);
        x.rim(0, 0);
        Due.refused(x, "entry: of no entries", x.entry(0, 1), 1);
        x.rim(1, 3);
        Due.yes(x, "entry 0", x.entry(0, 1));
        Due.yes(x, "entry 2", x.entry(2, Long.MIN_VALUE));
        Due.refused(x, "entry 3", x.entry(3, 1), 1);
        Due.refused(x, "entry -1", x.entry(-1, 1), 1);
        Due.refused(x, "entry least", x.entry(LEAST, 1), 1);
        Due.refused(x, "entry most", x.entry(MOST, 1), 1);
        x.disc(20);
        x.rim(0, 2);
        x.entry(0, 0x1FEL);
        x.entry(0, 0x181L);
        x.entry(1, -256L);
        x.track();
        for (int s = 0; s < 20; s++) {
            int want = s == 0 || s == 7 ? 1 : 0;
            Due.answer(x, "entry's lowest 8 bits, the latest: " + s, x.light(0, s, false), want);
        }
    }

    private static void disc4() {
        WheelDisc x = new WheelDisc();
        int[] wrong = {0, -1, 513, LEAST, MOST};
        for (int n : wrong) {
            Due.refused(x, "disc " + n, x.disc(n), 1);
        }
        Due.answer(x, "disc refused is no change", x.count(4), 0);
        Due.yes(x, "disc 512", x.disc(512));
        Due.answer(x, "disc 512: sectors", x.count(0), 512);
        Due.track(x, "1");
        x.reader(0, 511);
        x.drive(1);
        x.tell(1);
        x.rim(0, 5);
        Due.yes(x, "disc 1", x.disc(1));
        int[] want = {1, 0, 0, 1, 4, 1, 1, 5};
        for (int what = 0; what < want.length; what++) {
            Due.answer(x, "disc 1: count(" + what + ")", x.count(what), want[what]);
        }
        x.disc(3);
        x.rim(3, 0);
        x.track();
        Due.answer(x, "no light stays of the disc ahead", x.light(0, 0, true), 0);
    }

    private static void track5() {
        WheelDisc x = new WheelDisc();
        Due.refused(x, "track: no rim", x.track(), 2);
        for (int t = 0; t < 10; t++) {
            x.rim(t % 4, 1);
            Due.answer(x, "track " + t, x.track(), t);
            Due.answer(x, "track: rim is gone", x.count(7), WheelDisc.NONE);
            Due.answer(x, "track: tracks", x.count(1), t + 1);
            Due.refused(x, "track: rim is gone", x.entry(0, 1), 2);
        }
        Due.refused(x, "track: no rim and full, the least fault", x.track(), 2);
        x.rim(0, 2);
        Due.refused(x, "track: full", x.track(), 4);
        Due.answer(x, "track refused: the rim stays", x.count(7), 2);
        Due.answer(x, "track refused: tracks", x.count(1), 10);
    }

    private static void rimsAsTracks5() {
        int[] widths = {8, 16, 64};
        for (int kind = 0; kind < 3; kind++) {
            for (int entries = 0; entries <= 3; entries++) {
                WheelDisc x = new WheelDisc();
                int width = widths[kind];
                x.disc(150);
                x.rim(kind, entries);
                for (int i = 0; i < entries; i++) {
                    x.entry(i, (0x9E3779B97F4A7C15L << i) ^ -1L);
                }
                x.track();
                for (int s = 0; s < 150; s++) {
                    long v = (0x9E3779B97F4A7C15L << (s / width)) ^ -1L;
                    long want = s / width < entries ? (v >>> (s % width)) & 1 : 0;
                    Due.is("kind " + kind + " sector " + s, x.light(0, s, true), want);
                }
            }
        }
        WheelDisc x = new WheelDisc();
        x.disc(512);
        x.rim(2, 64);
        for (int i = 0; i < 64; i++) {
            x.entry(i, i == 7 ? Long.MIN_VALUE : 0);
        }
        x.track();
        Due.answer(x, "the last sector", x.light(0, 511, true), 1);
        Due.answer(x, "the one ahead", x.light(0, 510, true), 0);
        x.disc(4);
        x.rim(3, 7);
        Due.answer(x, "a missing rim", x.track(), 0);
        for (int s = 0; s < 4; s++) {
            Due.answer(x, "a missing rim is dark", x.light(0, s, false), 0);
        }
    }

    private static void light6() {
        WheelDisc x = Due.disc("0000", "1111");
        Due.answer(x, "light dark", x.light(0, 3, true), 0);
        Due.answer(x, "light light", x.light(0, 3, true), 1);
        Due.words(x, "light", 1, 1, 1, 3);
        Due.answer(x, "dark light", x.light(0, 3, false), 1);
        Due.answer(x, "dark dark", x.light(0, 3, false), 0);
        Due.answer(x, "other track", x.light(1, 0, false), 1);
        Due.words(x, "dark", 0, 1, 1, 1);
        int had = x.count(4);
        Due.refused(x, "light track 2", x.light(2, 0, true), 1);
        Due.refused(x, "light track -1", x.light(-1, 0, true), 1);
        Due.refused(x, "light sector 4", x.light(0, 4, true), 1);
        Due.refused(x, "light sector -1", x.light(0, -1, true), 1);
        Due.refused(x, "light far", x.light(MOST, LEAST, true), 1);
        Due.answer(x, "light refused is no change", x.count(4), had);
        Due.words(x, "light refused", 0, 1, 1, 1);
    }

    private static void reader7() {
        WheelDisc x = new WheelDisc();
        Due.refused(x, "reader: no track", x.reader(0, 0), 1);
        x.disc(3);
        Due.track(x, "011");
        Due.refused(x, "reader: place 3", x.reader(0, 3), 1);
        Due.refused(x, "reader: place -1", x.reader(0, -1), 1);
        Due.refused(x, "reader: track -1", x.reader(-1, 0), 1);
        Due.refused(x, "reader: track 1", x.reader(1, 0), 1);
        Due.refused(x, "reader: far", x.reader(MOST, LEAST), 1);
        Due.answer(x, "no readers so far", x.count(2), 0);
        for (int r = 0; r < 10; r++) {
            Due.answer(x, "reader " + r, x.reader(0, r % 3), r);
            Due.answer(x, "readers", x.count(2), r + 1);
        }
        Due.words(x, "ten readers", 0b0110110110, 0b1101101101, 0b1011011011);
        Due.refused(x, "reader: full", x.reader(0, 0), 4);
        Due.refused(x, "reader: full and no track, the least fault", x.reader(1, 0), 1);
        Due.refused(x, "reader: full and no place, the least fault", x.reader(0, 3), 1);
        Due.answer(x, "reader refused", x.count(2), 10);
    }

    private static void lift8() {
        WheelDisc x = Due.disc("0001", "0010", "0100");
        Due.refused(x, "lift 3", x.lift(3), 1);
        Due.refused(x, "lift -1", x.lift(-1), 1);
        Due.refused(x, "lift least", x.lift(LEAST), 1);
        Due.words(x, "lift refused", 0, 1, 2, 4);
        Due.answer(x, "lift 1", x.lift(1), 2);
        Due.words(x, "lift 1", 0, 1, 0, 2);
        Due.answer(x, "the one behind has a number one less", x.seen(1, 0), 2);
        Due.answer(x, "tracks stay", x.count(1), 3);
        Due.answer(x, "lift 1 again", x.lift(1), 1);
        Due.answer(x, "lift 0", x.lift(0), 0);
        Due.refused(x, "lift of none", x.lift(0), 1);
        Due.words(x, "no readers", 0, 0, 0, 0);
        WheelDisc y = Due.ring("00001", 0, 1, 3, 4);
        y.lift(1);
        Due.answer(y, "lift: place ahead", y.seen(0, 1), 0);
        Due.answer(y, "lift: place behind", y.seen(1, 1), 3);
        Due.answer(y, "lift: last place", y.seen(2, 1), 4);
    }

    private static void turn9() {
        int[] ks = {0, 1, 2, 4, 5, 6, -1, -5, -7, LEAST, MOST};
        for (int k : ks) {
            WheelDisc x = Due.disc("00011", "01100");
            x.reader(0, 2);
            int[] old = new int[5];
            int[] want = new int[5];
            for (int s = 0; s < 5; s++) {
                old[s] = x.word(s);
            }
            for (int s = 0; s < 5; s++) {
                want[s] = old[(int) Math.floorMod((long) s + k, 5L)];
            }
            Due.yes(x, "turn " + k, x.turn(k));
            Due.words(x, "turn " + k, want);
            Due.answer(x, "turn: places stay", x.seen(2, 1), 2);
        }
        WheelDisc x = new WheelDisc();
        Due.yes(x, "turn of one sector", x.turn(7));
        Due.answer(x, "turn is a change", x.count(4), 1);
        x.disc(512);
        Due.track(x, "1");
        x.turn(500);
        Due.answer(x, "turn of 512", x.light(0, 12, true), 1);
        Due.answer(x, "turn of 512", x.light(0, 0, true), 0);
        turnTheLargest9();
    }

    private static void turnTheLargest9() {
        WheelDisc x = new WheelDisc();
        x.gray(512, 10);
        Due.yes(x, "turn of the largest", x.turn(1));
        for (int s = 0; s < 512; s++) {
            int i = (s + 1) % 512;
            Due.is("turn of the largest: word " + s, x.word(s), i ^ (i >> 1));
        }
        Due.yes(x, "mirror of the largest", x.mirror());
        Due.answer(x, "mirror of the largest: first word", x.word(0), 0);
        Due.answer(x, "mirror of the largest: last word", x.word(511), 1);
        for (int left = 9; left >= 0; left--) {
            Due.answer(x, "lift of ten", x.lift(0), left);
        }
    }

    private static void mirror10() {
        WheelDisc x = Due.ring("00101", 0, 1, 4);
        int[] want = new int[5];
        for (int s = 0; s < 5; s++) {
            want[4 - s] = x.word(s);
        }
        Due.yes(x, "mirror", x.mirror());
        Due.words(x, "mirror", want);
        Due.answer(x, "mirror: place 0", x.seen(0, 1), 0);
        Due.answer(x, "mirror: place 1", x.seen(1, 1), 4);
        Due.answer(x, "mirror: place 4", x.seen(2, 1), 1);
        int[] lights = {1, 0, 1, 0, 0};
        for (int s = 0; s < 5; s++) {
            Due.answer(x, "mirror: sector " + s, x.light(0, s, lights[s] == 1), lights[s]);
        }
        WheelDisc y = new WheelDisc();
        Due.yes(y, "mirror of one sector", y.mirror());
        Due.answer(y, "mirror is a change", y.count(4), 1);
    }

    private static void swap11() {
        WheelDisc x = Due.disc("0001", "0010", "0100");
        Due.yes(x, "swap", x.swap(0, 2));
        Due.words(x, "swap", 0, 4, 2, 1);
        Due.answer(x, "swap: track of 0", x.seen(0, 0), 2);
        Due.answer(x, "swap: track of 2", x.seen(2, 0), 0);
        int had = x.count(4);
        Due.yes(x, "swap of one with itself", x.swap(1, 1));
        Due.answer(x, "is a change", x.count(4), had + 1);
        Due.words(x, "swap of one", 0, 4, 2, 1);
        Due.refused(x, "swap 0 3", x.swap(0, 3), 1);
        Due.refused(x, "swap 3 0", x.swap(3, 0), 1);
        Due.refused(x, "swap -1 0", x.swap(-1, 0), 1);
        Due.refused(x, "swap 0 -1", x.swap(0, -1), 1);
        Due.words(x, "swap refused", 0, 4, 2, 1);
        WheelDisc y = Due.ring("0011", 1, 3);
        y.swap(0, 1);
        Due.answer(y, "swap: place of 0", y.seen(0, 1), 3);
        Due.answer(y, "swap: place of 1", y.seen(1, 1), 1);
    }

    private static void undo12() {
        WheelDisc x = Due.ring("0011", 0, 1);
        Due.answer(x, "changes", x.count(4), 4);
        Due.answer(x, "undo", x.undo(), 3);
        Due.words(x, "undo of a reader", 0, 0, 1, 1);
        Due.answer(x, "undo", x.undo(), 2);
        Due.answer(x, "undo of a reader", x.count(2), 0);
        Due.answer(x, "undo", x.undo(), 1);
        Due.answer(x, "undo of a track", x.count(1), 0);
        Due.answer(x, "undo", x.undo(), 0);
        Due.answer(x, "undo of a disc", x.count(0), 1);
        Due.refused(x, "undo of none", x.undo(), 2);
        x.disc(5);
        x.disc(6);
        x.undo();
        x.disc(7);
        Due.answer(x, "undo, a change, undo", x.undo(), 1);
        Due.answer(x, "the latest that is not undone", x.count(0), 5);
    }

    private static void undoEachKindOfChange12() {
        for (int change = 0; change < 12; change++) {
            WheelDisc x = Due.disc("00011", "01100");
            x.reader(0, 2);
            x.rim(3, 0);
            int[] old = {x.word(0), x.word(1), x.word(2), x.word(3), x.word(4)};
            int had = x.count(4);
            if (change == 11) {
                x.single(6, 3, 7);
                Due.answer(x, "a search that finds none is no change", x.count(4), had);
            }
            makeChange(x, change);
            Due.answer(x, "change " + change, x.count(4), had + 1);
            Due.answer(x, "undo of change " + change, x.undo(), had);
            Due.words(x, "undo of change " + change, old);
            Due.answer(x, "undo: tracks", x.count(1), 2);
            Due.answer(x, "undo: readers", x.count(2), 3);
            Due.answer(x, "undo: place", x.seen(2, 1), 2);
        }
    }

    private static void makeChange(WheelDisc x, int change) {
        switch (change) {
            case 0: x.disc(9); break;
            case 1: x.track(); break;
            case 2: x.light(1, 4, true); break;
            case 3: x.reader(1, 1); break;
            case 4: x.lift(0); break;
            case 5: x.turn(3); break;
            case 6: x.mirror(); break;
            case 7: x.swap(0, 2); break;
            case 8: x.gray(6, 4); break;
            case 9: x.chain(4, 9); break;
            case 10: x.single(6, 3, 8); break;
            default: x.go(1); break;
        }
    }

    private static void onlyThirtyAreUndone12() {
        WheelDisc x = new WheelDisc();
        for (int n = 1; n <= 35; n++) {
            x.disc(n);
            Due.answer(x, "changes that can be undone", x.count(4), Math.min(n, 30));
        }
        for (int left = 29; left >= 0; left--) {
            Due.answer(x, "undo", x.undo(), left);
            Due.answer(x, "undo: sectors", x.count(0), left + 5);
        }
        Due.refused(x, "undo of the 31st", x.undo(), 2);
        Due.answer(x, "it stays", x.count(0), 5);
        x.disc(40);
        Due.answer(x, "a change behind", x.count(4), 1);
        Due.answer(x, "undo behind", x.undo(), 0);
        Due.answer(x, "undo behind: sectors", x.count(0), 5);
    }

    private static void undoTouchesTheDiscAlone12() {
        WheelDisc x = Due.ring("0011", 0, 1);
        x.drive(1);
        x.tell(2);
        x.keep();
        x.rim(0, 3);
        x.undo();
        Due.answer(x, "undo: drive stays", x.count(5), 1);
        Due.answer(x, "undo: list stays", x.count(6), 1);
        Due.answer(x, "undo: rim stays", x.count(7), 3);
        Due.no(x, "undo: what is kept stays", x.same());
        x.reader(0, 1);
        Due.yes(x, "undo: what is kept stays", x.same());
        x.track();
        x.undo();
        Due.answer(x, "undo of a track: no rim", x.count(7), WheelDisc.NONE);
    }
}
