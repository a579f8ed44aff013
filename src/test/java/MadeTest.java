/** Promises 26 to 29. */
public final class MadeTest {
    private static final int LEAST = Integer.MIN_VALUE;
    private static final int MOST = Integer.MAX_VALUE;

    public static void main(String[] args) {
        gray26();
        chain27();
        chainIsTheLeast27();
        single28();
        singleIsRefused28();
        steps28();
        go29();
        allSingles29();
        Due.end();
    }

    private static void gray26() {
        int[][] fits = {{4, 2}, {4, 10}, {6, 3}, {6, 7}, {8, 3}, {10, 4}, {62, 6}, {360, 9}, {512, 9}, {512, 10}};
        for (int[] f : fits) {
            WheelDisc x = Due.ring("011", 1);
            Due.yes(x, "gray " + f[0] + " " + f[1], x.gray(f[0], f[1]));
            int all = 1;
            while (all < f[0]) {
                all *= 2;
            }
            Due.answer(x, "gray: sectors", x.count(0), f[0]);
            Due.answer(x, "gray: tracks", x.count(1), f[1]);
            Due.answer(x, "gray: readers", x.count(2), f[1]);
            Due.answer(x, "gray: kind", x.count(3), 2);
            for (int s = 0; s < Math.min(f[0], 200); s++) {
                int i = (all - f[0]) / 2 + s;
                Due.is("gray: word " + s, x.word(s), i ^ (i / 2));
            }
            for (int r = 0; r < f[1]; r++) {
                Due.answer(x, "gray: track of a reader", x.seen(r, 0), r);
                Due.answer(x, "gray: place of a reader", x.seen(r, 1), 0);
            }
        }
        WheelDisc x = new WheelDisc();
        int[][] wrong = {{5, 3}, {2, 2}, {0, 2}, {-4, 2}, {514, 10}, {LEAST, 4}, {MOST, 4}, {4, 1}, {4, 0}, {4, -1},
            {4, 11}, {4, 32}, {4, MOST}, {6, 2}, {10, 3}, {258, 8}, {512, 8}, {4, LEAST}};
        for (int[] w : wrong) {
            Due.refused(x, "gray " + w[0] + " " + w[1], x.gray(w[0], w[1]), 1);
        }
        Due.answer(x, "gray refused is no change", x.count(4), 0);
    }

    private static void chain27() {
        for (int r = 1; r <= 9; r++) {
            String least = leastChain(r);
            int n = 1 << r;
            int[] words = {0, 1, n / 2, n / 3, n - 2, n - 1};
            for (int word : words) {
                WheelDisc x = Due.ring("011", 1);
                Due.yes(x, "chain " + r + " " + word, x.chain(r, word));
                Due.answer(x, "chain: sectors", x.count(0), n);
                Due.answer(x, "chain: tracks", x.count(1), 1);
                Due.answer(x, "chain: readers", x.count(2), r);
                Due.answer(x, "chain: kind", x.count(3), r < 3 ? 3 : 4);
                Due.answer(x, "chain: word at stand 0", x.word(0), word);
                for (int i = 0; i < r; i++) {
                    Due.answer(x, "chain: track", x.seen(i, 0), 0);
                    Due.answer(x, "chain: place", x.seen(i, 1), i);
                }
                int zero = x.at(0, 0);
                for (int s = 0; s < Math.min(n, 400); s++) {
                    int light = x.word((zero + s) % n) >> (r - 1);
                    Due.is("chain " + r + ": light " + s, light, least.charAt(s) - '0');
                }
            }
        }
        WheelDisc x = new WheelDisc();
        int[][] wrong = {{0, 0}, {-1, 0}, {10, 0}, {31, 0}, {32, 0}, {33, 1}, {LEAST, 0}, {MOST, 0}, {1, 2}, {3, 8},
            {9, 512}, {3, -1}, {3, LEAST}, {3, MOST}};
        for (int[] w : wrong) {
            Due.refused(x, "chain " + w[0] + " " + w[1], x.chain(w[0], w[1]), 1);
        }
        Due.answer(x, "chain refused is no change", x.count(4), 0);
    }

    /** The rows that no turning makes less and that don't repeat, of lengths that divide r, in order, joined. */
    private static String leastChain(int r) {
        java.util.TreeSet<String> parts = new java.util.TreeSet<>();
        for (int length = 1; length <= r; length++) {
            for (int v = 0; r % length == 0 && v < 1 << length; v++) {
                String part = Integer.toBinaryString((1 << length) | v).substring(1);
                boolean isLeast = true;
                for (int k = 1; k < length; k++) {
                    isLeast = isLeast && part.compareTo(part.substring(k) + part.substring(0, k)) < 0;
                }
                if (isLeast) {
                    parts.add(part);
                }
            }
        }
        return String.join("", parts);
    }

    /** For few bits all rings are gone over. */
    private static void chainIsTheLeast27() {
        for (int r = 1; r <= 4; r++) {
            int n = 1 << r;
            int least = 0;
            while (!hasEachWord(least, r, n)) {
                least++;
            }
            WheelDisc x = new WheelDisc();
            x.chain(r, 0);
            int got = 0;
            for (int s = 0; s < n; s++) {
                got = got * 2 + (x.word(s) >> (r - 1));
            }
            Due.is("chain " + r + " as a number", got, least);
        }
    }

    private static boolean hasEachWord(int ring, int r, int n) {
        int had = 0;
        for (int s = 0; s < n; s++) {
            int word = 0;
            for (int i = 0; i < r; i++) {
                word = word * 2 + (ring >> (n - 1 - (s + i) % n) & 1);
            }
            had |= 1 << word;
        }
        return Integer.bitCount(had) == n;
    }

    private static void single28() {
        WheelDisc x = new WheelDisc();
        Due.answer(x, "single: steps that don't reach it", x.single(6, 3, 7), WheelDisc.SPENT);
        Due.answer(x, "no change", x.count(4), 0);
        Due.answer(x, "single: steps that just reach it", x.single(6, 3, 8), 1);
        Due.words(x, "single", 1, 3, 2, 6, 4, 5);
        Due.answer(x, "single: kind", x.count(3), 3);
        Due.answer(x, "single: tracks", x.count(1), 1);
        for (int r = 0; r < 3; r++) {
            Due.answer(x, "single: place", x.seen(r, 1), 2 * r);
        }
        Due.answer(x, "single: one change", x.count(4), 1);
        Due.answer(x, "single: none of two sectors", x.single(2, 2, 2000000), 0);
        Due.answer(x, "single: all steps gone", x.single(4, 2, 16), 0);
        Due.refused(x, "it ended", x.go(1), 2);
        Due.answer(x, "single: one step less", x.single(4, 2, 15), WheelDisc.SPENT);
        Due.answer(x, "single: the last step", x.go(1), 0);
        Due.answer(x, "single: no steps", x.single(20, 5, 0), WheelDisc.SPENT);
        Due.answer(x, "the disc stays", x.count(0), 6);
    }

    private static void singleIsRefused28() {
        WheelDisc x = new WheelDisc();
        x.single(6, 3, 0);
        int[][] wrong = {{5, 2, 1}, {1, 2, 1}, {0, 2, 1}, {-2, 2, 1}, {21, 3, 1}, {22, 2, 1}, {4, 1, 1}, {4, 0, 1},
            {4, -2, 1}, {6, 6, 1}, {20, 10, 1}, {4, 2, -1}, {4, 2, 2000001}, {4, 2, MOST}, {4, 2, LEAST}, {7, 3, 1},
            {LEAST, 2, 1}, {4, LEAST, 1}, {LEAST, -1, 1}};
        for (int[] w : wrong) {
            Due.refused(x, "single " + w[0] + " " + w[1] + " " + w[2], x.single(w[0], w[1], w[2]), 1);
        }
        Due.answer(x, "the search ahead goes on", x.go(8), 1);
    }

    private static void steps28() {
        WheelDisc x = new WheelDisc();
        Due.answer(x, "steps", x.single(4, 2, 2000000), 0);
        Due.answer(x, "steps", x.single(6, 3, 1999990), 1);
        Due.refused(x, "too many steps", x.single(8, 2, 11), 4);
        Due.refused(x, "too many steps", x.go(11), 4);
        Due.refused(x, "too many steps, other numbers: the least fault", x.single(5, 2, 2000000), 1);
        Due.refused(x, "refused steps don't count", x.go(2000000), 4);
        Due.answer(x, "just as many as there are", x.go(10), WheelDisc.SPENT);
        Due.refused(x, "not one more", x.go(1), 4);
        Due.refused(x, "not one more", x.single(4, 2, 1), 4);
        Due.answer(x, "none at all", x.go(0), WheelDisc.SPENT);
        Due.answer(x, "none at all", x.single(4, 2, 0), WheelDisc.SPENT);
    }

    private static void go29() {
        WheelDisc x = new WheelDisc();
        Due.refused(x, "go: no search", x.go(5), 2);
        Due.refused(x, "go: no search, other number: the least fault", x.go(-1), 1);
        Due.refused(x, "go: no search, other number: the least fault", x.go(2000001), 1);
        x.single(6, 3, 3);
        Due.refused(x, "go -1", x.go(-1), 1);
        Due.refused(x, "go least", x.go(LEAST), 1);
        Due.refused(x, "go 2000001", x.go(2000001), 1);
        Due.answer(x, "go 0", x.go(0), WheelDisc.SPENT);
        Due.answer(x, "go to the one ahead of it", x.go(4), WheelDisc.SPENT);
        Due.answer(x, "go 0", x.go(0), WheelDisc.SPENT);
        x.disc(9);
        Due.answer(x, "go: another disc doesn't matter", x.go(1), 1);
        Due.answer(x, "go: kind", x.count(3), 3);
        Due.answer(x, "go: sectors", x.count(0), 6);
        x.undo();
        Due.answer(x, "undo: the disc ahead", x.count(0), 9);
        Due.answer(x, "go on behind it, not again", x.go(55), WheelDisc.SPENT);
        Due.answer(x, "go: the last step", x.go(1), 0);
        Due.refused(x, "go: it ended", x.go(1), 2);
        Due.refused(x, "go: it ended", x.go(0), 2);
        Due.refused(x, "go: it ended, other number", x.go(-1), 1);
        x.single(6, 3, 1);
        Due.answer(x, "the latest search", x.go(7), 1);
    }

    /** Every SINGLE of every search, against the rule taken at its word. */
    private static void allSingles29() {
        for (int n = 2; n <= 20; n++) {
            for (int r = 2; r <= 5; r++) {
                if (n % r == 0) {
                    allSinglesOf(n, r);
                }
            }
        }
    }

    private static void allSinglesOf(int n, int r) {
        WheelDisc x = new WheelDisc();
        String search = n + " " + r + ": ";
        Due.answer(x, search + "begun", x.single(n, r, 0), WheelDisc.SPENT);
        int gone = 0;
        for (int number = 0; number < 1 << n; number++) {
            if (isSingle(number, n, r)) {
                Due.answer(x, search + "to the one ahead of " + number, x.go(number - gone), WheelDisc.SPENT);
                Due.answer(x, search + number, x.go(1), 1);
                gone = number + 1;
                for (int s = 0; s < n; s++) {
                    Due.is(search + number + ": word " + s, x.word(s), word(number, n, r, s));
                }
            }
        }
        Due.answer(x, search + "to the last but one", x.go((1 << n) - gone - 1), WheelDisc.SPENT);
        Due.answer(x, search + "to the last", x.go(1), 0);
    }

    private static int word(int number, int n, int r, int stand) {
        int word = 0;
        for (int i = 0; i < r; i++) {
            word = word * 2 + (number >> (n - 1 - (stand + i * (n / r)) % n) & 1);
        }
        return word;
    }

    private static boolean isSingle(int number, int n, int r) {
        for (int s = 0; s < n; s++) {
            if (Integer.bitCount(word(number, n, r, s) ^ word(number, n, r, (s + 1) % n)) != 1) {
                return false;
            }
            int turned = (number << s | number >> (n - s)) & ((1 << n) - 1);
            if (turned < number) {
                return false;
            }
            for (int t = 0; t < s; t++) {
                if (word(number, n, r, s) == word(number, n, r, t)) {
                    return false;
                }
            }
        }
        return true;
    }
}
