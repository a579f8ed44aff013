import java.util.Arrays;
import java.util.Random;

/**
 * Promises 23 and 25 on drawn discs (always the same) of up to ten readers and 512 sectors, many of which repeat
 * themselves. Where the first stand and the way round are chosen, the least row is that of the readers sorted by all
 * that each sees, so no order of readers has to be tried.
 */
public final class FormsTest {
    private static final int MOST_SECTORS = 512;
    private static final int LONGS = MOST_SECTORS / 64;

    private final Random random;
    private final String name;
    private final WheelDisc x = new WheelDisc();
    private final int n;
    private final int period;

    private FormsTest(long seed, int mostRounds) {
        this.random = new Random(seed);
        this.period = 1 + random.nextInt(13);
        this.n = Math.min(MOST_SECTORS, period * (1 + random.nextInt(mostRounds)));
        this.name = "disc " + seed + " of " + n + " sectors, ";
    }

    public static void main(String[] args) {
        for (int seed = 0; seed < 1200; seed++) {
            FormsTest test = new FormsTest(seed, seed % 30 == 0 ? 45 : 6);
            test.draw();
            test.promise23_theLeastRow();
            test.promise25_turnedMirroredExchanged();
            test.promise25_anotherLight();
        }
        Due.end();
    }

    private void draw() {
        int readers = random.nextInt(11);
        int tracks = 1 + random.nextInt(Math.max(1, readers));
        boolean repeats = random.nextInt(4) != 0;
        x.disc(n);
        for (int t = 0; t < tracks; t++) {
            drawTrack(repeats);
        }
        for (int r = 0; r < readers; r++) {
            int place = random.nextBoolean() ? random.nextInt(n) : r * (n / readers);
            x.reader(random.nextInt(tracks), place);
        }
    }

    private void drawTrack(boolean repeats) {
        long[] entries = new long[LONGS];
        int beginning = random.nextInt() & random.nextInt();
        for (int s = 0; s < n; s++) {
            boolean isLight = repeats ? (beginning >> (s % period) & 1) != 0 : random.nextInt(3) == 0;
            entries[s / 64] |= isLight ? 1L << (s % 64) : 0;
        }
        x.rim(2, LONGS);
        for (int i = 0; i < LONGS; i++) {
            x.entry(i, entries[i]);
        }
        x.track();
    }

    private int[] words() {
        int[] words = new int[n];
        Arrays.setAll(words, x::word);
        return words;
    }

    private int[] leastRow() {
        int[] words = words();
        int[] least = null;
        for (int start = 0; start < n; start++) {
            for (int step = -1; step <= 1; step += 2) {
                int[] row = leastOrder(words, start, step);
                if (least == null || Arrays.compare(row, least) < 0) {
                    least = row;
                }
            }
        }
        return least;
    }

    private int[] leastOrder(int[] words, int start, int step) {
        String[] sights = new String[x.count(2)];
        for (int bit = 0; bit < sights.length; bit++) {
            StringBuilder sight = new StringBuilder();
            for (int i = 0; i < n; i++) {
                sight.append(words[Math.floorMod(start + i * step, n)] >> bit & 1);
            }
            sights[bit] = sight.toString();
        }
        Arrays.sort(sights);
        int[] row = new int[n];
        for (int i = 0; i < n; i++) {
            for (String sight : sights) {
                row[i] = row[i] * 2 + (sight.charAt(i) - '0');
            }
        }
        return row;
    }

    private int[] form() {
        int[] form = new int[n];
        Arrays.setAll(form, x::form);
        return form;
    }

    private void promise23_theLeastRow() {
        Due.same("23 form: " + name, Arrays.toString(form()), Arrays.toString(leastRow()));
    }

    private void promise25_turnedMirroredExchanged() {
        x.keep();
        x.turn(random.nextInt());
        Due.yes(x, "25 same: " + name + "turned", x.same());
        x.mirror();
        Due.yes(x, "25 same: " + name + "mirrored", x.same());
        if (x.count(2) > 0) {
            x.swap(0, x.count(2) - 1);
            Due.yes(x, "25 same: " + name + "readers exchanged", x.same());
        }
    }

    private void promise25_anotherLight() {
        String kept = Arrays.toString(leastRow());
        int sector = random.nextInt(n);
        x.light(0, sector, random.nextBoolean());
        boolean isAlike = kept.equals(Arrays.toString(leastRow()));
        Due.answer(x, "25 same: " + name + "another light", x.same() ? 1 : 0, isAlike ? 1 : 0);
    }
}
