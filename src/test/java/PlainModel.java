import java.util.ArrayDeque;
import java.util.ArrayList;
import java.util.Arrays;
import java.util.Deque;
import java.util.HashSet;
import java.util.List;
import java.util.Set;
import java.util.TreeSet;

/** The document taken at its word, without regard to speed: what RandomRunsTest compares the class with. */
final class PlainModel {
    record Reader(int track, int place) {
    }

    record Disc(int n, List<boolean[]> tracks, List<Reader> readers) {
        Disc copy() {
            List<boolean[]> copied = new ArrayList<>();
            for (boolean[] track : tracks) {
                copied.add(track.clone());
            }
            return new Disc(n, copied, new ArrayList<>(readers));
        }

        boolean sees(int reader, int stand) {
            Reader r = readers.get(reader);
            return tracks.get(r.track())[(stand + r.place()) % n];
        }

        int word(int stand) {
            int word = 0;
            for (int r = 0; r < readers.size(); r++) {
                word = word * 2 + (sees(r, stand) ? 1 : 0);
            }
            return word;
        }

        int[] words() {
            int[] words = new int[n];
            Arrays.setAll(words, this::word);
            return words;
        }
    }

    private static final int NONE = -1;

    int fault = 0;
    private Disc disc = emptyDisc(1);
    private final Deque<Disc> undos = new ArrayDeque<>();
    private int rimKind = -1;
    private long[] rimRow = new long[0];
    private int[] keptForm = null;
    private int keptReaders = 0;
    private final List<Integer> drive = new ArrayList<>();
    private final List<Integer> list = new ArrayList<>();
    private int searchSectors = 0;
    private int searchReaders = 0;
    private int searchAt = 0;
    private boolean searchGoes = false;
    private int stepsAsked = 0;

    private static Disc emptyDisc(int n) {
        return new Disc(n, new ArrayList<>(), new ArrayList<>());
    }

    /** How many readers: the model's form goes over all their orders. */
    int readers() {
        return disc.readers().size();
    }

    int sectors() {
        return disc.n();
    }

    private int no(int why) {
        fault = why;
        return NONE;
    }

    private long deny(int why) {
        fault = why;
        return 0;
    }

    private void change() {
        undos.addLast(disc);
        if (undos.size() > 30) {
            undos.removeFirst();
        }
        disc = disc.copy();
    }

    private boolean isTrack(int t) {
        return t >= 0 && t < disc.tracks().size();
    }

    private boolean isStand(int s) {
        return s >= 0 && s < disc.n();
    }

    private boolean isReader(int r) {
        return r >= 0 && r < disc.readers().size();
    }

    long rim(int kind, int m) {
        if (kind != 3 && (kind < 0 || kind > 3 || m > 64)) {
            return no(1);
        }
        if (kind != 3 && m < 0) {
            return no(3);
        }
        rimKind = kind;
        rimRow = new long[kind == 3 ? 0 : m];
        return rimRow.length;
    }

    long entry(int i, long v) {
        if (rimKind == -1 || rimKind == 3) {
            return deny(2);
        }
        if (i < 0 || i >= rimRow.length) {
            return deny(1);
        }
        rimRow[i] = rimKind == 0 ? v & 0xFF : rimKind == 1 ? v & 0xFFFF : v;
        return 1;
    }

    long disc(int n) {
        if (n < 1 || n > 512) {
            return deny(1);
        }
        change();
        disc = emptyDisc(n);
        return 1;
    }

    long track() {
        if (rimKind == -1) {
            return no(2);
        }
        if (disc.tracks().size() == 10) {
            return no(4);
        }
        change();
        int width = rimKind == 0 ? 8 : rimKind == 1 ? 16 : 64;
        boolean[] lights = new boolean[disc.n()];
        for (int s = 0; s < lights.length; s++) {
            lights[s] = s / width < rimRow.length && (rimRow[s / width] >>> (s % width)) % 2 != 0;
        }
        disc.tracks().add(lights);
        rimKind = -1;
        return disc.tracks().size() - 1;
    }

    long light(int track, int sector, boolean is) {
        if (!isTrack(track) || !isStand(sector)) {
            return no(1);
        }
        change();
        boolean was = disc.tracks().get(track)[sector];
        disc.tracks().get(track)[sector] = is;
        return was ? 1 : 0;
    }

    long reader(int track, int place) {
        if (!isTrack(track) || !isStand(place)) {
            return no(1);
        }
        if (readers() == 10) {
            return no(4);
        }
        change();
        disc.readers().add(new Reader(track, place));
        return readers() - 1;
    }

    long lift(int reader) {
        if (!isReader(reader)) {
            return no(1);
        }
        change();
        disc.readers().remove(reader);
        return readers();
    }

    long turn(int k) {
        change();
        for (boolean[] track : disc.tracks()) {
            boolean[] old = track.clone();
            for (int s = 0; s < old.length; s++) {
                track[s] = old[(int) Math.floorMod((long) s + k, (long) old.length)];
            }
        }
        return 1;
    }

    long mirror() {
        change();
        int n = disc.n();
        for (boolean[] track : disc.tracks()) {
            boolean[] old = track.clone();
            for (int s = 0; s < n; s++) {
                track[s] = old[n - 1 - s];
            }
        }
        disc.readers().replaceAll(r -> new Reader(r.track(), (n - r.place()) % n));
        return 1;
    }

    long swap(int a, int b) {
        if (!isReader(a) || !isReader(b)) {
            return deny(1);
        }
        change();
        java.util.Collections.swap(disc.readers(), a, b);
        return 1;
    }

    long undo() {
        if (undos.isEmpty()) {
            return no(2);
        }
        disc = undos.removeLast();
        return undos.size();
    }

    long count(int what) {
        return switch (what) {
            case 0 -> disc.n();
            case 1 -> disc.tracks().size();
            case 2 -> readers();
            case 3 -> kind(disc);
            case 4 -> undos.size();
            case 5 -> drive.size();
            case 6 -> list.size();
            case 7 -> rimKind == -1 ? NONE : rimRow.length;
            default -> no(1);
        };
    }

    private static boolean isTrue(int[] words) {
        Set<Integer> had = new HashSet<>();
        for (int word : words) {
            if (!had.add(word)) {
                return false;
            }
        }
        return true;
    }

    private static int kind(Disc disc) {
        int n = disc.n();
        int[] words = disc.words();
        if (!isTrue(words)) {
            return 0;
        }
        boolean isStep = n >= 2;
        for (int s = 0; s < n; s++) {
            isStep = isStep && Integer.bitCount(words[s] ^ words[(s + 1) % n]) == 1;
        }
        boolean isOne = disc.tracks().size() == 1;
        boolean follows = true;
        for (int r = 1; r < disc.readers().size(); r++) {
            int due = (disc.readers().get(r - 1).place() + 1) % n;
            follows = follows && disc.readers().get(r).place() == due;
        }
        return isStep && isOne ? 3 : isOne && follows ? 4 : isStep ? 2 : 1;
    }

    long word(int stand) {
        return isStand(stand) ? disc.word(stand) : no(1);
    }

    long seen(int reader, int what) {
        if (!isReader(reader) || what < 0 || what > 3) {
            return no(1);
        }
        int n = disc.n();
        if (what < 2) {
            return what == 0 ? disc.readers().get(reader).track() : disc.readers().get(reader).place();
        }
        int changes = 0;
        int shortest = n;
        for (int s = 0; s < n; s++) {
            if (disc.sees(reader, s) != disc.sees(reader, (s + n - 1) % n)) {
                changes++;
                int length = 1;
                while (disc.sees(reader, (s + length) % n) == disc.sees(reader, s)) {
                    length++;
                }
                shortest = Math.min(shortest, length);
            }
        }
        return what == 2 ? changes : shortest;
    }

    private List<Integer> standsWith(int word) {
        List<Integer> stands = new ArrayList<>();
        for (int s = 0; s < disc.n(); s++) {
            if (disc.word(s) == word) {
                stands.add(s);
            }
        }
        return stands;
    }

    long where(int word) {
        return standsWith(word).size();
    }

    long at(int word, int i) {
        List<Integer> stands = standsWith(word);
        return i >= 0 && i < stands.size() ? stands.get(i) : no(1);
    }

    private List<Integer> edgeWords(int stand) {
        TreeSet<Integer> words = new TreeSet<>();
        words.add(0);
        for (int r = 0; r < readers(); r++) {
            TreeSet<Integer> longer = new TreeSet<>();
            for (int word : words) {
                longer.add(word * 2 + (disc.sees(r, stand) ? 1 : 0));
                longer.add(word * 2 + (disc.sees(r, (stand + 1) % disc.n()) ? 1 : 0));
            }
            words = longer;
        }
        return new ArrayList<>(words);
    }

    long edge(int stand) {
        return isStand(stand) ? edgeWords(stand).size() : no(1);
    }

    long way(int stand, int i) {
        if (!isStand(stand) || i < 0 || i >= edgeWords(stand).size()) {
            return no(1);
        }
        return edgeWords(stand).get(i);
    }

    long fewest() {
        int[] words = disc.words();
        int fewest = Integer.MAX_VALUE;
        for (int a = 0; a < words.length; a++) {
            for (int b = 0; b < a; b++) {
                fewest = Math.min(fewest, Integer.bitCount(words[a] ^ words[b]));
            }
        }
        return words.length == 1 ? NONE : fewest;
    }

    private boolean isTrueWithout(Set<Integer> left) {
        Disc less = disc.copy();
        for (int r = readers() - 1; r >= 0; r--) {
            if (left.contains(r)) {
                less.readers().remove(r);
            }
        }
        return isTrue(less.words());
    }

    private long asBits(Set<Integer> left) {
        long bits = 0;
        for (int r : left) {
            bits |= 1L << (readers() - 1 - r);
        }
        return bits;
    }

    long blind() {
        Set<Integer> left = new HashSet<>();
        for (int r = 0; r < readers(); r++) {
            if (kind(disc) != 0 && isTrueWithout(Set.of(r))) {
                left.add(r);
            }
        }
        return asBits(left);
    }

    long spare() {
        Set<Integer> left = new HashSet<>();
        for (int r = readers() - 1; r >= 0; r--) {
            left.add(r);
            if (!isTrueWithout(left)) {
                left.remove(r);
            }
        }
        return asBits(left);
    }

    private int[] form() {
        List<int[]> orders = new ArrayList<>();
        addOrders(new int[readers()], 0, orders);
        int[] words = disc.words();
        int n = words.length;
        int[] least = null;
        for (int[] order : orders) {
            for (int start = 0; start < n; start++) {
                for (int step = -1; step <= 1; step += 2) {
                    int[] row = new int[n];
                    for (int i = 0; i < n; i++) {
                        int word = words[Math.floorMod(start + i * step, n)];
                        for (int bit : order) {
                            row[i] = row[i] * 2 + (word >> bit & 1);
                        }
                    }
                    if (least == null || Arrays.compare(row, least) < 0) {
                        least = row;
                    }
                }
            }
        }
        return least;
    }

    private static void addOrders(int[] order, int length, List<int[]> orders) {
        if (length == order.length) {
            orders.add(order.clone());
            return;
        }
        for (int bit = 0; bit < order.length; bit++) {
            boolean isNew = true;
            for (int i = 0; i < length; i++) {
                isNew = isNew && order[i] != bit;
            }
            if (isNew) {
                order[length] = bit;
                addOrders(order, length + 1, orders);
            }
        }
    }

    long form(int i) {
        return isStand(i) ? form()[i] : no(1);
    }

    long keep() {
        keptForm = form();
        keptReaders = readers();
        return 1;
    }

    long same() {
        if (keptForm == null) {
            return deny(2);
        }
        return keptReaders == readers() && Arrays.equals(keptForm, form()) ? 1 : 0;
    }

    long gray(int n, int r) {
        if (n % 2 != 0 || n < 4 || n > 512 || r < 2 || r > 10 || (1 << r) < n) {
            return deny(1);
        }
        change();
        disc = emptyDisc(n);
        int k = 0;
        while (1 << k < n) {
            k++;
        }
        for (int i = 0; i < r; i++) {
            boolean[] lights = new boolean[n];
            for (int s = 0; s < n; s++) {
                int v = ((1 << k) - n) / 2 + s;
                lights[s] = ((v ^ (v >> 1)) >> (r - 1 - i)) % 2 != 0;
            }
            disc.tracks().add(lights);
            disc.readers().add(new Reader(i, 0));
        }
        return 1;
    }

    long chain(int r, int word) {
        if (r < 1 || r > 9 || word < 0 || word >= 1 << r) {
            return deny(1);
        }
        change();
        disc = emptyDisc(1 << r);
        StringBuilder joined = new StringBuilder();
        for (int v = 0; v < 1 << r; v++) {
            String row = Integer.toBinaryString((1 << r) | v).substring(1);
            int period = r;
            boolean isLeast = true;
            for (int k = r - 1; k > 0; k--) {
                int compared = row.compareTo(row.substring(k) + row.substring(0, k));
                isLeast = isLeast && compared <= 0;
                period = compared == 0 ? k : period;
            }
            if (isLeast) {
                joined.append(row, 0, period);
            }
        }
        int start = (joined.toString() + joined).indexOf(Integer.toBinaryString((1 << r) | word).substring(1));
        boolean[] lights = new boolean[1 << r];
        for (int s = 0; s < lights.length; s++) {
            lights[s] = joined.charAt((start + s) % lights.length) == '1';
        }
        disc.tracks().add(lights);
        for (int i = 0; i < r; i++) {
            disc.readers().add(new Reader(0, i));
        }
        return 1;
    }

    long single(int n, int r, int steps) {
        if (n < 2 || n > 20 || r < 2 || r > 5 || n % r != 0 || steps < 0 || steps > 2000000) {
            return no(1);
        }
        if (stepsAsked + steps > 4000000) {
            return no(4);
        }
        searchSectors = n;
        searchReaders = r;
        searchAt = 0;
        searchGoes = true;
        return searchOn(steps);
    }

    long go(int steps) {
        if (steps < 0 || steps > 2000000) {
            return no(1);
        }
        if (!searchGoes) {
            return no(2);
        }
        if (stepsAsked + steps > 4000000) {
            return no(4);
        }
        return searchOn(steps);
    }

    private long searchOn(int steps) {
        stepsAsked += steps;
        for (int step = 0; step < steps && searchAt < 1 << searchSectors; step++) {
            int number = searchAt++;
            if (isLeastTurned(number, searchSectors) && kind(singleDisc(number)) == 3) {
                change();
                disc = singleDisc(number);
                return 1;
            }
        }
        searchGoes = searchAt < 1 << searchSectors;
        return searchGoes ? -2 : 0;
    }

    private static boolean isLeastTurned(int number, int n) {
        for (int k = 1; k < n; k++) {
            if ((((number << k) | (number >> (n - k))) & ((1 << n) - 1)) < number) {
                return false;
            }
        }
        return true;
    }

    private Disc singleDisc(int number) {
        int n = searchSectors;
        Disc made = emptyDisc(n);
        boolean[] lights = new boolean[n];
        for (int s = 0; s < n; s++) {
            lights[s] = (number >> (n - 1 - s)) % 2 != 0;
        }
        made.tracks().add(lights);
        for (int i = 0; i < searchReaders; i++) {
            made.readers().add(new Reader(0, i * (n / searchReaders)));
        }
        return made;
    }

    long drive(int word) {
        if (drive.size() == 2000) {
            return no(4);
        }
        drive.add(word);
        return drive.size();
    }

    long halt() {
        int had = drive.size();
        drive.clear();
        return had;
    }

    private TreeSet<Integer> standsBehind(int i) {
        int n = disc.n();
        TreeSet<Integer> stands = new TreeSet<>(standsWith(drive.get(0)));
        for (int j = 1; j <= i; j++) {
            TreeSet<Integer> next = new TreeSet<>();
            for (int s : standsWith(drive.get(j))) {
                if (stands.contains(s) || stands.contains((s + 1) % n) || stands.contains((s + n - 1) % n)) {
                    next.add(s);
                }
            }
            stands = next;
        }
        return stands;
    }

    long slip() {
        for (int i = 0; i < drive.size(); i++) {
            if (standsBehind(i).isEmpty()) {
                return i;
            }
        }
        return NONE;
    }

    long stands(int i) {
        return i >= 0 && i < drive.size() ? standsBehind(i).size() : no(1);
    }

    long stand(int i) {
        if (i < 0 || i >= drive.size() || standsBehind(i).isEmpty()) {
            return no(1);
        }
        return standsBehind(i).first();
    }

    long mend() {
        int slip = (int) slip();
        if (slip == NONE) {
            return NONE;
        }
        int n = disc.n();
        int from = slip == 0 ? 0 : standsBehind(slip - 1).first();
        List<int[]> ranked = new ArrayList<>();
        for (int s = 0; s < n; s++) {
            int way = Math.min(Math.floorMod(s - from, n), Math.floorMod(from - s, n));
            ranked.add(new int[] {Integer.bitCount(disc.word(s) ^ drive.get(slip)), way, s});
        }
        ranked.sort(Arrays::compare);
        return ranked.get(0)[2];
    }

    long tell(int word) {
        if (list.size() == 512) {
            return no(4);
        }
        list.add(word);
        return list.size();
    }

    long forge(int i, int b) {
        if (i < 0 || i >= list.size() || b < 0 || b > 31) {
            return deny(1);
        }
        list.set(i, list.get(i) ^ (1 << b));
        return 1;
    }

    long check(int what) {
        if (what != 1 && what != 2) {
            return no(1);
        }
        if (list.isEmpty()) {
            return no(2);
        }
        for (int i = 0; i < list.size(); i++) {
            int ahead = list.get((i + list.size() - 1) % list.size());
            boolean isLike = list.subList(0, i).contains(list.get(i));
            if (isLike || what == 2 && Integer.bitCount(list.get(i) ^ ahead) != 1) {
                return i;
            }
        }
        return NONE;
    }

    long clear() {
        int had = list.size();
        list.clear();
        return had;
    }
}
