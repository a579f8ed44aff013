import java.util.Arrays;

/** Discs with tracks of light and dark, whose readers tell where a wheel stands. */
public final class WheelDisc {
    public static final int NONE = -1;
    public static final int SPENT = -2;

    private static final int FINE = 0;
    private static final int NO_SUCH = 1;
    private static final int NOTHING = 2;
    private static final int BELOW_ZERO = 3;
    private static final int FULL = 4;

    private static final int MOST_SECTORS = 512;
    private static final int MOST_TRACKS = 10;
    private static final int MOST_READERS = 10;

    private static final int KIND_DISC = 0;
    private static final int KIND_TRUE = 1;
    private static final int KIND_STEP = 2;
    private static final int KIND_SINGLE = 3;
    private static final int KIND_CHAIN = 4;

    private final Rim currentRim = new Rim();
    private final Disc currentDisc = new Disc();
    private final History history = new History();
    private final View view = new View();
    private final Form currentForm = new Form();
    private final Form keptForm = new Form();
    private final Search search = new Search();
    private final Drive currentDrive = new Drive();
    private final WordList list = new WordList();
    private final Marks chainMarks = new Marks();
    private final long[] turnRow = new long[Disc.LONGS_OF_TRACK];
    private boolean isKept = false;
    private int latestFault = FINE;

    public WheelDisc() {
    }

    // ---- rims, discs

    public int rim(int kind, int m) {
        if (kind == Rim.MISSING) {
            currentRim.become(Rim.MISSING, 0);
            return accept(0);
        }
        if (kind < Rim.BYTES || kind > Rim.LONGS || m > Rim.MOST_ENTRIES) {
            return refuse(NO_SUCH);
        }
        if (m < 0) {
            return refuse(BELOW_ZERO);
        }
        currentRim.become(kind, m);
        return accept(m);
    }

    public boolean entry(int i, long v) {
        if (!currentRim.hasRow()) {
            return deny(NOTHING);
        }
        if (i < 0 || i >= currentRim.size) {
            return deny(NO_SUCH);
        }
        currentRim.entries[i] = v;
        return grant(true);
    }

    public boolean disc(int n) {
        if (n < 1 || n > MOST_SECTORS) {
            return deny(NO_SUCH);
        }
        beginChange();
        currentDisc.empty(n);
        return grant(true);
    }

    public int track() {
        if (!currentRim.isThere()) {
            return refuse(NOTHING);
        }
        if (currentDisc.tracks >= MOST_TRACKS) {
            return refuse(FULL);
        }
        beginChange();
        int number = currentDisc.addDarkTrack();
        for (int s = 0; s < currentDisc.sectors; s++) {
            currentDisc.setLight(number, s, currentRim.isLight(s));
        }
        currentRim.become(Rim.ABSENT, 0);
        return accept(number);
    }

    public int light(int track, int sector, boolean is) {
        if (!currentDisc.hasTrack(track) || !currentDisc.hasSector(sector)) {
            return refuse(NO_SUCH);
        }
        beginChange();
        boolean was = currentDisc.isLight(track, sector);
        currentDisc.setLight(track, sector, is);
        return accept(was ? 1 : 0);
    }

    public int reader(int track, int place) {
        if (!currentDisc.hasTrack(track) || !currentDisc.hasSector(place)) {
            return refuse(NO_SUCH);
        }
        if (currentDisc.readers >= MOST_READERS) {
            return refuse(FULL);
        }
        beginChange();
        return accept(currentDisc.addReader(track, place));
    }

    public int lift(int reader) {
        if (!currentDisc.hasReader(reader)) {
            return refuse(NO_SUCH);
        }
        beginChange();
        currentDisc.removeReader(reader);
        return accept(currentDisc.readers);
    }

    public boolean turn(int k) {
        beginChange();
        currentDisc.turnBy(currentDisc.standRound(k), turnRow);
        return grant(true);
    }

    public boolean mirror() {
        beginChange();
        currentDisc.mirrorAll(turnRow);
        return grant(true);
    }

    public boolean swap(int a, int b) {
        if (!currentDisc.hasReader(a) || !currentDisc.hasReader(b)) {
            return deny(NO_SUCH);
        }
        beginChange();
        currentDisc.swapReaders(a, b);
        return grant(true);
    }

    public int undo() {
        if (history.size == 0) {
            return refuse(NOTHING);
        }
        history.takeBack(currentDisc);
        outdate();
        return accept(history.size);
    }

    // ---- what is seen

    public int count(int what) {
        switch (what) {
            case 0: return accept(currentDisc.sectors);
            case 1: return accept(currentDisc.tracks);
            case 2: return accept(currentDisc.readers);
            case 3: return accept(lookedAt().kindOf(currentDisc));
            case 4: return accept(history.size);
            case 5: return accept(currentDrive.size);
            case 6: return accept(list.size);
            case 7: return accept(currentRim.isThere() ? currentRim.size : NONE);
            default: return refuse(NO_SUCH);
        }
    }

    public int word(int stand) {
        if (!currentDisc.hasSector(stand)) {
            return refuse(NO_SUCH);
        }
        return accept(lookedAt().words[stand]);
    }

    public int seen(int reader, int what) {
        if (!currentDisc.hasReader(reader)) {
            return refuse(NO_SUCH);
        }
        switch (what) {
            case 0: return accept(currentDisc.trackOf[reader]);
            case 1: return accept(currentDisc.placeOf[reader]);
            case 2: return accept(lookedAt().changesOf(reader));
            case 3: return accept(lookedAt().shortestStretchOf(reader));
            default: return refuse(NO_SUCH);
        }
    }

    public int where(int word) {
        return accept(lookedAt().standsWith(word));
    }

    public int at(int word, int i) {
        int stand = lookedAt().standWith(word, i);
        return stand == NONE ? refuse(NO_SUCH) : accept(stand);
    }

    public int edge(int stand) {
        if (!currentDisc.hasSector(stand)) {
            return refuse(NO_SUCH);
        }
        return accept(lookedAt().waysBehind(stand));
    }

    public int way(int stand, int i) {
        if (!currentDisc.hasSector(stand) || i < 0 || i >= lookedAt().waysBehind(stand)) {
            return refuse(NO_SUCH);
        }
        return accept(lookedAt().wayBehind(stand, i));
    }

    public int fewest() {
        return accept(lookedAt().leastUnlike());
    }

    public int blind() {
        return accept(lookedAt().sparedAlone());
    }

    public int spare() {
        return accept(lookedAt().sparedTogether());
    }

    public int form(int i) {
        if (!currentDisc.hasSector(i)) {
            return refuse(NO_SUCH);
        }
        return accept(formed().row[i]);
    }

    public boolean keep() {
        keptForm.become(formed());
        isKept = true;
        return grant(true);
    }

    public boolean same() {
        if (!isKept) {
            return deny(NOTHING);
        }
        return grant(formed().isLike(keptForm));
    }

    // ---- discs that are made

    public boolean gray(int n, int r) {
        if (n < 4 || n > MOST_SECTORS || n % 2 != 0) {
            return deny(NO_SUCH);
        }
        if (r < 2 || r > MOST_READERS || (1 << r) < n) {
            return deny(NO_SUCH);
        }
        beginChange();
        Maker.makeGray(currentDisc, n, r);
        return grant(true);
    }

    public boolean chain(int r, int word) {
        if (r < 1 || r > Maker.MOST_CHAIN_BITS || word < 0 || word >= (1 << r)) {
            return deny(NO_SUCH);
        }
        beginChange();
        int stand = Maker.makeChain(currentDisc, r, word, chainMarks);
        currentDisc.turnBy(stand, turnRow);
        return grant(true);
    }

    public int single(int n, int r, int steps) {
        if (!Search.fits(n, r) || !Search.isStepCount(steps)) {
            return refuse(NO_SUCH);
        }
        if (!search.affords(steps)) {
            return refuse(FULL);
        }
        search.begin(n, r);
        return accept(searchOn(steps));
    }

    public int go(int steps) {
        if (!Search.isStepCount(steps)) {
            return refuse(NO_SUCH);
        }
        if (!search.isOpen) {
            return refuse(NOTHING);
        }
        if (!search.affords(steps)) {
            return refuse(FULL);
        }
        return accept(searchOn(steps));
    }

    // ---- drives

    public int drive(int word) {
        if (currentDrive.size >= Drive.MOST_WORDS) {
            return refuse(FULL);
        }
        currentDrive.add(word);
        return accept(currentDrive.size);
    }

    public int halt() {
        int had = currentDrive.size;
        currentDrive.empty();
        return accept(had);
    }

    public int slip() {
        return accept(followedDrive().slipAt);
    }

    public int stands(int i) {
        if (!currentDrive.has(i)) {
            return refuse(NO_SUCH);
        }
        return accept(followedDrive().standCounts[i]);
    }

    public int stand(int i) {
        if (!currentDrive.has(i) || followedDrive().standCounts[i] == 0) {
            return refuse(NO_SUCH);
        }
        return accept(followedDrive().leastStands[i]);
    }

    public int mend() {
        return accept(followedDrive().mendedStand(lookedAt()));
    }

    // ---- lists

    public int tell(int word) {
        if (list.size >= WordList.MOST_WORDS) {
            return refuse(FULL);
        }
        list.add(word);
        return accept(list.size);
    }

    public boolean forge(int i, int b) {
        if (!list.has(i) || b < 0 || b > 31) {
            return deny(NO_SUCH);
        }
        list.words[i] ^= 1 << b;
        return grant(true);
    }

    public int check(int what) {
        if (what != 1 && what != 2) {
            return refuse(NO_SUCH);
        }
        if (list.size == 0) {
            return refuse(NOTHING);
        }
        return accept(list.firstWrong(what == 2));
    }

    public int clear() {
        int had = list.size;
        list.size = 0;
        return accept(had);
    }

    public int fault() {
        return latestFault;
    }

    // ---- what the calls share

    private int accept(int answer) {
        latestFault = FINE;
        return answer;
    }

    private int refuse(int why) {
        latestFault = why;
        return NONE;
    }

    private boolean grant(boolean answer) {
        latestFault = FINE;
        return answer;
    }

    private boolean deny(int why) {
        latestFault = why;
        return false;
    }

    private void beginChange() {
        history.remember(currentDisc);
        outdate();
    }

    /** What was found out about the DISC no longer holds; it is found again when it is asked for. */
    private void outdate() {
        view.isStale = true;
        currentForm.isStale = true;
        currentDrive.unfollow();
    }

    private View lookedAt() {
        view.look(currentDisc);
        return view;
    }

    private Form formed() {
        currentForm.find(lookedAt());
        return currentForm;
    }

    private Drive followedDrive() {
        currentDrive.follow(lookedAt());
        return currentDrive;
    }

    private int searchOn(int steps) {
        int answer = search.advance(steps);
        if (answer == Search.FOUND) {
            beginChange();
            search.layFound(currentDisc);
        }
        return answer;
    }

    private static int stepRound(int place, int step, int sectors) {
        int next = place + step;
        if (next >= sectors) {
            return 0;
        }
        return next < 0 ? sectors - 1 : next;
    }

    private static boolean isSet(long[] bits, int from, int i) {
        return ((bits[from + (i >> 6)] >>> (i & 63)) & 1L) != 0L;
    }

    /** THE RIM: there, missing, or not there at all. */
    private static final class Rim {
        static final int ABSENT = -1;
        static final int BYTES = 0;
        static final int SHORTS = 1;
        static final int LONGS = 2;
        static final int MISSING = 3;
        static final int MOST_ENTRIES = 64;

        final long[] entries = new long[MOST_ENTRIES];
        int kind = ABSENT;
        int size = 0;

        void become(int newKind, int newSize) {
            kind = newKind;
            size = newSize;
            Arrays.fill(entries, 0L);
        }

        boolean isThere() {
            return kind != ABSENT;
        }

        boolean hasRow() {
            return kind != ABSENT && kind != MISSING;
        }

        /** Entries are held whole: bits above an entry's width are never asked for. */
        boolean isLight(int sector) {
            if (!hasRow()) {
                return false;
            }
            int widthShift = kind == BYTES ? 3 : kind == SHORTS ? 4 : 6;
            int entry = sector >> widthShift;
            int bit = sector & ((1 << widthShift) - 1);
            return entry < size && ((entries[entry] >>> bit) & 1L) != 0L;
        }
    }

    /** A DISC: lights as bits, so that the many DISCS of the history stay small. */
    private static final class Disc {
        static final int LONGS_OF_TRACK = MOST_SECTORS / 64;

        final long[] lights = new long[MOST_TRACKS * LONGS_OF_TRACK];
        final int[] trackOf = new int[MOST_READERS];
        final int[] placeOf = new int[MOST_READERS];
        int sectors = 1;
        int tracks = 0;
        int readers = 0;

        void empty(int n) {
            sectors = n;
            tracks = 0;
            readers = 0;
            Arrays.fill(lights, 0L);
        }

        void become(Disc other) {
            sectors = other.sectors;
            tracks = other.tracks;
            readers = other.readers;
            System.arraycopy(other.lights, 0, lights, 0, lights.length);
            System.arraycopy(other.trackOf, 0, trackOf, 0, MOST_READERS);
            System.arraycopy(other.placeOf, 0, placeOf, 0, MOST_READERS);
        }

        boolean hasTrack(int track) {
            return track >= 0 && track < tracks;
        }

        boolean hasSector(int sector) {
            return sector >= 0 && sector < sectors;
        }

        boolean hasReader(int reader) {
            return reader >= 0 && reader < readers;
        }

        boolean isLight(int track, int sector) {
            return isSet(lights, track * LONGS_OF_TRACK, sector);
        }

        void setLight(int track, int sector, boolean is) {
            int at = track * LONGS_OF_TRACK + (sector >> 6);
            long bit = 1L << (sector & 63);
            lights[at] = is ? lights[at] | bit : lights[at] & ~bit;
        }

        /** No light is ever set behind the last TRACK, so the next one is dark as it is. */
        int addDarkTrack() {
            tracks++;
            return tracks - 1;
        }

        int addReader(int track, int place) {
            trackOf[readers] = track;
            placeOf[readers] = place;
            readers++;
            return readers - 1;
        }

        void removeReader(int reader) {
            for (int r = reader; r + 1 < readers; r++) {
                trackOf[r] = trackOf[r + 1];
                placeOf[r] = placeOf[r + 1];
            }
            readers--;
        }

        void swapReaders(int a, int b) {
            int track = trackOf[a];
            trackOf[a] = trackOf[b];
            trackOf[b] = track;
            int place = placeOf[a];
            placeOf[a] = placeOf[b];
            placeOf[b] = place;
        }

        int standRound(int k) {
            return sectors < 1 ? 0 : Math.floorMod(k, sectors);
        }

        void turnBy(int stand, long[] old) {
            layTracksAnew(stand, 1, old);
        }

        void mirrorAll(long[] old) {
            layTracksAnew(sectors - 1, -1, old);
            for (int r = 0; r < readers; r++) {
                placeOf[r] = placeOf[r] == 0 ? 0 : sectors - placeOf[r];
            }
        }

        private void layTracksAnew(int start, int step, long[] old) {
            for (int t = 0; t < tracks; t++) {
                System.arraycopy(lights, t * LONGS_OF_TRACK, old, 0, LONGS_OF_TRACK);
                int from = start;
                for (int s = 0; s < sectors; s++) {
                    setLight(t, s, isSet(old, 0, from));
                    from = stepRound(from, step, sectors);
                }
            }
        }

        int wordOf(int stand) {
            int word = 0;
            for (int r = 0; r < readers; r++) {
                int sector = stand + placeOf[r];
                if (sector >= sectors) {
                    sector -= sectors;
                }
                word = (word << 1) | (isLight(trackOf[r], sector) ? 1 : 0);
            }
            return word;
        }

        boolean placesFollowOneAnother() {
            for (int r = 1; r < readers; r++) {
                if (placeOf[r] != stepRound(placeOf[r - 1], 1, sectors)) {
                    return false;
                }
            }
            return true;
        }
    }

    /** The DISCS ahead of the latest changes, in a ring that forgets the oldest. */
    private static final class History {
        static final int MOST_CHANGES = 30;

        final Disc[] ring = new Disc[MOST_CHANGES];
        int next = 0;
        int size = 0;

        History() {
            for (int i = 0; i < MOST_CHANGES; i++) {
                ring[i] = new Disc();
            }
        }

        void remember(Disc disc) {
            ring[next].become(disc);
            next = stepRound(next, 1, MOST_CHANGES);
            if (size < MOST_CHANGES) {
                size++;
            }
        }

        void takeBack(Disc disc) {
            if (size == 0) {
                return;
            }
            next = stepRound(next, -1, MOST_CHANGES);
            size--;
            disc.become(ring[next]);
        }
    }

    /** A set of WORDS of at most ten bits. */
    private static final class Marks {
        final long[] bits = new long[(1 << MOST_READERS) / 64];

        void wipe() {
            Arrays.fill(bits, 0L);
        }

        boolean has(int word) {
            return isSet(bits, 0, word);
        }

        void add(int word) {
            bits[word >> 6] |= 1L << (word & 63);
        }
    }

    /** The WORDS of all STANDS, and what follows from them. */
    private static final class View {
        final int[] words = new int[MOST_SECTORS];
        final Marks marks = new Marks();
        int sectors = 1;
        int readers = 0;
        boolean isStale = true;

        void look(Disc disc) {
            if (!isStale) {
                return;
            }
            sectors = disc.sectors;
            readers = disc.readers;
            for (int s = 0; s < sectors; s++) {
                words[s] = disc.wordOf(s);
            }
            isStale = false;
        }

        int kindOf(Disc disc) {
            if (!allUnlike(allReaders())) {
                return KIND_DISC;
            }
            boolean isStep = stepsAreSingle();
            if (disc.tracks == 1 && isStep) {
                return KIND_SINGLE;
            }
            if (disc.tracks == 1 && disc.placesFollowOneAnother()) {
                return KIND_CHAIN;
            }
            return isStep ? KIND_STEP : KIND_TRUE;
        }

        private int allReaders() {
            return (1 << readers) - 1;
        }

        /** Whether the WORDS are all unlike with these READERS alone; if so, the marks hold them. */
        private boolean allUnlike(int readerBits) {
            marks.wipe();
            for (int s = 0; s < sectors; s++) {
                int word = words[s] & readerBits;
                if (marks.has(word)) {
                    return false;
                }
                marks.add(word);
            }
            return true;
        }

        private boolean stepsAreSingle() {
            for (int s = 0; s < sectors; s++) {
                if (Integer.bitCount(unlikeBehind(s)) != 1) {
                    return false;
                }
            }
            return true;
        }

        private int unlikeBehind(int stand) {
            return words[stand] ^ words[stepRound(stand, 1, sectors)];
        }

        private boolean changesBehind(int stand, int reader) {
            return ((unlikeBehind(stand) >> (readers - 1 - reader)) & 1) != 0;
        }

        int changesOf(int reader) {
            int changes = 0;
            for (int s = 0; s < sectors; s++) {
                if (changesBehind(s, reader)) {
                    changes++;
                }
            }
            return changes;
        }

        int shortestStretchOf(int reader) {
            int shortest = sectors;
            int first = NONE;
            int latest = NONE;
            for (int s = 0; s < sectors; s++) {
                if (changesBehind(s, reader)) {
                    if (first == NONE) {
                        first = s;
                    } else {
                        shortest = Math.min(shortest, s - latest);
                    }
                    latest = s;
                }
            }
            return first == NONE ? sectors : Math.min(shortest, first + sectors - latest);
        }

        int standsWith(int word) {
            int found = 0;
            for (int s = 0; s < sectors; s++) {
                if (words[s] == word) {
                    found++;
                }
            }
            return found;
        }

        int standWith(int word, int i) {
            int found = 0;
            for (int s = 0; s < sectors; s++) {
                if (words[s] == word) {
                    if (found == i) {
                        return s;
                    }
                    found++;
                }
            }
            return NONE;
        }

        int waysBehind(int stand) {
            return 1 << Integer.bitCount(unlikeBehind(stand));
        }

        /** The bits of i go, the lowest first, to the READERS that can see either: so the WORDS rise with i. */
        int wayBehind(int stand, int i) {
            int either = unlikeBehind(stand);
            int word = words[stand] & ~either;
            int left = i;
            for (int bit = 0; bit < readers; bit++) {
                if (((either >> bit) & 1) != 0) {
                    word |= (left & 1) << bit;
                    left >>= 1;
                }
            }
            return word;
        }

        /** Goes over differences, not pairs: where many WORDS stand, two of them are near. */
        int leastUnlike() {
            if (sectors == 1) {
                return NONE;
            }
            if (!allUnlike(allReaders())) {
                return 0;
            }
            for (int bits = 1; bits < readers; bits++) {
                for (int difference = 1; difference <= allReaders(); difference++) {
                    if (Integer.bitCount(difference) == bits && twoAreMarkedApartBy(difference)) {
                        return bits;
                    }
                }
            }
            return readers;
        }

        private boolean twoAreMarkedApartBy(int difference) {
            for (int s = 0; s < sectors; s++) {
                if (marks.has(words[s] ^ difference)) {
                    return true;
                }
            }
            return false;
        }

        int sparedAlone() {
            int spared = 0;
            for (int bit = 0; bit < readers; bit++) {
                if (allUnlike(allReaders() & ~(1 << bit))) {
                    spared |= 1 << bit;
                }
            }
            return spared;
        }

        int sparedTogether() {
            int spared = 0;
            for (int bit = 0; bit < readers; bit++) {
                int more = spared | (1 << bit);
                if (allUnlike(allReaders() & ~more)) {
                    spared = more;
                }
            }
            return spared;
        }
    }

    /** The FORM of a DISC, with as many READERS as it has. */
    private static final class Form {
        static final int ABOVE_ALL_WORDS = 1 << MOST_READERS;

        final int[] row = new int[MOST_SECTORS];
        final int[] bitAt = new int[MOST_READERS];
        final boolean[] isParted = new boolean[MOST_READERS];
        int sectors = 0;
        int readers = 0;
        boolean isStale = true;

        void become(Form other) {
            sectors = other.sectors;
            readers = other.readers;
            System.arraycopy(other.row, 0, row, 0, sectors);
        }

        boolean isLike(Form other) {
            if (sectors != other.sectors || readers != other.readers) {
                return false;
            }
            for (int s = 0; s < sectors; s++) {
                if (row[s] != other.row[s]) {
                    return false;
                }
            }
            return true;
        }

        void find(View view) {
            if (!isStale) {
                return;
            }
            sectors = view.sectors;
            readers = view.readers;
            Arrays.fill(row, ABOVE_ALL_WORDS);
            tryAllStarts(view.words, 1);
            tryAllStarts(view.words, -1);
            isStale = false;
        }

        /** A row that is the least once more tells that the DISC repeats itself: all further starts do, too. */
        private void tryAllStarts(int[] words, int step) {
            for (int start = 0; start < sectors; start++) {
                if (isLeastAgain(words, start, step)) {
                    return;
                }
            }
        }

        /** Goes along the row from a start on, and takes it over from where it is less than the least so far. */
        private boolean isLeastAgain(int[] words, int start, int step) {
            beginOrder();
            boolean isLess = false;
            int latest = NONE;
            int ordered = 0;
            int stand = start;
            for (int i = 0; i < sectors; i++) {
                if (words[stand] != latest) {
                    latest = words[stand];
                    refineOrder(latest);
                    ordered = inOrder(latest);
                }
                if (!isLess && ordered > row[i]) {
                    return false;
                }
                isLess = isLess || ordered < row[i];
                row[i] = ordered;
                stand = stepRound(stand, step, sectors);
            }
            return !isLess;
        }

        private void beginOrder() {
            for (int p = 0; p < readers; p++) {
                bitAt[p] = p;
                isParted[p] = false;
            }
        }

        /**
         * A WORD is least with its dark READERS first. READERS that an earlier WORD told apart keep
         * their order, for the earlier WORD counts more.
         */
        private void refineOrder(int word) {
            for (int p = 1; p < readers; p++) {
                for (int q = p; q > 0 && !isParted[q] && bitOf(word, q) < bitOf(word, q - 1); q--) {
                    int bit = bitAt[q];
                    bitAt[q] = bitAt[q - 1];
                    bitAt[q - 1] = bit;
                }
            }
            for (int p = 1; p < readers; p++) {
                if (bitOf(word, p - 1) != bitOf(word, p)) {
                    isParted[p] = true;
                }
            }
        }

        private int bitOf(int word, int place) {
            return (word >> bitAt[place]) & 1;
        }

        private int inOrder(int word) {
            int ordered = 0;
            for (int p = 0; p < readers; p++) {
                ordered = (ordered << 1) | bitOf(word, p);
            }
            return ordered;
        }
    }

    /** DISCS made by rule. */
    private static final class Maker {
        static final int MOST_CHAIN_BITS = 9;

        static void makeGray(Disc disc, int n, int r) {
            int wordsOfBits = 4;
            while (wordsOfBits < n && wordsOfBits < MOST_SECTORS) {
                wordsOfBits *= 2;
            }
            disc.empty(n);
            for (int reader = 0; reader < r; reader++) {
                disc.addReader(disc.addDarkTrack(), 0);
            }
            int first = (wordsOfBits - n) / 2;
            for (int s = 0; s < n; s++) {
                int word = (first + s) ^ ((first + s) >> 1);
                for (int reader = 0; reader < r; reader++) {
                    disc.setLight(reader, s, ((word >> (r - 1 - reader)) & 1) != 0);
                }
            }
        }

        /**
         * Behind all lights, the dark wherever the WORD is new makes the least CHAIN, and it ends with all
         * lights again. Answers the STAND that has the WORD asked for.
         */
        static int makeChain(Disc disc, int r, int word, Marks marks) {
            int n = 1 << r;
            disc.empty(n);
            disc.addDarkTrack();
            for (int reader = 0; reader < r; reader++) {
                disc.addReader(0, reader);
            }
            marks.wipe();
            int latest = n - 1;
            int stand = 0;
            for (int s = 0; s < n; s++) {
                latest = (latest << 1) & (n - 1);
                if (marks.has(latest)) {
                    latest |= 1;
                }
                marks.add(latest);
                disc.setLight(0, s, (latest & 1) != 0);
                if (latest == word) {
                    stand = (s - r + 1) & (n - 1);
                }
            }
            return stand;
        }
    }

    /** The SEARCH for SINGLES: numbers below at are gone over, candidate is the next that can be one. */
    private static final class Search {
        static final int FOUND = 1;
        static final int ENDED = 0;
        static final int MOST_STEPS_A_CALL = 2000000;
        static final int MOST_STEPS = 4000000;

        int sectors = 2;
        int readers = 2;
        int spacing = 1;
        int end = 0;
        int at = 0;
        int candidate = 0;
        int found = 0;
        int asked = 0;
        boolean isOpen = false;

        static boolean fits(int n, int r) {
            return n >= 2 && n <= 20 && r >= 2 && r <= 5 && n % r == 0;
        }

        static boolean isStepCount(int steps) {
            return steps >= 0 && steps <= MOST_STEPS_A_CALL;
        }

        boolean affords(int steps) {
            return steps <= MOST_STEPS - asked;
        }

        void begin(int n, int r) {
            if (!fits(n, r)) {
                return;
            }
            sectors = n;
            readers = r;
            spacing = n / r;
            end = 1 << n;
            at = 0;
            candidate = 0;
            isOpen = true;
        }

        int advance(int steps) {
            asked += steps;
            int stop = Math.min(at + steps, end);
            for (int looked = 0; looked < steps && candidate < stop; looked++) {
                int number = candidate;
                candidate = leastTurnedBehind(number);
                if (isSingle(number)) {
                    found = number;
                    at = number + 1;
                    return FOUND;
                }
            }
            at = stop;
            isOpen = at < end;
            return isOpen ? SPENT : ENDED;
        }

        /**
         * The next number that no turning makes less (all between are no candidates). Its beginnings,
         * repeated, come in rising order, and it is one itself where the beginning fits a whole number of times.
         */
        private int leastTurnedBehind(int number) {
            int row = number;
            for (int tries = 0; tries < end; tries++) {
                int lights = lightsAtEnd(row);
                int length = sectors - lights;
                if (length <= 0) {
                    return end;
                }
                row = repeated((row >> lights) | 1, length);
                if (sectors % length == 0) {
                    return row;
                }
            }
            return end;
        }

        private int lightsAtEnd(int row) {
            int lights = 0;
            while (lights < sectors && ((row >> lights) & 1) != 0) {
                lights++;
            }
            return lights;
        }

        private int repeated(int beginning, int length) {
            int row = beginning;
            for (int bits = length; bits < sectors; bits++) {
                row = (row << 1) | ((row >> (length - 1)) & 1);
            }
            return row;
        }

        private boolean isSingle(int number) {
            int had = 0;
            int ahead = wordOf(number, sectors - 1);
            for (int s = 0; s < sectors; s++) {
                int word = wordOf(number, s);
                if (((had >> word) & 1) != 0 || Integer.bitCount(word ^ ahead) != 1) {
                    return false;
                }
                had |= 1 << word;
                ahead = word;
            }
            return true;
        }

        private int wordOf(int number, int stand) {
            int word = 0;
            int sector = stand;
            for (int r = 0; r < readers; r++) {
                word = (word << 1) | (lightOf(number, sector) ? 1 : 0);
                sector += spacing;
                if (sector >= sectors) {
                    sector -= sectors;
                }
            }
            return word;
        }

        private boolean lightOf(int number, int sector) {
            return ((number >> (sectors - 1 - sector)) & 1) != 0;
        }

        void layFound(Disc disc) {
            disc.empty(sectors);
            disc.addDarkTrack();
            for (int s = 0; s < sectors; s++) {
                disc.setLight(0, s, lightOf(found, s));
            }
            for (int r = 0; r < readers; r++) {
                disc.addReader(0, r * spacing);
            }
        }
    }

    /** THE DRIVE, and how far it is FOLLOWED on the DISC that there is. */
    private static final class Drive {
        static final int MOST_WORDS = 2000;

        final int[] words = new int[MOST_WORDS];
        final int[] standCounts = new int[MOST_WORDS];
        final int[] leastStands = new int[MOST_WORDS];
        final boolean[] isReached = new boolean[MOST_SECTORS];
        final boolean[] isReachedNext = new boolean[MOST_SECTORS];
        int size = 0;
        int followed = 0;
        int slipAt = NONE;

        void add(int word) {
            words[size] = word;
            size++;
        }

        void empty() {
            size = 0;
            unfollow();
        }

        void unfollow() {
            followed = 0;
            slipAt = NONE;
        }

        boolean has(int i) {
            return i >= 0 && i < size;
        }

        void follow(View view) {
            for (int i = followed; i < size; i++) {
                followWord(view, i);
            }
            followed = size;
        }

        private void followWord(View view, int i) {
            int found = 0;
            int least = NONE;
            for (int s = 0; s < view.sectors; s++) {
                boolean reached = view.words[s] == words[i] && (i == 0 || isNearReached(s, view.sectors));
                isReachedNext[s] = reached;
                if (reached) {
                    found++;
                    least = least == NONE ? s : least;
                }
            }
            takeNext(view.sectors);
            standCounts[i] = found;
            leastStands[i] = least;
            if (found == 0 && slipAt == NONE) {
                slipAt = i;
            }
        }

        private void takeNext(int sectors) {
            for (int s = 0; s < sectors; s++) {
                isReached[s] = isReachedNext[s];
            }
        }

        private boolean isNearReached(int stand, int sectors) {
            return isReached[stand] || isReached[stepRound(stand, -1, sectors)]
                    || isReached[stepRound(stand, 1, sectors)];
        }

        int mendedStand(View view) {
            if (slipAt == NONE) {
                return NONE;
            }
            int from = slipAt == 0 ? 0 : leastStands[slipAt - 1];
            int best = 0;
            for (int s = 1; s < view.sectors; s++) {
                int bits = Integer.bitCount(view.words[s] ^ words[slipAt]);
                int bestBits = Integer.bitCount(view.words[best] ^ words[slipAt]);
                boolean isNearer = wayRound(s, from, view.sectors) < wayRound(best, from, view.sectors);
                if (bits < bestBits || (bits == bestBits && isNearer)) {
                    best = s;
                }
            }
            return best;
        }

        private static int wayRound(int a, int b, int sectors) {
            int straight = Math.abs(a - b);
            return Math.min(straight, sectors - straight);
        }
    }

    /** THE LIST. */
    private static final class WordList {
        static final int MOST_WORDS = 512;

        final int[] words = new int[MOST_WORDS];
        int size = 0;

        void add(int word) {
            words[size] = word;
            size++;
        }

        boolean has(int i) {
            return i >= 0 && i < size;
        }

        int firstWrong(boolean stepsCount) {
            for (int i = 0; i < size; i++) {
                if (isLikeOneAhead(i) || (stepsCount && !isSingleStep(i))) {
                    return i;
                }
            }
            return NONE;
        }

        private boolean isLikeOneAhead(int i) {
            for (int j = 0; j < i; j++) {
                if (words[j] == words[i]) {
                    return true;
                }
            }
            return false;
        }

        private boolean isSingleStep(int i) {
            return Integer.bitCount(words[i] ^ words[stepRound(i, -1, size)]) == 1;
        }
    }
}
