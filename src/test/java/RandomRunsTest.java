import java.util.Random;

/** Runs of drawn calls (always the same ones), each answer and fault compared with the plain model's. */
public final class RandomRunsTest {
    private static final int CALLS = 511;
    private static final int[] WILD = {Integer.MIN_VALUE, Integer.MAX_VALUE, -1, 0, 1, 2, 9, 10, 11, 31, 32, 63, 64,
        65, 511, 512, 513, 1023, 1024, 1999, 2000, 2000000, 2000001, -2, -31};

    private final Random random;
    private final int mostSectors;
    private final int mostReaders;
    private final WheelDisc x = new WheelDisc();
    private final PlainModel model = new PlainModel();
    private String name = "";
    private int latestTold = 0;

    private RandomRunsTest(long seed, int mostSectors, int mostReaders) {
        this.random = new Random(seed);
        this.mostSectors = mostSectors;
        this.mostReaders = mostReaders;
    }

    public static void main(String[] args) {
        int runs = args.length > 0 ? Integer.parseInt(args[0]) : 150;
        for (int run = 0; run < runs; run++) {
            new RandomRunsTest(run, 6, 4).run("small " + run);
            new RandomRunsTest(run, 20, 5).run("middle " + run);
            if (run % 5 == 0) {
                new RandomRunsTest(run, 70, 10).run("large " + run);
                new RandomRunsTest(run, 512, 10).run("largest " + run);
            }
        }
        Due.end();
    }

    private void run(String run) {
        for (int i = 0; i < CALLS / 2; i++) {
            name = run + " call " + i + " ";
            int kind = random.nextInt(47);
            if (kind < 14) {
                change(kind);
            } else if (kind < 29) {
                look(kind);
            } else {
                other(kind);
            }
        }
    }

    private void compare(String what, long answer, long due) {
        Due.is(name + what, answer, due);
        Due.is(name + what + ": fault()", x.fault(), model.fault);
        model.fault = 0;
    }

    private void compare(String what, boolean answer, long due) {
        compare(what, answer ? 1L : 0L, due);
    }

    private int below(int n) {
        return random.nextInt(25) == 0 ? WILD[random.nextInt(WILD.length)] : random.nextInt(n + 1) - random.nextInt(50) / 49;
    }

    private int below() {
        return below(model.sectors());
    }

    private int aWord() {
        if (random.nextInt(15) == 0) {
            return random.nextInt();
        }
        return x.word(random.nextInt(model.sectors()));
    }

    /** Discs that are tried further on must not be made anew too often. */
    private boolean rarely() {
        return random.nextInt(8) == 0;
    }

    private void change(int kind) {
        int a = below();
        int b = below();
        int t = below(3);
        int r = below(model.readers());
        int q = below(model.readers());
        long v = random.nextLong();
        boolean is = random.nextBoolean();
        switch (kind) {
            case 0: case 1: compare("rim", x.rim(a = below(3), b = below(10)), model.rim(a, b)); break;
            case 2: case 3: compare("entry", x.entry(a = below(5), v), model.entry(a, v)); break;
            case 4: makeDisc(); break;
            case 5: compare("track", x.track(), model.track()); break;
            case 6: case 7: compare("light " + t + " " + a, x.light(t, a, is), model.light(t, a, is)); break;
            case 8: case 9: addReader(t, a); break;
            case 10: compare("lift " + r, x.lift(r), model.lift(r)); break;
            case 11: compare("turn " + a, x.turn(a - b), model.turn(a - b)); break;
            case 12: compare("mirror", x.mirror(), model.mirror()); break;
            default: compare("swap " + r + " " + q, x.swap(r, q), model.swap(r, q)); break;
        }
    }

    private void makeDisc() {
        int n = below(mostSectors);
        if (rarely() || model.sectors() == 1) {
            compare("disc " + n, x.disc(n), model.disc(n));
        } else {
            int m = Math.max(1, (model.sectors() + 63) / 64);
            compare("rim of longs", x.rim(2, m), model.rim(2, m));
            for (int i = 0; i < m; i++) {
                long v = random.nextLong() & random.nextLong();
                compare("entry", x.entry(i, v), model.entry(i, v));
            }
            compare("track", x.track(), model.track());
        }
    }

    private void addReader(int track, int place) {
        if (model.readers() < mostReaders) {
            compare("reader " + track + " " + place, x.reader(track, place), model.reader(track, place));
        }
    }

    private void look(int kind) {
        int a = below();
        int i = below(4);
        int r = below(model.readers());
        int w = aWord();
        boolean isSmall = model.readers() <= 5 && model.sectors() <= 70;
        switch (kind) {
            case 14: compare("undo", x.undo(), model.undo()); break;
            case 15: compare("count " + i, x.count(i + r), model.count(i + r)); break;
            case 16: compare("kind", x.count(3), model.count(3)); break;
            case 17: compare("word " + a, x.word(a), model.word(a)); break;
            case 18: compare("seen " + r + " " + i, x.seen(r, i), model.seen(r, i)); break;
            case 19: compare("where " + w, x.where(w), model.where(w)); break;
            case 20: compare("at " + w + " " + i, x.at(w, i), model.at(w, i)); break;
            case 21: compare("edge " + a, x.edge(a), model.edge(a)); break;
            case 22: compare("way " + a + " " + i, x.way(a, i), model.way(a, i)); break;
            case 23: compare("fewest", x.fewest(), model.fewest()); break;
            case 24: compare("blind", x.blind(), model.blind()); break;
            case 25: compare("spare", x.spare(), model.spare()); break;
            default: lookAtForms(kind, a, isSmall); break;
        }
    }

    private void lookAtForms(int kind, int a, boolean isSmall) {
        if (!isSmall) {
            compare("where", x.where(a), model.where(a));
        } else if (kind == 26) {
            compare("form " + a, x.form(a), model.form(a));
        } else if (kind == 27 && rarely()) {
            compare("keep", x.keep(), model.keep());
        } else {
            compare("same", x.same(), model.same());
        }
    }

    private void other(int kind) {
        int a = below(mostSectors);
        int r = below(5);
        int w = aWord();
        int i = below(12);
        int b = below(33);
        switch (kind) {
            case 29: makeByRule(a, r, w); break;
            case 30: search(a, r); break;
            case 31: compare("go " + i, x.go(i), model.go(i)); break;
            case 32: case 33: case 34: case 35: compare("drive " + w, x.drive(w), model.drive(w)); break;
            case 36: haltOrCount(); break;
            case 37: compare("slip", x.slip(), model.slip()); break;
            case 38: compare("stands " + i, x.stands(i), model.stands(i)); break;
            case 39: compare("stand " + i, x.stand(i), model.stand(i)); break;
            case 40: compare("mend", x.mend(), model.mend()); break;
            case 41: case 42: tellNear(); break;
            case 43: compare("forge " + i + " " + b, x.forge(i, b), model.forge(i, b)); break;
            case 44: compare("check 1", x.check(1), model.check(1)); break;
            case 45: compare("check 2", x.check(2), model.check(2)); break;
            default: clearOrCheck(i); break;
        }
    }

    private void haltOrCount() {
        if (rarely()) {
            compare("halt", x.halt(), model.halt());
        } else {
            compare("count 5", x.count(5), model.count(5));
        }
    }

    private void makeByRule(int a, int r, int w) {
        if (random.nextBoolean()) {
            compare("gray " + a + " " + r, x.gray(a, r), model.gray(a, r));
        } else if (mostSectors > 20 || r < 5) {
            compare("chain " + r + " " + w, x.chain(r, w), model.chain(r, w));
        }
    }

    private void search(int a, int r) {
        int n = a > 12 && a < 21 ? a / 2 : a;
        int steps = below(600);
        compare("single " + n + " " + r + " " + steps, x.single(n, r, steps), model.single(n, r, steps));
    }

    private void tellNear() {
        latestTold = random.nextInt(10) == 0 ? latestTold : latestTold ^ (1 << random.nextInt(32));
        compare("tell", x.tell(latestTold), model.tell(latestTold));
    }

    private void clearOrCheck(int i) {
        if (rarely()) {
            compare("clear", x.clear(), model.clear());
        } else {
            compare("check " + i, x.check(i), model.check(i));
        }
    }
}
