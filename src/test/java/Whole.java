import java.util.ArrayList;
import java.util.List;

/** All that can be seen of an object from outside. Some looks change it, so each kind has an object of its own. */
final class Whole {
    /** Calls that lead to a case. */
    interface Calls {
        void make(WheelDisc x);
    }

    private final Calls calls;
    private final List<String> lines = new ArrayList<>();

    private Whole(Calls calls) {
        this.calls = calls;
    }

    static List<String> of(Calls calls) {
        Whole whole = new Whole(calls);
        whole.counts();
        whole.words();
        whole.lights();
        whole.form();
        whole.drive();
        whole.list();
        whole.rim();
        whole.changes();
        whole.search();
        whole.stepsLeft();
        whole.kept();
        return whole.lines;
    }

    private WheelDisc made() {
        WheelDisc x = new WheelDisc();
        calls.make(x);
        return x;
    }

    private void add(String what, long value) {
        lines.add(what + " = " + value);
    }

    private void add(String what, boolean value) {
        lines.add(what + " = " + value);
    }

    private void counts() {
        WheelDisc x = made();
        for (int what = 0; what < 8; what++) {
            add("count(" + what + ")", x.count(what));
        }
        for (int r = 0; r < x.count(2); r++) {
            for (int what = 0; what < 4; what++) {
                add("seen(" + r + ", " + what + ")", x.seen(r, what));
            }
        }
        add("fewest()", x.fewest());
        add("blind()", x.blind());
        add("spare()", x.spare());
        add("where(0)", x.where(0));
        add("at(0, 0)", x.at(0, 0));
        add("edge(0)", x.edge(0));
        add("way(0, 1)", x.way(0, 1));
    }

    private void words() {
        WheelDisc x = made();
        int n = x.count(0);
        for (int s = 0; s < Math.min(n, 300); s++) {
            add("word(" + s + ")", x.word(s));
        }
        add("last word", x.word(n - 1));
    }

    private void lights() {
        WheelDisc x = made();
        int n = x.count(0);
        int tracks = x.count(1);
        int stride = Math.max(1, n / 30);
        for (int t = 0; t < tracks; t++) {
            for (int s = 0; s < n; s += stride) {
                add("light(" + t + ", " + s + ")", x.light(t, s, true));
            }
        }
    }

    private void form() {
        WheelDisc x = made();
        for (int i = 0; i < Math.min(x.count(0), 300); i++) {
            add("form(" + i + ")", x.form(i));
        }
    }

    /** On the disc that there is, and on another, so that words that slip here are seen there. */
    private void drive() {
        WheelDisc x = made();
        for (int disc = 0; disc < 2; disc++) {
            add("slip()", x.slip());
            add("mend()", x.mend());
            for (int i = 0; i < Math.min(x.count(5), 50); i++) {
                add("stands(" + i + ")", x.stands(i));
                add("stand(" + i + ")", x.stand(i));
            }
            x.gray(16, 4);
        }
        add("halt()", x.halt());
    }

    /** A further word is made each of 32 in turn: check() tells which of them the list has. */
    private void list() {
        WheelDisc x = made();
        add("check(1)", x.check(1));
        add("check(2)", x.check(2));
        int last = x.tell(0) - 1;
        for (int i = 1; i <= 32; i++) {
            add("check(1) with a further word", x.check(1));
            x.forge(last, Integer.numberOfTrailingZeros(i));
        }
        add("clear()", x.clear());
    }

    private void rim() {
        WheelDisc x = made();
        x.disc(512);
        add("track()", x.track());
        add("fault()", x.fault());
        x.reader(0, 0);
        for (int s = 0; s < 140; s++) {
            add("the rim's sector " + s, x.word(s));
        }
        add("the rim's last sector", x.word(511));
    }

    private void changes() {
        WheelDisc x = made();
        for (int left = x.count(4); left > 0; left--) {
            add("undo()", x.undo());
            for (int what = 0; what < 4; what++) {
                add("undone: count(" + what + ")", x.count(what));
            }
            add("undone: word(0)", x.word(0));
            add("undone: word(1)", x.word(1));
            add("undone: place of reader 0", x.seen(0, 1));
        }
        add("undo() of none", x.undo());
    }

    private void search() {
        WheelDisc x = made();
        for (int i = 0; i < 70; i++) {
            add("go(1)", x.go(1));
            add("fault()", x.fault());
            add("searched: count(0)", x.count(0));
            add("searched: word(0)", x.word(0));
        }
    }

    /** Asked for in halves, the steps tell how many are left. */
    private void stepsLeft() {
        WheelDisc x = made();
        add("single of most steps", x.single(4, 2, 2000000));
        add("single of most steps", x.single(4, 2, 2000000));
        for (int steps = 1 << 20; steps > 0; steps /= 2) {
            add("single of " + steps + " steps", x.single(2, 2, steps));
        }
    }

    private void kept() {
        WheelDisc x = made();
        add("same()", x.same());
        add("fault()", x.fault());
        x.disc(1);
        add("same() as one sector", x.same());
        x.gray(4, 2);
        add("same() as gray", x.same());
        x.chain(3, 0);
        add("same() as a chain", x.same());
        x.single(6, 3, 8);
        add("same() as a single", x.same());
    }
}
