/** Promises 36 to 40. */
public final class ListsTest {
    private static final int LEAST = Integer.MIN_VALUE;
    private static final int MOST = Integer.MAX_VALUE;

    public static void main(String[] args) {
        tell36();
        forge37();
        check38();
        clear39();
        fault40();
        noNoneIsAFault40();
        Due.end();
    }

    private static WheelDisc listed(int... words) {
        WheelDisc x = new WheelDisc();
        for (int word : words) {
            x.tell(word);
        }
        return x;
    }

    private static void tell36() {
        WheelDisc x = new WheelDisc();
        for (int i = 1; i <= 512; i++) {
            Due.answer(x, "tell", x.tell(i), i);
        }
        Due.refused(x, "tell: full", x.tell(0), 4);
        Due.answer(x, "tell: words", x.count(6), 512);
        Due.answer(x, "tell is no change", x.count(4), 0);
        Due.answer(x, "check of a full list", x.check(1), -1);
    }

    private static void forge37() {
        WheelDisc x = listed(4, 5);
        Due.yes(x, "forge", x.forge(1, 0));
        Due.answer(x, "forged alike", x.check(1), 1);
        Due.yes(x, "forge back", x.forge(1, 0));
        Due.answer(x, "forged back", x.check(1), -1);
        for (int b = 0; b < 32; b++) {
            WheelDisc y = listed(0, 1 << b);
            Due.yes(y, "forge bit " + b, y.forge(0, b));
            Due.answer(y, "forge bit " + b, y.check(1), 1);
        }
        int[][] wrong = {{2, 0}, {-1, 0}, {0, 32}, {0, -1}, {LEAST, 0}, {0, MOST}};
        for (int[] w : wrong) {
            Due.refused(x, "forge " + w[0] + " " + w[1], x.forge(w[0], w[1]), 1);
        }
        Due.answer(x, "forge refused", x.check(1), -1);
        x.clear();
        Due.refused(x, "forge of none", x.forge(0, 0), 1);
    }

    private static void check(int unlike, int step, int... words) {
        WheelDisc x = listed(words);
        String what = java.util.Arrays.toString(words);
        Due.answer(x, "check(1) of " + what, x.check(1), unlike);
        Due.answer(x, "check(2) of " + what, x.check(2), step);
        Due.answer(x, "check: the list stays", x.count(6), words.length);
    }

    private static void check38() {
        check(-1, 0, 9);
        check(-1, -1, 0, 1);
        check(-1, 0, 0, 3);
        check(1, 0, 7, 7);
        check(-1, -1, 0, 1, 3, 2);
        check(-1, 0, 0, 1, 3);
        check(-1, 0, 0, 1, 3, 7);
        check(3, 3, 0, 1, 3, 1);
        check(4, 2, 0, 1, 2, 3, 1, 4);
        check(-1, 2, 0, 1, 2, 6, 4);
        check(-1, -1, 0, LEAST);
        check(-1, 0, -1, LEAST);
        check(5, 3, 4, 5, 7, -1, 3, 7, 6);
        check(2, 0, 1, 0, 0, 1);
        check(2, 2, 1, 3, 1, 3);
        WheelDisc x = listed();
        Due.refused(x, "check of none", x.check(1), 2);
        Due.refused(x, "check of none", x.check(2), 2);
        Due.refused(x, "check of none, another what: the least fault", x.check(0), 1);
        x.tell(1);
        Due.refused(x, "check 0", x.check(0), 1);
        Due.refused(x, "check 3", x.check(3), 1);
        Due.refused(x, "check least", x.check(LEAST), 1);
    }

    private static void clear39() {
        WheelDisc x = listed(1, 2, 3);
        x.drive(1);
        Due.answer(x, "clear", x.clear(), 3);
        Due.answer(x, "clear: words", x.count(6), 0);
        Due.answer(x, "clear: the drive stays", x.count(5), 1);
        Due.answer(x, "clear of none", x.clear(), 0);
        Due.answer(x, "tell anew", x.tell(3), 1);
        Due.answer(x, "check anew", x.check(1), -1);
    }

    private static void fault40() {
        WheelDisc x = new WheelDisc();
        Due.is("fault of a new one", x.fault(), 0);
        x.rim(0, -1);
        Due.is("fault", x.fault(), 3);
        Due.is("fault again", x.fault(), 3);
        for (int call = 0; call < 29; call++) {
            x = Due.ring("0011", 0, 1);
            x.rim(0, 1);
            x.word(-1);
            Due.is("fault", x.fault(), 1);
            makeGoodCall(x, call);
            Due.is("fault behind good call " + call, x.fault(), 0);
        }
    }

    private static void makeGoodCall(WheelDisc x, int call) {
        switch (call) {
            case 0: x.rim(0, 1); break;
            case 1: x.entry(0, 1); break;
            case 2: x.disc(1); break;
            case 3: x.track(); break;
            case 4: x.light(0, 0, true); break;
            case 5: x.reader(0, 0); break;
            case 6: x.lift(0); break;
            case 7: x.turn(1); break;
            case 8: x.mirror(); break;
            case 9: x.swap(0, 1); break;
            case 10: x.undo(); break;
            case 11: x.count(0); break;
            case 12: x.word(0); break;
            case 13: x.seen(0, 0); break;
            case 14: x.where(99); break;
            case 15: x.at(0, 0); break;
            case 16: x.edge(0); break;
            case 17: x.way(0, 0); break;
            case 18: x.blind(); break;
            case 19: x.spare(); break;
            case 20: x.form(0); break;
            case 21: x.keep(); break;
            case 22: x.gray(4, 2); break;
            case 23: x.chain(1, 0); break;
            case 24: x.single(4, 2, 1); break;
            case 25: x.drive(0); break;
            case 26: x.halt(); break;
            case 27: x.tell(0); break;
            default: x.clear(); break;
        }
    }

    private static void noNoneIsAFault40() {
        WheelDisc x = new WheelDisc();
        x.word(-1);
        Due.answer(x, "fewest", x.fewest(), -1);
        x.word(-1);
        Due.answer(x, "slip", x.slip(), -1);
        x.word(-1);
        Due.answer(x, "mend", x.mend(), -1);
        x.word(-1);
        Due.answer(x, "count(7)", x.count(7), -1);
        x.tell(1);
        x.word(-1);
        Due.answer(x, "check", x.check(1), -1);
        x.keep();
        x.disc(2);
        x.word(-1);
        Due.no(x, "same", x.same());
    }
}
