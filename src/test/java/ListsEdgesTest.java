import java.util.List;

/** The boundary cases that promises 36 to 40 name, a test for each sentence. */
public final class ListsEdgesTest {
    private static final int LEAST = Integer.MIN_VALUE;
    private static final int MOST = Integer.MAX_VALUE;

    public static void main(String[] args) {
        told();
        checked();
        faults();
        Due.end();
    }

    private static void told() {
        promise36_anyInt();
        promise36_mostWords();
        promise36_oneMore();
        promise37_leastAndMostBit();
        promise37_noSuchBit();
        promise37_noSuchWord();
        promise37_twiceIsAsItWas();
    }

    private static void checked() {
        promise38_anotherWhat();
        promise38_anEmptyList();
        promise38_severalFaultsTheLeast();
        promise38_oneWord();
        promise38_twoWords();
        promise38_aheadOfTheFirstTheLast();
        promise38_likeOneAheadOfIt();
        promise38_theFirstOfSeveral();
        promise38_inJustOneBitOf32();
        promise38_manyWords();
        promise38_theListStays();
        promise39_anEmptyList();
        promise39_itIsEmptyThen();
    }

    private static void faults() {
        promise40_aNewObject();
        promise40_eachFault();
        promise40_faultLeavesIt();
        promise40_eachCallThatIsNotRefused();
        promise40_ofSeveralTheLeast();
        promise40_noneOrFalseWithoutAFault();
        promise40_theLastCall();
    }

    private static WheelDisc listed(int... words) {
        WheelDisc x = new WheelDisc();
        tellAll(x, words);
        return x;
    }

    private static void tellAll(WheelDisc x, int... words) {
        for (int word : words) {
            x.tell(word);
        }
    }

    private static void promise36_anyInt() {
        WheelDisc x = new WheelDisc();
        int[] words = {0, -1, 1024, LEAST, MOST};
        for (int i = 0; i < words.length; i++) {
            Due.answer(x, "36 tell " + words[i], x.tell(words[i]), i + 1);
        }
        Due.answer(x, "36 tell: no change of the disc", x.count(4), 0);
    }

    private static void promise36_mostWords() {
        WheelDisc x = new WheelDisc();
        for (int i = 1; i <= 512; i++) {
            Due.is("36 tell: word " + i, x.tell(i), i);
        }
    }

    private static void tell512(WheelDisc x) {
        for (int i = 1; i <= 512; i++) {
            x.tell(i);
        }
    }

    /** One call more than an object is promised for, and yet the only way there. */
    private static void promise36_oneMore() {
        Refusal.number("36 tell: one more than 512", ListsEdgesTest::tell512, y -> y.tell(1), 4);
        WheelDisc x = new WheelDisc();
        tell512(x);
        Due.refused(x, "36 tell: one more than 512", x.tell(1), 4);
        Due.answer(x, "36 tell: it is not taken", x.count(6), 512);
        Due.answer(x, "36 tell: it is not taken", x.check(1), -1);
        Due.answer(x, "39 clear: of 512", x.clear(), 512);
        Due.answer(x, "36 tell: room again", x.tell(1), 1);
    }

    private static void promise37_leastAndMostBit() {
        for (int b = 0; b < 32; b++) {
            WheelDisc x = listed(1 << b, 0);
            Due.yes(x, "37 forge: bit " + b + " of the last", x.forge(1, b));
            Due.answer(x, "37 forge: it is light now", x.check(1), 1);
            Due.yes(x, "37 forge: bit " + b + " of the first", x.forge(0, b));
            Due.yes(x, "37 forge: bit " + b + " of the last", x.forge(1, b));
            Due.answer(x, "37 forge: both are dark now", x.check(1), 1);
        }
    }

    private static void promise37_noSuchBit() {
        for (int b : new int[] {-1, 32, 33, 64, LEAST, MOST}) {
            Refusal.truth("37 forge: no bit " + b, x -> x.forge(0, b), 1);
        }
    }

    private static void promise37_noSuchWord() {
        for (int i : new int[] {-1, 3, 512, LEAST, MOST}) {
            Refusal.truth("37 forge: no word " + i, x -> x.forge(i, 0), 1);
        }
        Refusal.truth("37 forge: neither", x -> x.forge(3, 32), 1);
        Refusal.truth("37 forge: an empty list", x -> x.disc(3), x -> x.forge(0, 0), 1);
        Refusal.truth("37 forge: a cleared list", x -> {
            x.tell(5);
            x.clear();
        }, x -> x.forge(0, 0), 1);
    }

    private static void promise37_twiceIsAsItWas() {
        Refusal.changesNothing("37 forge: twice", Refusal::rich, x -> {
            x.forge(1, 3);
            x.forge(1, 3);
        });
    }

    private static void promise38_anotherWhat() {
        for (int what : new int[] {0, 3, -1, LEAST, MOST}) {
            Refusal.number("38 check: what " + what, x -> x.check(what), 1);
        }
    }

    private static void promise38_anEmptyList() {
        for (int what = 1; what <= 2; what++) {
            int of = what;
            Refusal.number("38 check: an empty list", x -> x.disc(3), x -> x.check(of), 2);
            Refusal.number("38 check: a cleared list", x -> {
                x.tell(5);
                x.clear();
            }, x -> x.check(of), 2);
        }
    }

    private static void promise38_severalFaultsTheLeast() {
        Refusal.number("38 check: an empty list, and what 0", x -> x.disc(3), x -> x.check(0), 1);
        Refusal.number("38 check: an empty list, and what 3", x -> x.disc(3), x -> x.check(3), 1);
    }

    private static void check(int unlike, int step, int... words) {
        WheelDisc x = listed(words);
        String what = java.util.Arrays.toString(words);
        x.word(-1);
        Due.answer(x, "38 check(1) of " + what, x.check(1), unlike);
        x.word(-1);
        Due.answer(x, "38 check(2) of " + what, x.check(2), step);
    }

    private static void promise38_oneWord() {
        check(-1, 0, 0);
        check(-1, 0, 1);
        check(-1, 0, LEAST);
    }

    private static void promise38_twoWords() {
        check(-1, -1, 0, 1);
        check(-1, -1, 5, 4);
        check(-1, 0, 0, 3);
        check(1, 0, 3, 3);
    }

    private static void promise38_aheadOfTheFirstTheLast() {
        check(-1, -1, 0, 1, 3, 2);
        check(-1, 0, 0, 1, 3, 7);
        check(-1, 0, 0, 1, 3);
        check(-1, -1, 1, 3, 2, 6, 7, 5);
    }

    private static void promise38_likeOneAheadOfIt() {
        check(2, 0, 1, 0, 1);
        check(3, 3, 0, 1, 3, 1);
        check(3, 0, 0, 1, 3, 0);
        check(4, 4, 2, 0, 1, 3, 1, 0);
        check(5, 0, 8, 0, 1, 3, 2, 8);
    }

    private static void promise38_theFirstOfSeveral() {
        check(2, 1, 1, 2, 2, 3);
        check(-1, 2, 0, 1, 2, 6, 4);
        check(2, 2, 0, 1, 1, 2);
        check(3, 2, 0, 1, 6, 1, 6, 4);
        check(2, 0, 0, 1, 1, 0);
    }

    private static void promise38_inJustOneBitOf32() {
        check(-1, -1, 0, LEAST);
        check(-1, -1, -1, MOST);
        check(-1, 0, -1, 0);
        check(-1, -1, 0, LEAST, LEAST + 1, 1);
        check(-1, 0, LEAST, MOST);
    }

    private static void promise38_manyWords() {
        WheelDisc x = new WheelDisc();
        for (int i = 6; i < 506; i++) {
            x.tell(i ^ (i >> 1));
        }
        Due.answer(x, "38 check: 500 words all unlike", x.check(1), -1);
        Due.answer(x, "38 check: 500 words in steps, round the ring", x.check(2), -1);
        x.forge(499, 31);
        Due.answer(x, "38 check: the last is far off: so is the first from it", x.check(2), 0);
        Due.answer(x, "38 check: yet all are unlike", x.check(1), -1);
        x = new WheelDisc();
        for (int i = 0; i < 499; i++) {
            x.tell(i);
        }
        x.tell(0);
        Due.answer(x, "38 check: the last of 500 is like the first", x.check(1), 499);
    }

    private static void promise38_theListStays() {
        for (int what = 0; what <= 2; what++) {
            int of = what;
            Refusal.changesNothing("38 check: the list stays", Refusal::rich, x -> x.check(of));
        }
    }

    private static void promise39_anEmptyList() {
        WheelDisc x = new WheelDisc();
        Due.answer(x, "39 clear: of no words", x.clear(), 0);
        Due.answer(x, "39 clear: again", x.clear(), 0);
    }

    private static void promise39_itIsEmptyThen() {
        WheelDisc x = listed(1, 1, 1);
        x.drive(1);
        Due.answer(x, "39 clear: of three", x.clear(), 3);
        Due.answer(x, "39 clear: no words", x.count(6), 0);
        Due.answer(x, "39 clear: the drive stays", x.count(5), 1);
        Due.refused(x, "39 clear: nothing to check", x.check(1), 2);
        Due.refused(x, "39 clear: nothing to forge", x.forge(0, 0), 1);
        Due.answer(x, "39 clear: a list anew", x.tell(1), 1);
        Due.answer(x, "39 clear: a list anew", x.check(1), -1);
    }

    private static void promise40_aNewObject() {
        Due.is("40 fault: no call so far", new WheelDisc().fault(), 0);
    }

    private static void promise40_eachFault() {
        WheelDisc x = new WheelDisc();
        x.word(1);
        Due.is("40 fault: there is none such", x.fault(), 1);
        x.track();
        Due.is("40 fault: there is nothing", x.fault(), 2);
        x.rim(1, -1);
        Due.is("40 fault: a length below 0", x.fault(), 3);
        x.gray(4, 10);
        x.rim(0, 1);
        x.track();
        Due.is("40 fault: full", x.fault(), 4);
        x.count(0);
        Due.is("40 fault: not refused", x.fault(), 0);
    }

    private static void promise40_faultLeavesIt() {
        WheelDisc x = new WheelDisc();
        x.rim(1, -1);
        for (int i = 0; i < 3; i++) {
            Due.is("40 fault: of the latest call but fault()", x.fault(), 3);
        }
        Refusal.changesNothing("40 fault: asking changes nothing", Refusal::rich, WheelDisc::fault);
    }

    private static void promise40_eachCallThatIsNotRefused() {
        List<Whole.Calls> calls = List.of(
                x -> x.rim(2, 1), x -> x.rim(3, -1), x -> x.entry(1, 5), x -> x.disc(1), x -> x.track(),
                x -> x.light(1, 5, false), x -> x.reader(1, 5), x -> x.lift(2), x -> x.turn(LEAST), x -> x.mirror(),
                x -> x.swap(0, 2), x -> x.undo(), x -> x.count(0), x -> x.count(3), x -> x.count(7), x -> x.word(5),
                x -> x.seen(2, 0), x -> x.seen(2, 3), x -> x.where(LEAST), x -> x.at(1, 0), x -> x.edge(5),
                x -> x.way(5, 1), x -> x.fewest(), x -> x.blind(), x -> x.spare(), x -> x.form(5), x -> x.keep(),
                x -> x.same(), x -> x.gray(4, 2), x -> x.chain(1, 1), x -> x.single(6, 3, 8), x -> x.single(6, 3, 7),
                x -> x.single(2, 2, 4), x -> x.go(5), x -> x.go(1), x -> x.go(64), x -> x.drive(LEAST), x -> x.halt(),
                x -> x.slip(), x -> x.stands(2), x -> x.stand(1), x -> x.mend(), x -> x.tell(LEAST),
                x -> x.forge(2, 31), x -> x.check(1), x -> x.check(2), x -> x.clear());
        for (int i = 0; i < calls.size(); i++) {
            WheelDisc x = new WheelDisc();
            Refusal.rich(x);
            x.rim(0, -1);
            Due.is("40 fault: refused", x.fault(), 3);
            calls.get(i).make(x);
            Due.is("40 fault: call " + i + " was not refused", x.fault(), 0);
        }
    }

    private static void promise40_ofSeveralTheLeast() {
        Refusal.number("40 fault: of 1 and 3", x -> x.rim(4, -1), 1);
        Refusal.number("40 fault: of 1 and 2", x -> x.disc(2), x -> x.go(-1), 1);
        Refusal.number("40 fault: of 1 and 4", x -> {
            x.gray(4, 10);
        }, x -> x.reader(10, 0), 1);
        Refusal.number("40 fault: of 2 and 4", x -> {
            x.gray(4, 10);
        }, WheelDisc::track, 2);
        Refusal.truth("40 fault: of 1 and 2, the 2 asked ahead", x -> x.disc(2), x -> x.entry(-1, 0), 2);
    }

    private static void promise40_noneOrFalseWithoutAFault() {
        WheelDisc x = new WheelDisc();
        x.word(-1);
        Due.answer(x, "40 fault: count(7) without a rim", x.count(7), -1);
        x.word(-1);
        Due.answer(x, "40 fault: fewest() of one sector", x.fewest(), -1);
        x.word(-1);
        Due.answer(x, "40 fault: slip() without one", x.slip(), -1);
        x.word(-1);
        Due.answer(x, "40 fault: mend() without a slip", x.mend(), -1);
        x.tell(1);
        x.word(-1);
        Due.answer(x, "40 fault: check() of a list as it should be", x.check(1), -1);
        x.keep();
        x.disc(2);
        x.word(-1);
        Due.no(x, "40 fault: same() of another disc", x.same());
    }

    private static void promise40_theLastCall() {
        WheelDisc x = new WheelDisc();
        for (int call = 1; call < 511; call++) {
            x.turn(call);
        }
        x.word(1);
        Due.is("40 fault: an object's 512th call", x.fault(), 1);
    }
}
