/** What the tests share: compares answers with those that are due, and ends with exit code 1 if one was wrong. */
final class Due {
    private static int wrong = 0;
    private static int asked = 0;

    private Due() {
    }

    static void is(String what, long got, long want) {
        asked++;
        if (got != want) {
            wrong++;
            System.out.println(what + " answered " + got + ", due is " + want);
        }
    }

    static void same(String what, String got, String want) {
        asked++;
        if (!got.equals(want)) {
            wrong++;
            System.out.println(what + ": " + got + ", due is " + want);
        }
    }

    /** An answer of a call that is not refused: fault() must tell 0. */
    static void answer(WheelDisc x, String what, long got, long want) {
        is(what, got, want);
        is(what + ": fault()", x.fault(), 0);
    }

    static void yes(WheelDisc x, String what, boolean got) {
        answer(x, what, got ? 1 : 0, 1);
    }

    static void no(WheelDisc x, String what, boolean got) {
        answer(x, what, got ? 1 : 0, 0);
    }

    static void refused(WheelDisc x, String what, int got, int fault) {
        is(what, got, WheelDisc.NONE);
        is(what + ": fault()", x.fault(), fault);
    }

    static void refused(WheelDisc x, String what, boolean got, int fault) {
        is(what, got ? 1 : 0, 0);
        is(what + ": fault()", x.fault(), fault);
    }

    static void words(WheelDisc x, String what, int... want) {
        answer(x, what + ": count(0)", x.count(0), want.length);
        for (int s = 0; s < want.length; s++) {
            answer(x, what + ": word(" + s + ")", x.word(s), want[s]);
        }
    }

    static void form(WheelDisc x, String what, int... want) {
        for (int i = 0; i < want.length; i++) {
            answer(x, what + ": form(" + i + ")", x.form(i), want[i]);
        }
    }

    /** A track of lights ('1') and darks, by a rim of longs. */
    static int track(WheelDisc x, String lights) {
        x.rim(2, (lights.length() + 63) / 64);
        long[] entries = new long[(lights.length() + 63) / 64];
        for (int i = 0; i < lights.length(); i++) {
            if (lights.charAt(i) == '1') {
                entries[i / 64] |= 1L << (i % 64);
            }
        }
        for (int i = 0; i < entries.length; i++) {
            x.entry(i, entries[i]);
        }
        return x.track();
    }

    /** A disc whose tracks are read at place 0, a reader each. */
    static WheelDisc disc(String... tracks) {
        WheelDisc x = new WheelDisc();
        x.disc(tracks[0].length());
        for (String lights : tracks) {
            x.reader(track(x, lights), 0);
        }
        return x;
    }

    /** A disc of one track, with readers at these places. */
    static WheelDisc ring(String lights, int... places) {
        WheelDisc x = new WheelDisc();
        ring(x, lights, places);
        return x;
    }

    static void ring(WheelDisc x, String lights, int... places) {
        x.disc(lights.length());
        track(x, lights);
        for (int place : places) {
            x.reader(0, place);
        }
    }

    static void end() {
        System.out.println(wrong == 0 ? "all " + asked + " answers are as due" : wrong + " answers are not as due");
        if (wrong != 0) {
            System.exit(1);
        }
    }
}
