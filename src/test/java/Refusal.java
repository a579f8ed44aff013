import java.util.List;
import java.util.function.Predicate;
import java.util.function.ToIntFunction;

/** What holds for each refused call: its answer, its FAULT, and that nothing else has changed. */
final class Refusal {
    private Refusal() {
    }

    /** Something of each kind is there: tracks, readers, a rim, a drive, a list, what is kept, a search, changes. */
    static void rich(WheelDisc x) {
        x.disc(6);
        Due.track(x, "000111");
        x.reader(0, 0);
        x.reader(0, 2);
        x.reader(0, 4);
        x.keep();
        Due.track(x, "010010");
        x.light(1, 5, true);
        x.drive(1);
        x.drive(3);
        x.drive(9);
        x.tell(4);
        x.tell(12);
        x.tell(13);
        x.single(6, 3, 3);
        x.rim(1, 2);
        x.entry(0, 0x2345);
        x.entry(1, -7);
    }

    static void number(String sentence, ToIntFunction<WheelDisc> call, int fault) {
        number(sentence, Refusal::rich, call, fault);
    }

    static void number(String sentence, Whole.Calls lead, ToIntFunction<WheelDisc> call, int fault) {
        WheelDisc x = new WheelDisc();
        lead.make(x);
        Due.is(sentence, call.applyAsInt(x), WheelDisc.NONE);
        faultIs(sentence, x, fault);
        changesNothing(sentence, lead, call::applyAsInt);
    }

    static void truth(String sentence, Predicate<WheelDisc> call, int fault) {
        truth(sentence, Refusal::rich, call, fault);
    }

    static void truth(String sentence, Whole.Calls lead, Predicate<WheelDisc> call, int fault) {
        WheelDisc x = new WheelDisc();
        lead.make(x);
        Due.is(sentence, call.test(x) ? 1 : 0, 0);
        faultIs(sentence, x, fault);
        changesNothing(sentence, lead, call::test);
    }

    private static void faultIs(String sentence, WheelDisc x, int fault) {
        Due.is(sentence + ": fault()", x.fault(), fault);
        Due.is(sentence + ": fault() again", x.fault(), fault);
        x.count(0);
        Due.is(sentence + ": fault() behind the next call", x.fault(), 0);
    }

    /** Two objects, made by the same calls, the one with this call behind them, are alike in all that can be seen. */
    static void changesNothing(String sentence, Whole.Calls lead, Whole.Calls call) {
        List<String> without = Whole.of(lead);
        List<String> with = Whole.of(x -> {
            lead.make(x);
            call.make(x);
        });
        Due.is(sentence + ": as much is seen", with.size(), without.size());
        for (int i = 0; i < Math.min(with.size(), without.size()); i++) {
            Due.same(sentence + ": changes nothing", with.get(i), without.get(i));
        }
    }
}
