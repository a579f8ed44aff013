/** Promises 30 to 35. */
public final class DrivesTest {
    private static final int LEAST = Integer.MIN_VALUE;
    private static final int MOST = Integer.MAX_VALUE;

    public static void main(String[] args) {
        drive30();
        halt31();
        slip32();
        stands33stand34();
        followedAnewOnAnotherDisc32();
        mend35();
        mendChoosesTheNearest35();
        Due.end();
    }

    private static void driveAll(WheelDisc x, int... words) {
        for (int word : words) {
            x.drive(word);
        }
    }

    private static void drive30() {
        WheelDisc x = new WheelDisc();
        int[] words = {0, 5, -1, LEAST, MOST};
        for (int i = 0; i < words.length; i++) {
            Due.answer(x, "drive", x.drive(words[i]), i + 1);
        }
        for (int i = words.length; i < 2000; i++) {
            x.drive(0);
        }
        Due.answer(x, "drive is no change", x.count(4), 0);
        Due.answer(x, "drive: words", x.count(5), 2000);
        Due.refused(x, "drive: full", x.drive(0), 4);
        Due.answer(x, "drive: words", x.count(5), 2000);
    }

    private static void halt31() {
        WheelDisc x = new WheelDisc();
        Due.answer(x, "halt of none", x.halt(), 0);
        driveAll(x, 1, 1, 1);
        Due.answer(x, "slip", x.slip(), 0);
        Due.answer(x, "halt", x.halt(), 3);
        Due.answer(x, "halt: words", x.count(5), 0);
        Due.answer(x, "halt: no slip", x.slip(), WheelDisc.NONE);
        Due.refused(x, "halt: no word", x.stands(0), 1);
        Due.answer(x, "drive anew", x.drive(0), 1);
        Due.answer(x, "stands anew", x.stands(0), 1);
    }

    private static void slip32() {
        WheelDisc x = new WheelDisc();
        x.gray(6, 3);
        Due.answer(x, "slip of no words is not refused", x.slip(), WheelDisc.NONE);
        driveAll(x, 5, 1, 1, 3, 1, 5, 7);
        Due.answer(x, "no slip to and fro, round the ring", x.slip(), WheelDisc.NONE);
        x.drive(2);
        Due.answer(x, "a slip", x.slip(), 7);
        driveAll(x, 2, 7);
        Due.answer(x, "the first slip", x.slip(), 7);
        Due.answer(x, "behind the slip none", x.stands(9), 0);
        x.halt();
        x.drive(-1);
        Due.answer(x, "a slip at the first word", x.slip(), 0);
    }

    private static void stands33stand34() {
        WheelDisc x = Due.disc("0000110");
        driveAll(x, 0, 1, 0, 0, 1, 1, 0);
        int[] counts = {5, 2, 2, 4, 2, 2, 2};
        int[] leasts = {0, 4, 3, 0, 4, 4, 3};
        for (int i = 0; i < counts.length; i++) {
            Due.answer(x, "stands " + i, x.stands(i), counts[i]);
            Due.answer(x, "stand " + i, x.stand(i), leasts[i]);
        }
        Due.refused(x, "stands 7", x.stands(7), 1);
        Due.refused(x, "stands -1", x.stands(-1), 1);
        Due.refused(x, "stands far", x.stands(MOST), 1);
        Due.refused(x, "stand 7", x.stand(7), 1);
        Due.refused(x, "stand -1", x.stand(-1), 1);
        Due.refused(x, "stand far", x.stand(LEAST), 1);
        x.drive(2);
        Due.answer(x, "stands at the slip", x.stands(7), 0);
        Due.refused(x, "stand at the slip", x.stand(7), 1);
        x.drive(0);
        Due.answer(x, "stands behind the slip", x.stands(8), 0);
        Due.refused(x, "stand behind the slip", x.stand(8), 1);
        WheelDisc y = Due.ring("1", 0);
        driveAll(y, 1, 1, 0);
        Due.answer(y, "one sector", y.stands(1), 1);
        Due.answer(y, "one sector", y.stand(1), 0);
        Due.answer(y, "one sector", y.slip(), 2);
        y = Due.ring("01", 0);
        driveAll(y, 1, 0, 1, 1);
        Due.answer(y, "two sectors", y.stands(3), 1);
        Due.answer(y, "two sectors", y.stand(3), 1);
    }

    private static void followedAnewOnAnotherDisc32() {
        WheelDisc x = Due.ring("0011", 0, 1);
        driveAll(x, 0, 1, 3, 2);
        Due.answer(x, "no slip", x.slip(), WheelDisc.NONE);
        x.light(0, 0, true);
        Due.answer(x, "a slip on the disc as it is now", x.slip(), 0);
        x.undo();
        Due.answer(x, "no slip behind an undo", x.slip(), WheelDisc.NONE);
        x.turn(1);
        Due.answer(x, "stands on the turned disc", x.stand(0), 3);
        x.gray(4, 3);
        Due.answer(x, "no slip on the gray disc", x.slip(), WheelDisc.NONE);
        x.disc(4);
        Due.answer(x, "a slip without readers", x.slip(), 1);
        Due.answer(x, "stands without readers", x.stands(0), 4);
    }

    private static void mend35() {
        WheelDisc x = new WheelDisc();
        Due.answer(x, "mend of no words is not refused", x.mend(), WheelDisc.NONE);
        x.gray(8, 3);
        x.drive(0);
        Due.answer(x, "mend without a slip is not refused", x.mend(), WheelDisc.NONE);
        x.drive(2);
        Due.answer(x, "mend: the word itself, far away", x.mend(), 3);
        Due.answer(x, "mend leaves the slip", x.slip(), 1);
        x.drive(5);
        Due.answer(x, "mend: for the slip alone", x.mend(), 3);
        x.halt();
        x.drive(-1);
        Due.answer(x, "mend: the fewest of 32 bits", x.mend(), 5);
        x.halt();
        x.drive(8 + 1);
        Due.answer(x, "mend: a bit that no reader has", x.mend(), 1);
        x.disc(3);
        Due.answer(x, "mend: all alike, to 0", x.mend(), 0);
        x.gray(512, 10);
        Due.answer(x, "no slip on the largest disc", x.slip(), WheelDisc.NONE);
        x.drive(256 + 512);
        Due.answer(x, "mend on the largest disc", x.mend(), 511);
    }

    private static void mendChoosesTheNearest35() {
        WheelDisc x = Due.disc("000100010");
        x.drive(3);
        Due.answer(x, "first word: the nearest to 0 round the ring", x.mend(), 7);
        x = Due.disc("001000010");
        x.drive(3);
        Due.answer(x, "first word: two as near, the least", x.mend(), 2);
        x = Due.disc("100010000", "000001000");
        driveAll(x, 1, 3);
        Due.answer(x, "the nearest to the least stand ahead: itself", x.mend(), 5);
        x = Due.disc("1010000000", "0000010000", "1010000001");
        driveAll(x, 2, 13);
        Due.answer(x, "the nearest to stand 5, not to 0", x.mend(), 2);
        x.turn(5);
        Due.answer(x, "the nearest to stand 0, round the ring", x.mend(), 7);
        x = Due.disc("0001000001", "1000000100");
        driveAll(x, 1, 8 + 2);
        Due.answer(x, "two stands ahead: the least of them counts", x.mend(), 9);
    }
}
