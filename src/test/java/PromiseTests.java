// The promises one by one: ordinary inputs, the edges that the document names, and wrong inputs.
// No answer due here was taken from the program: they come from the document's words, the code words
// of 1, 2, 4, .. 128 from a script apart from it, and 7918 and 3022 from ../shared/tests.
public final class PromiseTests {
    private static final int BAD = -1;
    private static final int BROKEN = -2;
    private static final int[] NO_WORDS = {-1, -16, 16, 17, 32, Integer.MIN_VALUE, Integer.MAX_VALUE};
    private static final int[] NO_BYTES = {-1, -2, 256, 257, 512, Integer.MIN_VALUE, Integer.MAX_VALUE};
    private static final int[] NO_BITS = {-1, 13, 14, 31, 32, Integer.MIN_VALUE, Integer.MAX_VALUE};
    // The code words of 1, 2, 4, .. 128: the byte's bit, the check bits that its number has, and bit 0 if that is odd.
    private static final int[] ONE_BIT_CODES = {15, 51, 85, 150, 771, 1285, 2310, 4369};
    private static final int CODE_OF_255 = 7918;
    private static int wrong = 0;

    private static void due(String call, int got, int want) {
        if (got != want) {
            wrong++;
            System.out.println(call + " answered " + got + ", due is " + want);
        }
    }

    public static void main(String[] args) {
        constants();
        newObject();
        writeAnswersTheCodeWord();
        writeReplacesAnyWord();
        writeRefuses();
        flipTurnsOneBit();
        flipRefuses();
        readSeesThroughOneError();
        readChangesNothing();
        repairTurnsTheBitBack();
        repairLeavesBrokenWords();
        scrubCountsTurnedBits();
        scrubGoesRound();
        scrubClampsItsCount();
        handFollowsScrubAlone();
        brokenAndMarredCount();
        raw();
        distance();
        nearest();
        mixOfSoundWords();
        mixOfAWordWithItself();
        mixRefuses();
        scrubGoesOnBehindBrokenWords();
        objectsAreApart();
        System.out.println(wrong == 0 ? "all answers are as due" : wrong + " answers are not as due");
        if (wrong != 0) {
            System.exit(1);
        }
    }

    private static ScrubbedCells withBrokenWord(int w) {
        ScrubbedCells x = new ScrubbedCells();
        x.flip(w, 4);
        x.flip(w, 9);
        return x;
    }

    private static void constants() {
        due("face: BAD", ScrubbedCells.BAD, BAD);
        due("face: BROKEN", ScrubbedCells.BROKEN, BROKEN);
    }

    private static void newObject() {
        ScrubbedCells x = new ScrubbedCells();
        for (int w = 0; w < 16; w++) {
            due("1: raw(" + w + ")", x.raw(w), 0);
            due("1: read(" + w + ")", x.read(w), 0);
            due("1: distance(" + w + ", 0)", x.distance(w, 0), 0);
        }
        due("1: broken()", x.broken(), 0);
        due("1: marred()", x.marred(), 0);
        due("1: hand()", x.hand(), 0);
    }

    private static void writeAnswersTheCodeWord() {
        ScrubbedCells x = new ScrubbedCells();
        for (int i = 0; i < 8; i++) {
            due("2: write(" + i + ", 1 << " + i + ")", x.write(i, 1 << i), ONE_BIT_CODES[i]);
            due("2: raw(" + i + ")", x.raw(i), ONE_BIT_CODES[i]);
        }
        due("2: write(15, 255)", x.write(15, 255), CODE_OF_255);
        due("2: raw(15)", x.raw(15), CODE_OF_255);
        due("2: write(15, 0)", x.write(15, 0), 0);
        due("2: raw(14)", x.raw(14), 0);
    }

    private static void writeReplacesAnyWord() {
        ScrubbedCells x = withBrokenWord(6);
        due("2: write(6, 1) on a broken word", x.write(6, 1), 15);
        x.flip(6, 0);
        due("2: write(6, 1) on a marred word", x.write(6, 1), 15);
        due("2: read(6)", x.read(6), 1);
    }

    private static void writeRefuses() {
        ScrubbedCells x = new ScrubbedCells();
        x.write(0, 255);
        x.write(15, 255);
        for (int w : NO_WORDS) {
            due("2: write(" + w + ", 1)", x.write(w, 1), BAD);
            due("2: write(" + w + ", 256)", x.write(w, 256), BAD);
        }
        for (int value : NO_BYTES) {
            due("2: write(0, " + value + ")", x.write(0, value), BAD);
            due("2: write(15, " + value + ")", x.write(15, value), BAD);
        }
        due("2: raw(0) after refusals", x.raw(0), CODE_OF_255);
        due("2: raw(15) after refusals", x.raw(15), CODE_OF_255);
    }

    private static void flipTurnsOneBit() {
        ScrubbedCells x = new ScrubbedCells();
        for (int bit = 0; bit < 13; bit++) {
            due("3: flip(15, " + bit + ") on", x.flip(15, bit), 1 << bit);
            due("3: raw(15)", x.raw(15), 1 << bit);
            due("3: flip(15, " + bit + ") off", x.flip(15, bit), 0);
        }
        x.write(0, 255);
        due("3: flip(0, 12)", x.flip(0, 12), 3822);
        due("3: flip(0, 0)", x.flip(0, 0), 3823);
        due("3: raw(1)", x.raw(1), 0);
    }

    private static void flipRefuses() {
        ScrubbedCells x = new ScrubbedCells();
        for (int w : NO_WORDS) {
            due("3: flip(" + w + ", 0)", x.flip(w, 0), BAD);
            due("3: flip(" + w + ", 13)", x.flip(w, 13), BAD);
        }
        for (int bit : NO_BITS) {
            due("3: flip(0, " + bit + ")", x.flip(0, bit), BAD);
            due("3: flip(15, " + bit + ")", x.flip(15, bit), BAD);
        }
        due("3: raw(0) after refusals", x.raw(0), 0);
        due("3: raw(15) after refusals", x.raw(15), 0);
        due("3: marred() after refusals", x.marred(), 0);
    }

    private static void readSeesThroughOneError() {
        ScrubbedCells x = new ScrubbedCells();
        x.write(9, 165);
        due("4: read(9)", x.read(9), 165);
        for (int bit = 0; bit < 13; bit++) {
            x.flip(9, bit);
            due("4: read(9) with bit " + bit + " turned", x.read(9), 165);
            int other = (bit + 5) % 13;
            x.flip(9, other);
            due("4: read(9) with bits " + bit + " and " + other + " turned", x.read(9), BROKEN);
            x.flip(9, other);
            x.flip(9, bit);
        }
        for (int w : NO_WORDS) {
            due("4: read(" + w + ")", x.read(w), BAD);
        }
    }

    private static void readChangesNothing() {
        ScrubbedCells x = withBrokenWord(2);
        x.flip(3, 8);
        due("4: read(2)", x.read(2), BROKEN);
        due("4: read(3)", x.read(3), 0);
        due("4: raw(2) after read", x.raw(2), 1 << 4 | 1 << 9);
        due("4: raw(3) after read", x.raw(3), 1 << 8);
        due("4: hand() after read", x.hand(), 0);
    }

    private static void repairTurnsTheBitBack() {
        ScrubbedCells x = new ScrubbedCells();
        due("5: repair(15) of a code word", x.repair(15), 13);
        x.write(15, 255);
        due("5: repair(15) of a code word", x.repair(15), 13);
        for (int bit = 0; bit < 13; bit++) {
            x.flip(15, bit);
            due("5: repair(15) with bit " + bit + " turned", x.repair(15), bit);
            due("5: raw(15) after repair", x.raw(15), CODE_OF_255);
        }
        x.flip(0, 3);
        x.repair(15);
        due("5: raw(0) after repair(15)", x.raw(0), 8);
        for (int w : NO_WORDS) {
            due("5: repair(" + w + ")", x.repair(w), BAD);
        }
        due("5: hand() after repair", x.hand(), 0);
    }

    private static void repairLeavesBrokenWords() {
        ScrubbedCells x = withBrokenWord(0);
        due("5: repair(0) with two bits turned", x.repair(0), BROKEN);
        due("5: raw(0)", x.raw(0), 1 << 4 | 1 << 9);
        // The bits 1, 2 and 12 are odd in all four groups, and there is no bit 15 to blame.
        x.flip(1, 1);
        x.flip(1, 2);
        x.flip(1, 12);
        due("5: repair(1) with three bits turned", x.repair(1), BROKEN);
        due("5: raw(1)", x.raw(1), 4102);
        // The bits 4, 8 and 12 are even in every group, so only bit 0 is amiss: this is the byte 128.
        x.flip(2, 4);
        x.flip(2, 8);
        x.flip(2, 12);
        due("5: read(2) with three bits turned", x.read(2), 128);
        due("5: repair(2) with three bits turned", x.repair(2), 0);
        due("5: raw(2)", x.raw(2), 4369);
    }

    private static void scrubCountsTurnedBits() {
        ScrubbedCells x = withBrokenWord(1);
        x.flip(0, 0);
        x.flip(2, 12);
        x.flip(3, 7);
        due("6: scrub(3)", x.scrub(3), 2);
        due("6: raw(0)", x.raw(0), 0);
        due("6: raw(1)", x.raw(1), 1 << 4 | 1 << 9);
        due("6: raw(2)", x.raw(2), 0);
        due("6: raw(3), not reached", x.raw(3), 1 << 7);
        due("6: scrub(1)", x.scrub(1), 1);
        due("6: raw(3)", x.raw(3), 0);
        due("6: scrub(16)", x.scrub(16), 0);
    }

    private static void scrubGoesRound() {
        ScrubbedCells x = new ScrubbedCells();
        x.scrub(14);
        for (int w = 0; w < 16; w++) {
            x.flip(w, w % 13);
        }
        due("6: scrub(3) from word 14", x.scrub(3), 3);
        due("6: hand()", x.hand(), 1);
        due("6: raw(14)", x.raw(14), 0);
        due("6: raw(15)", x.raw(15), 0);
        due("6: raw(0)", x.raw(0), 0);
        due("6: raw(1), not reached", x.raw(1), 2);
        due("6: scrub(16)", x.scrub(16), 13);
        due("6: hand()", x.hand(), 1);
        due("6: marred()", x.marred(), 0);
    }

    private static void scrubClampsItsCount() {
        ScrubbedCells x = new ScrubbedCells();
        x.flip(0, 5);
        int[] none = {0, -1, -32, Integer.MIN_VALUE};
        for (int count : none) {
            due("6: scrub(" + count + ")", x.scrub(count), 0);
            due("6: hand() after scrub(" + count + ")", x.hand(), 0);
        }
        due("6: raw(0), not reached", x.raw(0), 1 << 5);
        due("6: scrub(17)", x.scrub(17), 1);
        due("6: hand() after scrub(17)", x.hand(), 1);
        due("6: scrub(31)", x.scrub(31), 0);
        due("6: hand() after scrub(31)", x.hand(), 0);
        int[] most = {32, 33, 40, 1000003, Integer.MAX_VALUE};
        for (int count : most) {
            x.flip(15, 1);
            due("6: scrub(" + count + ")", x.scrub(count), 1);
            due("6: hand() after scrub(" + count + ")", x.hand(), 0);
        }
    }

    private static void handFollowsScrubAlone() {
        ScrubbedCells x = new ScrubbedCells();
        for (int i = 1; i <= 40; i++) {
            x.scrub(1);
            due("7: hand() after " + i + " of scrub(1)", x.hand(), i % 16);
        }
        x.write(3, 7);
        x.flip(3, 1);
        x.repair(3);
        x.mix(3, 4);
        due("7: hand() after calls that are not scrub", x.hand(), 8);
        due("7: hand() again", x.hand(), 8);
    }

    private static void brokenAndMarredCount() {
        ScrubbedCells x = new ScrubbedCells();
        for (int w = 0; w < 16; w++) {
            x.flip(w, 12);
            due("8: broken() with words 0 to " + w + " marred", x.broken(), 0);
            due("9: marred() with words 0 to " + w + " marred", x.marred(), w + 1);
        }
        for (int w = 0; w < 16; w++) {
            x.flip(w, 0);
            due("8: broken() with words 0 to " + w + " broken", x.broken(), w + 1);
            due("9: marred() with words 0 to " + w + " broken", x.marred(), 15 - w);
        }
        x.write(7, 200);
        due("8: broken() after write", x.broken(), 15);
        due("9: marred() after write", x.marred(), 0);
    }

    private static void raw() {
        ScrubbedCells x = new ScrubbedCells();
        for (int bit = 0; bit < 13; bit++) {
            x.flip(15, bit);
            due("10: raw(15) with bits 0 to " + bit, x.raw(15), (2 << bit) - 1);
        }
        due("10: raw(14)", x.raw(14), 0);
        for (int w : NO_WORDS) {
            due("10: raw(" + w + ")", x.raw(w), BAD);
        }
    }

    private static void distance() {
        ScrubbedCells x = new ScrubbedCells();
        for (int i = 0; i < 8; i++) {
            due("11: distance(0, 1 << " + i + ")", x.distance(0, 1 << i), 4);
        }
        due("11: distance(0, 255)", x.distance(0, 255), 10);
        for (int bit = 0; bit < 13; bit++) {
            x.flip(15, bit);
            due("11: distance(15, 0) with " + (bit + 1) + " bits turned", x.distance(15, 0), bit + 1);
        }
        due("11: distance(15, 255)", x.distance(15, 255), 3);
        due("11: raw(15) after distance", x.raw(15), 8191);
        for (int w : NO_WORDS) {
            due("11: distance(" + w + ", 0)", x.distance(w, 0), BAD);
            due("11: distance(" + w + ", 256)", x.distance(w, 256), BAD);
        }
        for (int value : NO_BYTES) {
            due("11: distance(15, " + value + ")", x.distance(15, value), BAD);
        }
    }

    private static void nearest() {
        ScrubbedCells x = new ScrubbedCells();
        due("12: nearest(15) of a code word", x.nearest(15), 1);
        x.flip(15, 0);
        due("12: nearest(15) with bit 0 turned", x.nearest(15), 1001);
        x.flip(15, 12);
        // Two bits apart are the pairs whose numbers have the exclusive or 12:
        // 0 and 12, 1 and no 13, 2 and no 14, 3 and no 15, 4 and 8, 5 and 9, 6 and 10, 7 and 11.
        due("12: nearest(15) with bits 0 and 12 turned", x.nearest(15), 2005);
        due("12: raw(15) after nearest", x.raw(15), 4097);
        x.flip(14, 1);
        x.flip(14, 2);
        x.flip(14, 12);
        due("12: nearest(14) with bits 1, 2 and 12 turned", x.nearest(14), 3022);
        for (int w : NO_WORDS) {
            due("12: nearest(" + w + ")", x.nearest(w), BAD);
        }
    }

    private static void mixOfSoundWords() {
        ScrubbedCells x = new ScrubbedCells();
        x.write(0, 0xF0);
        x.write(15, 0x3C);
        due("13: mix(0, 15)", x.mix(0, 15), 0xCC);
        due("13: read(15)", x.read(15), 0xCC);
        due("13: read(0)", x.read(0), 0xF0);
        x.write(1, 255);
        x.write(2, 254);
        x.flip(1, 6);
        x.flip(2, 0);
        due("13: mix(1, 2) of marred words", x.mix(1, 2), 1);
        due("13: raw(2) is a code word", x.raw(2), 15);
        due("13: raw(1) stays marred", x.raw(1), CODE_OF_255 ^ 1 << 6);
    }

    private static void mixOfAWordWithItself() {
        ScrubbedCells x = new ScrubbedCells();
        x.write(5, 99);
        x.flip(5, 2);
        due("13: mix(5, 5)", x.mix(5, 5), 0);
        due("13: raw(5)", x.raw(5), 0);
        x.flip(5, 2);
        x.flip(5, 3);
        due("13: mix(5, 5) of a broken word", x.mix(5, 5), BROKEN);
        due("13: raw(5)", x.raw(5), 12);
    }

    private static void mixRefuses() {
        ScrubbedCells x = withBrokenWord(3);
        x.write(4, 17);
        x.flip(4, 1);
        int marredWord = x.raw(4);
        due("13: mix(3, 4)", x.mix(3, 4), BROKEN);
        due("13: mix(4, 3)", x.mix(4, 3), BROKEN);
        due("13: raw(3) after BROKEN", x.raw(3), 1 << 4 | 1 << 9);
        due("13: raw(4) after BROKEN", x.raw(4), marredWord);
        for (int w : NO_WORDS) {
            due("13: mix(" + w + ", 4)", x.mix(w, 4), BAD);
            due("13: mix(4, " + w + ")", x.mix(4, w), BAD);
            due("13: mix(" + w + ", 3), also broken", x.mix(w, 3), BAD);
            due("13: mix(3, " + w + "), also broken", x.mix(3, w), BAD);
        }
        due("13: raw(4) after BAD", x.raw(4), marredWord);
    }

    private static void scrubGoesOnBehindBrokenWords() {
        ScrubbedCells x = withBrokenWord(2);
        x.flip(3, 10);
        due("14: scrub(3) ending at a broken word", x.scrub(3), 0);
        due("14: hand()", x.hand(), 3);
        due("14: scrub(0)", x.scrub(0), 0);
        due("14: hand() after scrub(0)", x.hand(), 3);
        due("14: raw(3) after scrub(0)", x.raw(3), 1 << 10);
        due("14: scrub(-5)", x.scrub(-5), 0);
        due("14: hand() after scrub(-5)", x.hand(), 3);
        due("14: scrub(1)", x.scrub(1), 1);
        due("14: hand()", x.hand(), 4);
        ScrubbedCells y = withBrokenWord(15);
        y.scrub(15);
        due("14: hand() at a broken word", y.hand(), 15);
        due("14: scrub(1) of broken word 15", y.scrub(1), 0);
        due("14: hand() behind broken word 15", y.hand(), 0);
    }

    private static void objectsAreApart() {
        ScrubbedCells x = new ScrubbedCells();
        ScrubbedCells y = new ScrubbedCells();
        x.write(0, 255);
        x.scrub(5);
        due("1: raw(0) of another object", y.raw(0), 0);
        due("1: hand() of another object", y.hand(), 0);
    }
}
