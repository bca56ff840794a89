import java.util.function.IntSupplier;

// The document's boundary cases: each sentence that names one has a test of its own, under the sentence's words.
// The answers due come from the document's words or from a script apart from the program, never from the program.
public final class BoundaryTests {
    private static final int BAD = -1;
    private static final int BROKEN = -2;
    // Beside numbers just outside: ones that a mask, a cast or a shift would bring back inside.
    private static final int[] NO_WORDS = {-1, 16, -15, 17, 31, 256, 65536, Integer.MIN_VALUE, Integer.MAX_VALUE};
    private static final int[] NO_BYTES = {-1, 256, -255, 257, 511, 65536, Integer.MIN_VALUE, Integer.MAX_VALUE};
    private static final int[] NO_BITS = {-1, 13, -12, 14, 16, 32, 44, Integer.MIN_VALUE, Integer.MAX_VALUE};
    private static final int[] DATA_BITS = {3, 5, 6, 7, 9, 10, 11, 12};
    private static final int CODE_OF_1 = 15;
    private static final int CODE_OF_15 = 255;
    private static final int CODE_OF_128 = 4369;
    private static final int CODE_OF_165 = 5198;
    private static final int CODE_OF_255 = 7918;

    private static String sentence = "";
    private static int wrong = 0;

    private static void due(String call, int got, int want) {
        if (got != want) {
            wrong++;
            System.out.println("\"" + sentence + "\": " + call + " answered " + got + ", due is " + want);
        }
    }

    private static void test(String words, Runnable body) {
        sentence = words;
        try {
            body.run();
        } catch (RuntimeException thrown) {
            // No call may throw, and one that does must not hide the sentences behind it.
            wrong++;
            System.out.println("\"" + sentence + "\": a call threw " + thrown);
        }
    }

    public static void main(String[] args) {
        limitOfCalls();
        terms();
        newObject();
        write();
        flip();
        read();
        repair();
        scrub();
        hand();
        broken();
        marred();
        raw();
        distance();
        nearest();
        mix();
        order();
        System.out.println(wrong == 0 ? "all answers are as due" : wrong + " answers are not as due");
        if (wrong != 0) {
            System.exit(1);
        }
    }

    // Words of each kind at both ends, and the hand inside, so that hardly a stray change goes unseen.
    private static ScrubbedCells variedObject() {
        ScrubbedCells x = new ScrubbedCells();
        x.scrub(5);
        x.write(0, 255);
        x.flip(0, 12);
        breakWord(x, 1);
        x.write(2, 165);
        breakWord(x, 5);
        x.flip(6, 3);
        x.write(13, 128);
        breakWord(x, 14);
        x.write(15, 1);
        x.flip(15, 0);
        return x;
    }

    private static void breakWord(ScrubbedCells x, int w) {
        x.flip(w, 4);
        x.flip(w, 9);
    }

    private static void setWord(ScrubbedCells x, int w, int word) {
        x.write(w, 0);
        for (int bit = 0; bit < 13; bit++) {
            if ((word >> bit & 1) == 1) {
                x.flip(w, bit);
            }
        }
    }

    private static int[] stateOf(ScrubbedCells x) {
        int[] state = new int[17];
        for (int w = 0; w < 16; w++) {
            state[w] = x.raw(w);
        }
        state[16] = x.hand();
        return state;
    }

    private static void answersAndLeavesAll(String call, ScrubbedCells x, IntSupplier made, int want) {
        int[] before = stateOf(x);
        due(call, made.getAsInt(), want);
        int[] after = stateOf(x);
        for (int w = 0; w < 16; w++) {
            due("raw(" + w + ") after " + call, after[w], before[w]);
        }
        due("hand() after " + call, after[16], before[16]);
    }

    private static void limitOfCalls() {
        test("An object is used for at most 512 calls after it has been made", () -> {
            due("write as 512th call", afterCalls511().write(4, 255), CODE_OF_255);
            due("flip as 512th call", afterCalls511().flip(3, 7), CODE_OF_165);
            due("read as 512th call", afterCalls511().read(3), 165);
            due("repair as 512th call", afterCalls511().repair(3), 7);
            due("scrub as 512th call", afterCalls511().scrub(32), 1);
            due("hand as 512th call", afterCalls511().hand(), 3);
            due("broken as 512th call", afterCalls511().broken(), 1);
            due("marred as 512th call", afterCalls511().marred(), 1);
            due("raw as 512th call", afterCalls511().raw(3), CODE_OF_165 ^ 1 << 7);
            due("distance as 512th call", afterCalls511().distance(3, 165), 1);
            due("nearest as 512th call", afterCalls511().nearest(3), 1001);
            due("mix as 512th call", afterCalls511().mix(3, 4), 165);
        });
    }

    private static ScrubbedCells afterCalls511() {
        ScrubbedCells x = new ScrubbedCells();
        for (int i = 0; i < 499; i++) {
            x.scrub(1);
        }
        breakWord(x, 15);
        x.write(3, 165);
        for (int i = 0; i < 9; i++) {
            x.flip(3, 7);
        }
        return x;
    }

    private static void terms() {
        test("There are 16 WORDS, 0 to 15", () -> {
            ScrubbedCells x = new ScrubbedCells();
            for (int w = 0; w < 16; w++) {
                x.write(w, 1 << w % 8);
                x.flip(w, w % 13);
            }
            for (int w = 0; w < 16; w++) {
                due("read(" + w + ")", x.read(w), 1 << w % 8);
                due("repair(" + w + ")", x.repair(w), w % 13);
            }
        });
        test("each of 13 BITS, numbered 0 to 12", () -> {
            ScrubbedCells x = new ScrubbedCells();
            for (int bit = 0; bit < 13; bit++) {
                due("flip(0, " + bit + ")", x.flip(0, bit), (2 << bit) - 1);
            }
        });
        test("The bits 3, 5, 6, 7, 9, 10, 11 and 12 of a word hold, in this order, the bits of weight 1 .. 128", () -> {
            ScrubbedCells x = new ScrubbedCells();
            for (int value = 0; value < 256; value++) {
                due("byte held by write(0, " + value + ")", heldByte(x.write(0, value)), value);
            }
        });
        test("for each w of 1, 2, 4, 8, the number of ones among those .. is even", () -> {
            ScrubbedCells x = new ScrubbedCells();
            for (int value = 0; value < 256; value++) {
                int word = x.write(15, value);
                for (int w = 1; w <= 8; w *= 2) {
                    due("ones of group " + w + " of write(15, " + value + "), mod 2", onesOfGroup(word, w) % 2, 0);
                }
            }
        });
        test("the number of ones among all 13 bits is even", () -> {
            ScrubbedCells x = new ScrubbedCells();
            for (int value = 0; value < 256; value++) {
                due("ones of write(7, " + value + "), mod 2", Integer.bitCount(x.write(7, value)) % 2, 0);
            }
        });
        test("For every byte there is just one code word that holds it", () -> {
            ScrubbedCells x = new ScrubbedCells();
            boolean[] seen = new boolean[1 << 13];
            for (int value = 0; value < 256; value++) {
                int word = x.write(value % 16, value);
                due("write(" + value % 16 + ", " + value + ") is the word of another byte too", seen[word] ? 1 : 0, 0);
                due("write(" + value % 16 + ", " + value + ") again", x.write(value % 16, value), word);
                seen[word] = true;
            }
        });
        test("A word is SOUND for the byte b iff its distance from the code word of b is 0 or 1", () -> {
            for (int value = 0; value < 256; value++) {
                ScrubbedCells x = new ScrubbedCells();
                x.write(8, value);
                due("read(8) of the code word of " + value, x.read(8), value);
                for (int bit = 0; bit < 13; bit++) {
                    x.flip(8, bit);
                    due("read(8) of " + value + " with bit " + bit + " turned", x.read(8), value);
                    x.flip(8, bit);
                }
            }
        });
        test("a word is sound for at most one byte", () -> {
            for (int word = 0; word < 1 << 13; word++) {
                due("bytes that the word " + word + " is sound for", bytesSoundFor(word) > 1 ? 1 : 0, 0);
            }
        });
        test("if it is sound for none it is BROKEN", () -> {
            int[] values = {0, 1, 128, 165, 255};
            for (int value : values) {
                for (int first = 0; first < 12; first++) {
                    for (int second = first + 1; second < 13; second++) {
                        twoBitsTurned(value, first, second);
                    }
                }
            }
        });
    }

    private static int heldByte(int word) {
        int value = 0;
        for (int i = 0; i < 8; i++) {
            value |= (word >> DATA_BITS[i] & 1) << i;
        }
        return value;
    }

    private static int onesOfGroup(int word, int w) {
        int ones = 0;
        for (int number = 1; number <= 12; number++) {
            if ((number & w) != 0) {
                ones += word >> number & 1;
            }
        }
        return ones;
    }

    private static int bytesSoundFor(int word) {
        ScrubbedCells x = new ScrubbedCells();
        setWord(x, 11, word);
        int found = 0;
        for (int value = 0; value < 256; value++) {
            if (x.distance(11, value) <= 1) {
                found++;
            }
        }
        return found;
    }

    private static void twoBitsTurned(int value, int first, int second) {
        ScrubbedCells x = new ScrubbedCells();
        x.write(15, value);
        x.flip(15, first);
        x.flip(15, second);
        due("read(15) of " + value + " with the bits " + first + " and " + second + " turned", x.read(15), BROKEN);
        due("broken()", x.broken(), 1);
    }

    private static void newObject() {
        test("1: Every word is the code word of the byte 0", () -> {
            ScrubbedCells x = new ScrubbedCells();
            for (int w = 0; w < 16; w++) {
                due("raw(" + w + ")", x.raw(w), 0);
            }
            due("broken()", x.broken(), 0);
            due("marred()", x.marred(), 0);
            due("scrub(32)", x.scrub(32), 0);
        });
        test("1: Every word is the code word of the byte 0, also when another object's are not", () -> {
            ScrubbedCells earlier = variedObject();
            int[] before = stateOf(earlier);
            ScrubbedCells x = new ScrubbedCells();
            ScrubbedCells later = variedObject();
            later.scrub(3);
            for (int w = 0; w < 16; w++) {
                due("raw(" + w + ")", x.raw(w), 0);
            }
            int[] after = stateOf(earlier);
            for (int i = 0; i < 17; i++) {
                due("state " + i + " of an earlier object", after[i], before[i]);
            }
            due("hand()", x.hand(), 0);
        });
    }

    private static void write() {
        test("2: w outside 0..15: BAD", () -> {
            for (int w : NO_WORDS) {
                ScrubbedCells x = variedObject();
                answersAndLeavesAll("write(" + w + ", 7)", x, () -> x.write(w, 7), BAD);
            }
        });
        test("2: value outside 0..255: BAD", () -> {
            for (int value : NO_BYTES) {
                ScrubbedCells x = variedObject();
                answersAndLeavesAll("write(0, " + value + ")", x, () -> x.write(0, value), BAD);
                answersAndLeavesAll("write(15, " + value + ")", x, () -> x.write(15, value), BAD);
            }
        });
        test("2: w outside 0..15 and value outside 0..255: BAD", () -> {
            ScrubbedCells x = variedObject();
            answersAndLeavesAll("write(-1, 256)", x, () -> x.write(-1, 256), BAD);
            answersAndLeavesAll("write(16, -1)", x, () -> x.write(16, -1), BAD);
        });
        test("2: Else answers the word, at the ends of both ranges", () -> {
            ScrubbedCells x = variedObject();
            due("write(0, 0)", x.write(0, 0), 0);
            due("raw(0)", x.raw(0), 0);
            due("write(0, 255)", x.write(0, 255), CODE_OF_255);
            due("raw(0)", x.raw(0), CODE_OF_255);
            due("write(15, 255)", x.write(15, 255), CODE_OF_255);
            due("raw(15)", x.raw(15), CODE_OF_255);
            due("write(15, 0)", x.write(15, 0), 0);
            due("raw(15)", x.raw(15), 0);
            due("write(15, 1)", x.write(15, 1), CODE_OF_1);
            due("write(15, 128)", x.write(15, 128), CODE_OF_128);
        });
        test("2: Makes a word the code word of a byte, also a broken one, and no other", () -> {
            ScrubbedCells x = variedObject();
            int[] before = stateOf(x);
            due("write(5, 165)", x.write(5, 165), CODE_OF_165);
            before[5] = CODE_OF_165;
            int[] after = stateOf(x);
            for (int i = 0; i < 17; i++) {
                due("state " + i, after[i], before[i]);
            }
        });
    }

    private static void flip() {
        test("3: w outside 0..15: BAD", () -> {
            for (int w : NO_WORDS) {
                ScrubbedCells x = variedObject();
                answersAndLeavesAll("flip(" + w + ", 0)", x, () -> x.flip(w, 0), BAD);
            }
        });
        test("3: bit outside 0..12: BAD", () -> {
            for (int bit : NO_BITS) {
                ScrubbedCells x = variedObject();
                answersAndLeavesAll("flip(0, " + bit + ")", x, () -> x.flip(0, bit), BAD);
                answersAndLeavesAll("flip(15, " + bit + ")", x, () -> x.flip(15, bit), BAD);
            }
        });
        test("3: w outside 0..15 and bit outside 0..12: BAD", () -> {
            ScrubbedCells x = variedObject();
            answersAndLeavesAll("flip(-1, 13)", x, () -> x.flip(-1, 13), BAD);
            answersAndLeavesAll("flip(16, -1)", x, () -> x.flip(16, -1), BAD);
        });
        test("3: Else answers the word then, at the ends of both ranges", () -> {
            ScrubbedCells x = new ScrubbedCells();
            due("flip(0, 0)", x.flip(0, 0), 1);
            due("flip(0, 12)", x.flip(0, 12), 4097);
            due("flip(0, 0) back", x.flip(0, 0), 4096);
            due("flip(15, 12)", x.flip(15, 12), 4096);
            due("flip(15, 0)", x.flip(15, 0), 4097);
            due("flip(15, 12) back", x.flip(15, 12), 1);
            due("raw(0)", x.raw(0), 4096);
            due("raw(15)", x.raw(15), 1);
        });
        test("3: Turns one bit of a word over, and no other", () -> {
            ScrubbedCells x = variedObject();
            int[] before = stateOf(x);
            due("flip(1, 12)", x.flip(1, 12), 1 << 4 | 1 << 9 | 1 << 12);
            before[1] = 1 << 4 | 1 << 9 | 1 << 12;
            int[] after = stateOf(x);
            for (int i = 0; i < 17; i++) {
                due("state " + i, after[i], before[i]);
            }
        });
    }

    private static void read() {
        test("4: BROKEN if it is broken", () -> {
            ScrubbedCells x = new ScrubbedCells();
            breakWord(x, 0);
            x.write(15, 255);
            breakWord(x, 15);
            due("read(0), two bits off", x.read(0), BROKEN);
            due("read(15), two bits off", x.read(15), BROKEN);
            setWord(x, 7, 274);
            due("read(7), three bits off", x.read(7), BROKEN);
        });
        test("4: BAD for w outside 0..15", () -> {
            for (int w : NO_WORDS) {
                ScrubbedCells x = variedObject();
                answersAndLeavesAll("read(" + w + ")", x, () -> x.read(w), BAD);
            }
        });
        test("4: Changes nothing", () -> {
            ScrubbedCells x = variedObject();
            answersAndLeavesAll("read(0) of a marred word", x, () -> x.read(0), 255);
            answersAndLeavesAll("read(1) of a broken word", x, () -> x.read(1), BROKEN);
            answersAndLeavesAll("read(2) of a code word", x, () -> x.read(2), 165);
            answersAndLeavesAll("read(15) of a marred word", x, () -> x.read(15), 1);
        });
        test("4: The byte for which a word is sound, the least and the greatest", () -> {
            ScrubbedCells x = new ScrubbedCells();
            due("read(0) of the word 0", x.read(0), 0);
            setWord(x, 15, CODE_OF_255);
            due("read(15) of the word 7918", x.read(15), 255);
            // Of the bits 0 to 11 the groups 1 and 2 have six and the groups 4 and 8 have four: the code word of 127.
            setWord(x, 15, 4095);
            due("read(15) of the word 4095", x.read(15), 127);
            x.flip(15, 12);
            due("read(15) of the full word", x.read(15), 127);
        });
    }

    private static void repair() {
        test("5: a broken word stays", () -> {
            ScrubbedCells x = variedObject();
            answersAndLeavesAll("repair(1)", x, () -> x.repair(1), BROKEN);
            answersAndLeavesAll("repair(14)", x, () -> x.repair(14), BROKEN);
            setWord(x, 7, 274);
            answersAndLeavesAll("repair(7), three bits off", x, () -> x.repair(7), BROKEN);
        });
        test("5: Answers the number of the bit that was turned over, the first and the last", () -> {
            ScrubbedCells x = variedObject();
            due("repair(0)", x.repair(0), 12);
            due("raw(0)", x.raw(0), CODE_OF_255);
            due("repair(15)", x.repair(15), 0);
            due("raw(15)", x.raw(15), CODE_OF_1);
        });
        test("5: 13 if none was", () -> {
            ScrubbedCells x = variedObject();
            answersAndLeavesAll("repair(2)", x, () -> x.repair(2), 13);
            answersAndLeavesAll("repair(3)", x, () -> x.repair(3), 13);
            x.repair(0);
            answersAndLeavesAll("repair(0) a second time", x, () -> x.repair(0), 13);
        });
        test("5: BROKEN if the word is broken", () -> {
            for (int bit = 1; bit < 13; bit++) {
                ScrubbedCells x = new ScrubbedCells();
                x.flip(15, 0);
                x.flip(15, bit);
                due("repair(15) with the bits 0 and " + bit + " turned", x.repair(15), BROKEN);
            }
        });
        test("5: BAD for w outside 0..15", () -> {
            for (int w : NO_WORDS) {
                ScrubbedCells x = variedObject();
                answersAndLeavesAll("repair(" + w + ")", x, () -> x.repair(w), BAD);
            }
        });
    }

    private static void scrub() {
        test("6: count clamped into 0..32, too small", () -> {
            int[] counts = {-1, -2, -16, -32, Integer.MIN_VALUE};
            for (int count : counts) {
                ScrubbedCells x = variedObject();
                answersAndLeavesAll("scrub(" + count + ")", x, () -> x.scrub(count), 0);
            }
        });
        test("6: count clamped into 0..32, the least", () -> {
            ScrubbedCells x = new ScrubbedCells();
            x.flip(0, 0);
            answersAndLeavesAll("scrub(0)", x, () -> x.scrub(0), 0);
            due("scrub(1)", x.scrub(1), 1);
            due("hand()", x.hand(), 1);
        });
        test("6: count clamped into 0..32, the greatest", () -> {
            ScrubbedCells x = new ScrubbedCells();
            x.scrub(31);
            due("hand() after scrub(31)", x.hand(), 15);
            x.scrub(32);
            due("hand() after scrub(32)", x.hand(), 15);
        });
        test("6: count clamped into 0..32, too large", () -> {
            int[] counts = {33, 34, 47, 48, 49, 1000003, Integer.MAX_VALUE};
            for (int count : counts) {
                ScrubbedCells x = new ScrubbedCells();
                x.scrub(7);
                x.flip(6, 1);
                x.flip(7, 1);
                due("scrub(" + count + ")", x.scrub(count), 2);
                due("hand() after scrub(" + count + ")", x.hand(), 7);
            }
        });
        test("6: beginning with the word after the one where the latest call of scrub ended", () -> {
            ScrubbedCells x = new ScrubbedCells();
            x.scrub(4);
            for (int w = 0; w < 16; w++) {
                x.flip(w, 12);
            }
            due("scrub(2)", x.scrub(2), 2);
            due("raw(3), before the first", x.raw(3), 4096);
            due("raw(4), the first", x.raw(4), 0);
            due("raw(5), the last", x.raw(5), 0);
            due("raw(6), behind the last", x.raw(6), 4096);
        });
        test("6: with word 0 at first", () -> {
            ScrubbedCells x = new ScrubbedCells();
            x.flip(0, 12);
            x.flip(1, 12);
            x.flip(15, 12);
            due("scrub(1)", x.scrub(1), 1);
            due("raw(0)", x.raw(0), 0);
            due("raw(1)", x.raw(1), 4096);
            due("raw(15)", x.raw(15), 4096);
        });
        test("6: word 0 following word 15", () -> {
            ScrubbedCells x = new ScrubbedCells();
            x.scrub(15);
            x.flip(14, 0);
            x.flip(15, 1);
            x.flip(0, 2);
            x.flip(1, 3);
            due("scrub(2)", x.scrub(2), 2);
            due("raw(14), before the first", x.raw(14), 1);
            due("raw(15)", x.raw(15), 0);
            due("raw(0)", x.raw(0), 0);
            due("raw(1), behind the last", x.raw(1), 8);
        });
        test("6: word 0 following word 15, between two calls", () -> {
            ScrubbedCells x = new ScrubbedCells();
            x.scrub(16);
            x.flip(0, 2);
            due("scrub(1)", x.scrub(1), 1);
            due("raw(0)", x.raw(0), 0);
        });
        test("6: Answers the number of bits that were turned over, none", () -> {
            ScrubbedCells x = new ScrubbedCells();
            for (int w = 0; w < 16; w += 2) {
                breakWord(x, w);
            }
            answersAndLeavesAll("scrub(16) of broken words and code words", x, () -> x.scrub(16), 0);
        });
        test("6: Answers the number of bits that were turned over, the most", () -> {
            for (int bit = 0; bit < 13; bit++) {
                ScrubbedCells x = new ScrubbedCells();
                for (int w = 0; w < 16; w++) {
                    x.flip(w, bit);
                }
                due("scrub(32) with bit " + bit + " turned in every word", x.scrub(32), 16);
                due("marred()", x.marred(), 0);
            }
        });
    }

    private static void hand() {
        test("7: The word that is next for scrub, first and last", () -> {
            ScrubbedCells x = new ScrubbedCells();
            due("hand() of a new object", x.hand(), 0);
            x.scrub(15);
            due("hand() after 15 words", x.hand(), 15);
            x.scrub(1);
            due("hand() after 16 words", x.hand(), 0);
        });
        test("7: The word that is next for scrub, whatever else was called", () -> {
            ScrubbedCells x = variedObject();
            x.repair(6);
            x.mix(6, 7);
            x.write(8, 8);
            x.repair(16);
            due("hand()", x.hand(), 5);
            answersAndLeavesAll("hand()", x, () -> x.hand(), 5);
        });
    }

    private static void broken() {
        test("8: The number of broken words, none", () -> {
            ScrubbedCells x = new ScrubbedCells();
            due("broken() of code words", x.broken(), 0);
            for (int w = 0; w < 16; w++) {
                x.flip(w, w % 13);
            }
            due("broken() of marred words", x.broken(), 0);
        });
        test("8: The number of broken words, one at either end", () -> {
            int[] ends = {0, 15};
            for (int w : ends) {
                ScrubbedCells x = new ScrubbedCells();
                breakWord(x, w);
                due("broken() with word " + w, x.broken(), 1);
            }
        });
        test("8: The number of broken words, all", () -> {
            ScrubbedCells x = new ScrubbedCells();
            for (int w = 0; w < 16; w++) {
                breakWord(x, w);
            }
            due("broken()", x.broken(), 16);
            due("marred()", x.marred(), 0);
        });
        test("8: The number of broken words, counted without a change", () -> {
            ScrubbedCells x = variedObject();
            answersAndLeavesAll("broken()", x, () -> x.broken(), 3);
        });
    }

    private static void marred() {
        test("9: not code words, none", () -> {
            ScrubbedCells x = new ScrubbedCells();
            for (int w = 0; w < 16; w++) {
                x.write(w, 255 - w);
            }
            due("marred() of code words", x.marred(), 0);
        });
        test("9: and not broken", () -> {
            ScrubbedCells x = new ScrubbedCells();
            breakWord(x, 0);
            breakWord(x, 15);
            setWord(x, 7, 274);
            due("marred() of broken words", x.marred(), 0);
        });
        test("9: The number of words that are not code words and not broken, one at either end", () -> {
            int[] ends = {0, 15};
            for (int w : ends) {
                ScrubbedCells x = new ScrubbedCells();
                x.flip(w, 0);
                due("marred() with word " + w, x.marred(), 1);
            }
        });
        test("9: The number of words that are not code words and not broken, all", () -> {
            for (int bit = 0; bit < 13; bit++) {
                ScrubbedCells x = new ScrubbedCells();
                for (int w = 0; w < 16; w++) {
                    x.write(w, 17 * w);
                    x.flip(w, bit);
                }
                due("marred() with bit " + bit + " turned in every word", x.marred(), 16);
            }
        });
        test("9: The number of words that are not code words and not broken, counted without a change", () -> {
            ScrubbedCells x = variedObject();
            answersAndLeavesAll("marred()", x, () -> x.marred(), 3);
        });
    }

    private static void raw() {
        test("10: A word as a number whose bit i is the word's bit i, empty and full", () -> {
            ScrubbedCells x = new ScrubbedCells();
            due("raw(0), empty", x.raw(0), 0);
            setWord(x, 15, 8191);
            answersAndLeavesAll("raw(15), full", x, () -> x.raw(15), 8191);
        });
        test("10: A word as a number whose bit i is the word's bit i, marred and broken as it is", () -> {
            ScrubbedCells x = variedObject();
            due("raw(0)", x.raw(0), CODE_OF_255 ^ 1 << 12);
            due("raw(1)", x.raw(1), 1 << 4 | 1 << 9);
            due("raw(15)", x.raw(15), CODE_OF_1 ^ 1);
        });
        test("10: BAD for w outside 0..15", () -> {
            for (int w : NO_WORDS) {
                ScrubbedCells x = variedObject();
                answersAndLeavesAll("raw(" + w + ")", x, () -> x.raw(w), BAD);
            }
        });
    }

    private static void distance() {
        test("11: The distance of word w from the code word of a byte, none and all 13 bits", () -> {
            ScrubbedCells x = new ScrubbedCells();
            due("distance(0, 0)", x.distance(0, 0), 0);
            setWord(x, 15, 8191);
            due("distance(15, 0)", x.distance(15, 0), 13);
            setWord(x, 15, CODE_OF_255);
            due("distance(15, 255)", x.distance(15, 255), 0);
            setWord(x, 15, CODE_OF_255 ^ 8191);
            due("distance(15, 255)", x.distance(15, 255), 13);
        });
        test("11: The distance of word w from the code word of a byte, at the ends of both ranges", () -> {
            ScrubbedCells x = variedObject();
            answersAndLeavesAll("distance(0, 0)", x, () -> x.distance(0, 0), 9);
            answersAndLeavesAll("distance(0, 255)", x, () -> x.distance(0, 255), 1);
            answersAndLeavesAll("distance(15, 0)", x, () -> x.distance(15, 0), 3);
            answersAndLeavesAll("distance(15, 255)", x, () -> x.distance(15, 255), 7);
        });
        test("11: BAD for w outside 0..15", () -> {
            for (int w : NO_WORDS) {
                ScrubbedCells x = variedObject();
                answersAndLeavesAll("distance(" + w + ", 0)", x, () -> x.distance(w, 0), BAD);
            }
        });
        test("11: BAD for value outside 0..255", () -> {
            for (int value : NO_BYTES) {
                ScrubbedCells x = variedObject();
                answersAndLeavesAll("distance(0, " + value + ")", x, () -> x.distance(0, value), BAD);
                answersAndLeavesAll("distance(15, " + value + ")", x, () -> x.distance(15, value), BAD);
            }
        });
        test("11: BAD for w outside 0..15 and value outside 0..255", () -> {
            ScrubbedCells x = variedObject();
            answersAndLeavesAll("distance(-1, 256)", x, () -> x.distance(-1, 256), BAD);
            answersAndLeavesAll("distance(16, -1)", x, () -> x.distance(16, -1), BAD);
        });
    }

    private static void nearest() {
        test("12: The smallest distance of word w from any code word, times 1000, no distance", () -> {
            ScrubbedCells x = new ScrubbedCells();
            due("nearest(0) of the code word of 0", x.nearest(0), 1);
            x.write(15, 255);
            due("nearest(15) of the code word of 255", x.nearest(15), 1);
        });
        test("12: The smallest distance of word w from any code word, times 1000, the greatest that there is", () -> {
            ScrubbedCells x = new ScrubbedCells();
            setWord(x, 15, 274);
            due("nearest(15) of the word 274", x.nearest(15), 3022);
        });
        test("12: plus the number of code words at that distance", () -> {
            ScrubbedCells x = new ScrubbedCells();
            setWord(x, 0, 1);
            due("nearest(0) of the word 1", x.nearest(0), 1001);
            setWord(x, 0, 4096);
            due("nearest(0) of the word 4096", x.nearest(0), 1001);
            setWord(x, 0, 17);
            due("nearest(0) of the word 17", x.nearest(0), 2005);
            setWord(x, 0, 3);
            due("nearest(0) of the word 3", x.nearest(0), 2006);
        });
        test("12: plus the number of code words at that distance, looked up without a change", () -> {
            ScrubbedCells x = variedObject();
            answersAndLeavesAll("nearest(0) of a marred word", x, () -> x.nearest(0), 1001);
            answersAndLeavesAll("nearest(2) of a code word", x, () -> x.nearest(2), 1);
            answersAndLeavesAll("nearest(15) of a marred word", x, () -> x.nearest(15), 1001);
        });
        test("12: BAD for w outside 0..15", () -> {
            for (int w : NO_WORDS) {
                ScrubbedCells x = variedObject();
                answersAndLeavesAll("nearest(" + w + ")", x, () -> x.nearest(w), BAD);
            }
        });
    }

    private static void mix() {
        test("13: w outside 0..15: BAD", () -> {
            for (int w : NO_WORDS) {
                ScrubbedCells x = variedObject();
                answersAndLeavesAll("mix(" + w + ", 0)", x, () -> x.mix(w, 0), BAD);
                answersAndLeavesAll("mix(" + w + ", 15)", x, () -> x.mix(w, 15), BAD);
            }
        });
        test("13: v outside 0..15: BAD", () -> {
            for (int v : NO_WORDS) {
                ScrubbedCells x = variedObject();
                answersAndLeavesAll("mix(0, " + v + ")", x, () -> x.mix(0, v), BAD);
                answersAndLeavesAll("mix(15, " + v + ")", x, () -> x.mix(15, v), BAD);
            }
        });
        test("13: w and v outside 0..15: BAD", () -> {
            ScrubbedCells x = variedObject();
            answersAndLeavesAll("mix(-1, 16)", x, () -> x.mix(-1, 16), BAD);
            answersAndLeavesAll("mix(16, -1)", x, () -> x.mix(16, -1), BAD);
            answersAndLeavesAll("mix(16, 16)", x, () -> x.mix(16, 16), BAD);
        });
        test("13: w or v outside 0..15: BAD, before the other is looked at for being broken", () -> {
            ScrubbedCells x = variedObject();
            answersAndLeavesAll("mix(1, 16)", x, () -> x.mix(1, 16), BAD);
            answersAndLeavesAll("mix(-1, 14)", x, () -> x.mix(-1, 14), BAD);
        });
        test("13: w is broken: BROKEN, and nothing changes", () -> {
            ScrubbedCells x = variedObject();
            answersAndLeavesAll("mix(1, 0), into a marred word", x, () -> x.mix(1, 0), BROKEN);
            answersAndLeavesAll("mix(14, 2), into a code word", x, () -> x.mix(14, 2), BROKEN);
        });
        test("13: v is broken: BROKEN, and nothing changes", () -> {
            ScrubbedCells x = variedObject();
            answersAndLeavesAll("mix(0, 1), from a marred word", x, () -> x.mix(0, 1), BROKEN);
            answersAndLeavesAll("mix(2, 14), from a code word", x, () -> x.mix(2, 14), BROKEN);
        });
        test("13: w and v are broken: BROKEN, and nothing changes", () -> {
            ScrubbedCells x = variedObject();
            answersAndLeavesAll("mix(1, 14)", x, () -> x.mix(1, 14), BROKEN);
            answersAndLeavesAll("mix(5, 5)", x, () -> x.mix(5, 5), BROKEN);
        });
        test("13: Else answers that byte, the least and the greatest", () -> {
            ScrubbedCells x = new ScrubbedCells();
            x.write(0, 255);
            due("mix(0, 15)", x.mix(0, 15), 255);
            due("raw(15)", x.raw(15), CODE_OF_255);
            due("mix(15, 0)", x.mix(15, 0), 0);
            due("raw(0)", x.raw(0), 0);
            due("raw(15)", x.raw(15), CODE_OF_255);
        });
        test("13: Makes word v the code word of the exclusive or, w and v the same word", () -> {
            ScrubbedCells x = variedObject();
            due("mix(15, 15) of a marred word", x.mix(15, 15), 0);
            due("raw(15)", x.raw(15), 0);
            due("mix(2, 2) of a code word", x.mix(2, 2), 0);
            due("raw(2)", x.raw(2), 0);
        });
        test("13: Makes word v the code word of the exclusive or, and changes no other word", () -> {
            ScrubbedCells x = variedObject();
            int[] before = stateOf(x);
            x.write(3, 14);
            x.flip(3, 8);
            due("mix(15, 3) of marred words", x.mix(15, 3), 15);
            before[3] = CODE_OF_15;
            int[] after = stateOf(x);
            for (int i = 0; i < 17; i++) {
                due("state " + i, after[i], before[i]);
            }
        });
    }

    private static void order() {
        test("14: scrub goes on at the word that hand answers", () -> {
            for (int w = 0; w < 16; w++) {
                ScrubbedCells x = new ScrubbedCells();
                x.scrub(w);
                due("hand()", x.hand(), w);
                x.flip(w, 6);
                due("scrub(1) at word " + w, x.scrub(1), 1);
                due("raw(" + w + ")", x.raw(w), 0);
            }
        });
        test("14: behind the last word that it looked at", () -> {
            for (int count = 1; count <= 32; count++) {
                ScrubbedCells x = new ScrubbedCells();
                x.scrub(3);
                x.scrub(count);
                due("hand() after scrub(3) and scrub(" + count + ")", x.hand(), (3 + count) % 16);
            }
        });
        test("14: also if that is broken", () -> {
            for (int w = 0; w < 16; w++) {
                ScrubbedCells x = new ScrubbedCells();
                breakWord(x, w);
                due("scrub(" + (w + 1) + ") ending at a broken word", x.scrub(w + 1), 0);
                due("hand()", x.hand(), (w + 1) % 16);
                x.flip((w + 1) % 16, 6);
                due("scrub(1) behind a broken word", x.scrub(1), 1);
            }
        });
        test("14: also if that is broken, all of them", () -> {
            ScrubbedCells x = new ScrubbedCells();
            for (int w = 0; w < 16; w++) {
                breakWord(x, w);
            }
            for (int i = 1; i <= 17; i++) {
                due("scrub(1)", x.scrub(1), 0);
                due("hand() after " + i + " of scrub(1)", x.hand(), i % 16);
            }
        });
        test("14: with count 0 that stays", () -> {
            for (int w = 0; w < 16; w++) {
                ScrubbedCells x = new ScrubbedCells();
                x.scrub(w);
                x.flip(w, 6);
                answersAndLeavesAll("scrub(0) at word " + w, x, () -> x.scrub(0), 0);
                answersAndLeavesAll("scrub(-1) at word " + w, x, () -> x.scrub(-1), 0);
            }
        });
    }
}
