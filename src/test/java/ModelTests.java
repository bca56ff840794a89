// Long runs and every possible word against a second, slower reading of the document:
// code words are found by testing all 8192 words for the definition, not by working out check bits.
public final class ModelTests {
    private static final int BAD = -1;
    private static final int BROKEN = -2;
    private static final int[] DATA_BITS = {3, 5, 6, 7, 9, 10, 11, 12};
    private static final int ALL_WORDS = 1 << 13;
    private static final int CALLS = 512;
    private static final int RUNS = 1000;

    // codeOf goes by byte; the other two go by word: the byte that it is sound for or BROKEN, and what nearest answers.
    private static final int[] codeOf = new int[256];
    private static final int[] byteFor = new int[ALL_WORDS];
    private static final int[] nearestFor = new int[ALL_WORDS];

    private static int wrong = 0;
    private static long seed = 20261115L;

    private static int[] words = new int[16];
    private static int hand = 0;

    public static void main(String[] args) {
        findCodeWords();
        measureAllWords();
        for (int word = 0; word < ALL_WORDS; word++) {
            checkWord(word);
        }
        for (int run = 0; run < RUNS; run++) {
            checkRun(run);
        }
        System.out.println(wrong == 0 ? "all answers are as due" : wrong + " answers are not as due");
        if (wrong != 0) {
            System.exit(1);
        }
    }

    private static void due(String call, int got, int want) {
        if (got != want) {
            wrong++;
            if (wrong <= 50) {
                System.out.println(call + " answered " + got + ", due is " + want);
            }
        }
    }

    private static boolean isCodeWord(int word) {
        for (int w = 1; w <= 8; w *= 2) {
            int ones = 0;
            for (int number = 1; number <= 12; number++) {
                if ((number & w) != 0 && (word & 1 << number) != 0) {
                    ones++;
                }
            }
            if (ones % 2 != 0) {
                return false;
            }
        }
        return Integer.bitCount(word) % 2 == 0;
    }

    private static int heldByte(int word) {
        int value = 0;
        for (int i = 0; i < 8; i++) {
            if ((word & 1 << DATA_BITS[i]) != 0) {
                value += 1 << i;
            }
        }
        return value;
    }

    private static void findCodeWords() {
        int[] found = new int[256];
        for (int word = 0; word < ALL_WORDS; word++) {
            if (isCodeWord(word)) {
                codeOf[heldByte(word)] = word;
                found[heldByte(word)]++;
            }
        }
        for (int value = 0; value < 256; value++) {
            due("code words that hold " + value, found[value], 1);
        }
    }

    private static void measureAllWords() {
        for (int word = 0; word < ALL_WORDS; word++) {
            int[] at = new int[14];
            byteFor[word] = BROKEN;
            for (int value = 0; value < 256; value++) {
                int apart = Integer.bitCount(word ^ codeOf[value]);
                at[apart]++;
                if (apart <= 1) {
                    byteFor[word] = value;
                }
            }
            int least = 0;
            while (at[least] == 0) {
                least++;
            }
            nearestFor[word] = least * 1000 + at[least];
        }
    }

    private static int mendedBit(int word) {
        int turned = word ^ codeOf[byteFor[word]];
        return turned == 0 ? 13 : Integer.numberOfTrailingZeros(turned);
    }

    private static void checkWord(int word) {
        ScrubbedCells x = new ScrubbedCells();
        int w = word % 16;
        for (int bit = 0; bit < 13; bit++) {
            if ((word & 1 << bit) != 0) {
                x.flip(w, bit);
            }
        }
        String name = " of the word " + word;
        boolean isBroken = byteFor[word] == BROKEN;
        boolean isCode = !isBroken && codeOf[byteFor[word]] == word;
        due("raw" + name, x.raw(w), word);
        due("read" + name, x.read(w), byteFor[word]);
        due("nearest" + name, x.nearest(w), nearestFor[word]);
        due("broken" + name, x.broken(), isBroken ? 1 : 0);
        due("marred" + name, x.marred(), isBroken || isCode ? 0 : 1);
        due("distance" + name, x.distance(w, word % 256), Integer.bitCount(word ^ codeOf[word % 256]));
        due("repair" + name, x.repair(w), isBroken ? BROKEN : mendedBit(word));
        due("raw after repair" + name, x.raw(w), isBroken ? word : codeOf[byteFor[word]]);
    }

    // A fixed rule for the next number, so that every run of the tests makes the same calls.
    private static int draw(int bound) {
        seed = seed * 6364136223846793005L + 1442695040888963407L;
        return (int) ((seed >>> 33) % bound);
    }

    // Mostly a number below the bound, now and then one beside it.
    private static int drawAround(int bound) {
        int pick = draw(40);
        if (pick == 0) {
            return -1 - draw(3);
        }
        if (pick == 1) {
            return bound + draw(3);
        }
        return draw(bound);
    }

    private static boolean in(int number, int bound) {
        return number >= 0 && number < bound;
    }

    private static void checkRun(int run) {
        ScrubbedCells x = new ScrubbedCells();
        words = new int[16];
        hand = 0;
        for (int call = 1; call <= CALLS; call++) {
            checkCall("run " + run + ", call " + call + ": ", x);
        }
    }

    private static void checkCall(String at, ScrubbedCells x) {
        int w = drawAround(16);
        int v = drawAround(16);
        int bit = drawAround(13);
        int value = drawAround(256);
        int count = draw(45) - 5;
        switch (draw(18)) {
            case 0 -> due(at + "write(" + w + ", " + value + ")", x.write(w, value), modelWrite(w, value));
            case 1 -> due(at + "read(" + w + ")", x.read(w), in(w, 16) ? byteFor[words[w]] : BAD);
            case 2 -> due(at + "repair(" + w + ")", x.repair(w), in(w, 16) ? modelRepair(w) : BAD);
            case 3 -> due(at + "scrub(" + count + ")", x.scrub(count), modelScrub(count));
            case 4 -> due(at + "hand()", x.hand(), hand);
            case 5 -> due(at + "broken()", x.broken(), modelBroken());
            case 6 -> due(at + "marred()", x.marred(), modelMarred());
            case 7 -> due(at + "raw(" + w + ")", x.raw(w), in(w, 16) ? words[w] : BAD);
            case 8 -> due(at + "distance(" + w + ", " + value + ")", x.distance(w, value), modelDistance(w, value));
            case 9 -> due(at + "nearest(" + w + ")", x.nearest(w), in(w, 16) ? nearestFor[words[w]] : BAD);
            case 10, 11 -> due(at + "mix(" + w + ", " + v + ")", x.mix(w, v), modelMix(w, v));
            default -> due(at + "flip(" + w + ", " + bit + ")", x.flip(w, bit), modelFlip(w, bit));
        }
    }

    private static int modelWrite(int w, int value) {
        if (!in(w, 16) || !in(value, 256)) {
            return BAD;
        }
        return words[w] = codeOf[value];
    }

    private static int modelFlip(int w, int bit) {
        if (!in(w, 16) || !in(bit, 13)) {
            return BAD;
        }
        return words[w] ^= 1 << bit;
    }

    private static int modelRepair(int w) {
        if (byteFor[words[w]] == BROKEN) {
            return BROKEN;
        }
        int bit = mendedBit(words[w]);
        words[w] = codeOf[byteFor[words[w]]];
        return bit;
    }

    private static int modelScrub(int count) {
        int turned = 0;
        for (int left = Math.min(Math.max(count, 0), 32); left > 0; left--) {
            if (in(modelRepair(hand), 13)) {
                turned++;
            }
            hand = hand == 15 ? 0 : hand + 1;
        }
        return turned;
    }

    private static int modelBroken() {
        int found = 0;
        for (int word : words) {
            found += byteFor[word] == BROKEN ? 1 : 0;
        }
        return found;
    }

    private static int modelMarred() {
        int found = 0;
        for (int word : words) {
            found += byteFor[word] != BROKEN && !isCodeWord(word) ? 1 : 0;
        }
        return found;
    }

    private static int modelDistance(int w, int value) {
        return in(w, 16) && in(value, 256) ? Integer.bitCount(words[w] ^ codeOf[value]) : BAD;
    }

    private static int modelMix(int w, int v) {
        if (!in(w, 16) || !in(v, 16)) {
            return BAD;
        }
        if (byteFor[words[w]] == BROKEN || byteFor[words[v]] == BROKEN) {
            return BROKEN;
        }
        int mixed = byteFor[words[w]] ^ byteFor[words[v]];
        words[v] = codeOf[mixed];
        return mixed;
    }
}
