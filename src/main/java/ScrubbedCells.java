public final class ScrubbedCells {
    public static final int BAD = -1;
    public static final int BROKEN = -2;

    private static final int WORDS = 16;
    private static final int BITS = 13;
    private static final int BYTES = 256;
    private static final int NO_BIT = 13;
    private static final int MOST_SCRUBBED = 32;

    private final int[] words = new int[WORDS];
    private final int[] codes = new int[BYTES];
    private int nextToScrub = 0;

    public ScrubbedCells() {
        for (int value = 0; value < BYTES; value++) {
            codes[value] = encode(value);
        }
        for (int w = 0; w < WORDS; w++) {
            words[w] = codes[0];
        }
    }

    public int write(int w, int value) {
        if (!isWord(w) || !isByte(value)) {
            return BAD;
        }
        words[w] = codes[value];
        return words[w];
    }

    public int flip(int w, int bit) {
        if (!isWord(w) || !isBit(bit)) {
            return BAD;
        }
        words[w] ^= 1 << bit;
        return words[w];
    }

    public int read(int w) {
        if (!isWord(w)) {
            return BAD;
        }
        return soundByte(words[w]);
    }

    public int repair(int w) {
        if (!isWord(w)) {
            return BAD;
        }
        return mend(w);
    }

    public int scrub(int count) {
        int rounds = clampCount(count);
        int turned = 0;
        for (int i = 0; i < rounds; i++) {
            int bit = mend(nextToScrub);
            if (isBit(bit)) {
                turned++;
            }
            nextToScrub = (nextToScrub + 1) % WORDS;
        }
        return turned;
    }

    public int hand() {
        return nextToScrub;
    }

    public int broken() {
        int found = 0;
        for (int w = 0; w < WORDS; w++) {
            if (soundByte(words[w]) == BROKEN) {
                found++;
            }
        }
        return found;
    }

    public int marred() {
        int found = 0;
        for (int w = 0; w < WORDS; w++) {
            int value = soundByte(words[w]);
            if (value != BROKEN && words[w] != codes[value]) {
                found++;
            }
        }
        return found;
    }

    public int raw(int w) {
        if (!isWord(w)) {
            return BAD;
        }
        return words[w];
    }

    public int distance(int w, int value) {
        if (!isWord(w) || !isByte(value)) {
            return BAD;
        }
        return countOnes(words[w] ^ codes[value]);
    }

    public int nearest(int w) {
        if (!isWord(w)) {
            return BAD;
        }
        int least = BITS + 1;
        int holders = 0;
        for (int value = 0; value < BYTES; value++) {
            int apart = countOnes(words[w] ^ codes[value]);
            if (apart < least) {
                least = apart;
                holders = 0;
            }
            if (apart == least) {
                holders++;
            }
        }
        return least * 1000 + holders;
    }

    public int mix(int w, int v) {
        if (!isWord(w) || !isWord(v)) {
            return BAD;
        }
        int first = soundByte(words[w]);
        int second = soundByte(words[v]);
        if (first == BROKEN || second == BROKEN) {
            return BROKEN;
        }
        int mixed = first ^ second;
        words[v] = codes[mixed];
        return mixed;
    }

    private static boolean isWord(int w) {
        return w >= 0 && w < WORDS;
    }

    private static boolean isByte(int value) {
        return value >= 0 && value < BYTES;
    }

    private static boolean isBit(int bit) {
        return bit >= 0 && bit < BITS;
    }

    private static int clampCount(int count) {
        if (count < 0) {
            return 0;
        }
        return count > MOST_SCRUBBED ? MOST_SCRUBBED : count;
    }

    private static int encode(int value) {
        int word = placeByte(value);
        for (int check = 1; check < BITS; check <<= 1) {
            // The bit numbered check is in no other group, so setting it spoils none.
            if (oddGroup(word, check)) {
                word |= 1 << check;
            }
        }
        // Bit 0 is in no group, so it can even out the whole word last.
        return word | (countOnes(word) & 1);
    }

    // The byte's bits go to the bit numbers that are no power of two: 3, 5 to 7, 9 to 12.
    private static int placeByte(int value) {
        return (value & 0x01) << 3 | (value & 0x0E) << 4 | (value & 0xF0) << 5;
    }

    private static boolean oddGroup(int word, int check) {
        int ones = 0;
        for (int bit = 1; bit < BITS; bit++) {
            if ((bit & check) != 0) {
                ones += word >> bit & 1;
            }
        }
        return (ones & 1) == 1;
    }

    private static int countOnes(int word) {
        int ones = 0;
        for (int bit = 0; bit < BITS; bit++) {
            ones += word >> bit & 1;
        }
        return ones;
    }

    // The first match is the only one: two code words differ in at least four bits.
    private int soundByte(int word) {
        for (int value = 0; value < BYTES; value++) {
            if (countOnes(word ^ codes[value]) <= 1) {
                return value;
            }
        }
        return BROKEN;
    }

    private int mend(int w) {
        int value = soundByte(words[w]);
        if (value == BROKEN) {
            return BROKEN;
        }
        int turned = words[w] ^ codes[value];
        words[w] = codes[value];
        return lowestOne(turned);
    }

    private static int lowestOne(int word) {
        for (int bit = 0; bit < BITS; bit++) {
            if ((word >> bit & 1) == 1) {
                return bit;
            }
        }
        return NO_BIT;
    }
}
