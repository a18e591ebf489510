/**
 * Orders strings of letters by keys that are made of the weights of their elements.
 * The numbered promises of the project's document say what each call answers.
 */
public final class CollationDesk {
    private static final int SLOTS = 10;
    private static final int STRING_ROOM = 12;
    private static final int STRINGS_ROOM = 120;

    private static final int LETTERS = 10;
    private static final int WORD_BASE = 11;
    private static final int WORD_ROOM = 3;
    private static final int GREATEST_WORD = 1330;

    private static final int LONG_ENTRIES_ROOM = 6;
    private static final int ENTRIES_ROOM = 16;
    private static final int ENTRY_ELEMENTS_ROOM = 32;
    private static final int NONE = -1;

    private static final int FIRST_UNIT = 1;
    private static final int SECOND_UNIT = 32;
    private static final int THIRD_UNIT = 256;
    private static final int GREATEST_FIRST = 30;
    private static final int GREATEST_SECOND = 7;
    private static final int GREATEST_THIRD = 3;
    private static final int FOURTH_OF_OTHERS = 31;

    private static final int STRING_ELEMENTS_ROOM = 24;
    private static final int KEY_ROOM = 99;
    private static final int KEYS = 11;
    private static final int KEYS_ROOM = 1089;
    // The key of a row of letters stands behind the keys of the ten slots, so that it spoils none of them.
    private static final int ROW_KEY = 10;

    private final int[] letters = new int[STRINGS_ROOM];
    private final int[] lengths = new int[SLOTS];

    // The entries of the ten letters come first, each at its letter's number; those of longer words
    // stand behind them without a gap.
    private final int[] entryWords = new int[ENTRIES_ROOM];
    private final int[] entryElements = new int[ENTRY_ELEMENTS_ROOM];
    private int longEntries = 0;

    private int backwards = 0;
    private int shifted = 0;
    private int top = 0;

    // What stands below is made anew by each question and carries nothing from one call to the next.
    private final int[] firsts = new int[STRING_ELEMENTS_ROOM];
    private final int[] seconds = new int[STRING_ELEMENTS_ROOM];
    private final int[] thirds = new int[STRING_ELEMENTS_ROOM];
    private final int[] fourths = new int[STRING_ELEMENTS_ROOM];
    private final int[] keys = new int[KEYS_ROOM];
    private final int[] keyLengths = new int[KEYS];

    public CollationDesk() {
        for (int letter = 0; letter < LETTERS; letter++) {
            setEntry(letter, letter + 1, letter + 1 + SECOND_UNIT + THIRD_UNIT, NONE);
        }
        for (int place = LETTERS; place < ENTRIES_ROOM; place++) {
            setEntry(place, NONE, NONE, NONE);
        }
    }

    public int put(int slot, int letter) {
        if (!isSlot(slot)) {
            return -2;
        }
        if (!isLetter(letter)) {
            return -4;
        }
        if (lengths[slot] >= STRING_ROOM) {
            return -5;
        }
        letters[slot * STRING_ROOM + lengths[slot]] = letter;
        lengths[slot]++;
        return lengths[slot];
    }

    public int take(int slot) {
        if (!isSlot(slot)) {
            return -2;
        }
        if (lengths[slot] <= 0) {
            return -4;
        }
        lengths[slot]--;
        return letters[slot * STRING_ROOM + lengths[slot]];
    }

    public int copy(int slot, int other) {
        if (!isSlot(slot) || !isSlot(other)) {
            return -2;
        }
        for (int place = 0; place < STRING_ROOM; place++) {
            letters[slot * STRING_ROOM + place] = letters[other * STRING_ROOM + place];
        }
        lengths[slot] = lengths[other];
        return lengths[slot];
    }

    public int entry(int word, int one, int two) {
        if (wordLength(word) == 0) {
            return -1;
        }
        if (!isElement(one) || (two != NONE && !isElement(two))) {
            return -2;
        }
        int place = entryOf(word);
        if (place == NONE) {
            // Only a word of 2 or 3 letters can come here, as each letter always has an entry.
            if (longEntries >= LONG_ENTRIES_ROOM) {
                return -3;
            }
            place = LETTERS + longEntries;
            longEntries++;
        }
        setEntry(place, word, one, two);
        return longEntries;
    }

    public int forget(int word) {
        if (wordLength(word) < 2) {
            return -1;
        }
        int place = entryOf(word);
        if (place == NONE) {
            return -2;
        }
        longEntries--;
        int last = LETTERS + longEntries;
        setEntry(place, entryWords[last], entryElements[2 * last], entryElements[2 * last + 1]);
        // An entry that is gone must leave no elements behind, as tailor goes through all of them.
        setEntry(last, NONE, NONE, NONE);
        return longEntries;
    }

    public int tailor(int a, int b, int level) {
        if (!isLetter(a) || !isLetter(b) || a == b) {
            return -1;
        }
        if (level < 1 || level > 3) {
            return -2;
        }
        int anchor = entryElements[2 * a];
        if (!canMakeRoom(anchor, level)) {
            return -3;
        }
        makeRoom(anchor, level);
        int moved = elementBehind(anchor, level);
        setEntry(b, b + 1, moved, NONE);
        return moved;
    }

    public int settings(int backwards, int shifted, int top) {
        if (backwards < 0 || backwards > 1 || shifted < 0 || shifted > 1) {
            return -1;
        }
        if (top < 0 || top > GREATEST_FIRST) {
            return -2;
        }
        this.backwards = backwards;
        this.shifted = shifted;
        this.top = top;
        return 1;
    }

    public int elements(int slot) {
        if (!isSlot(slot)) {
            return -2;
        }
        int start = slot * STRING_ROOM;
        return gatherElements(start, start + lengths[slot]);
    }

    public int compare(int i, int j, int strength) {
        if (!isSlot(i) || !isSlot(j)) {
            return -2;
        }
        if (!isStrength(strength)) {
            return -3;
        }
        writeSlotKey(i, strength);
        writeSlotKey(j, strength);
        return compareKeys(i, j);
    }

    public int keySize(int slot, int strength) {
        if (!isSlot(slot)) {
            return -2;
        }
        if (!isStrength(strength)) {
            return -3;
        }
        writeSlotKey(slot, strength);
        return keyLengths[slot];
    }

    public int keyAt(int slot, int strength, int place) {
        if (!isSlot(slot)) {
            return -2;
        }
        if (!isStrength(strength)) {
            return -3;
        }
        writeSlotKey(slot, strength);
        if (place < 0 || place >= keyLengths[slot]) {
            return -4;
        }
        return keys[slot * KEY_ROOM + place];
    }

    public int rank(int slot, int strength) {
        if (!isSlot(slot)) {
            return -2;
        }
        if (!isStrength(strength)) {
            return -3;
        }
        writeAllSlotKeys(strength);
        int less = 0;
        for (int other = 0; other < SLOTS; other++) {
            if (compareKeys(other, slot) < 0) {
                less++;
            }
        }
        return less;
    }

    public int nth(int k, int strength) {
        if (!isStrength(strength)) {
            return -3;
        }
        if (k < 0 || k >= SLOTS) {
            return -4;
        }
        writeAllSlotKeys(strength);
        int found = 0;
        for (int slot = 0; slot < SLOTS; slot++) {
            if (placeInOrder(slot) == k) {
                found = slot;
            }
        }
        return found;
    }

    public int kinds(int strength) {
        if (!isStrength(strength)) {
            return -3;
        }
        writeAllSlotKeys(strength);
        int different = 0;
        for (int slot = 0; slot < SLOTS; slot++) {
            if (isFirstOfItsKind(slot)) {
                different++;
            }
        }
        return different;
    }

    public int find(int i, int j, int strength, int from) {
        if (!isSlot(i) || !isSlot(j)) {
            return -2;
        }
        if (!isStrength(strength)) {
            return -3;
        }
        writeSlotKey(j, strength);
        // No place is below 0, so a lesser 'from' asks for no more than 0 does.
        for (int place = from < 0 ? 0 : from; place <= lengths[i]; place++) {
            if (someRowMatches(i, place, j, strength)) {
                return place;
            }
        }
        return -4;
    }

    private static boolean isSlot(int slot) {
        return slot >= 0 && slot < SLOTS;
    }

    private static boolean isLetter(int letter) {
        return letter >= 0 && letter < LETTERS;
    }

    private static boolean isStrength(int strength) {
        return strength >= 1 && strength <= 4;
    }

    /** How many letters a word has; 0 if the number is no word. */
    private static int wordLength(int word) {
        if (word < 1 || word > GREATEST_WORD || word % WORD_BASE == 0) {
            return 0;
        }
        boolean hasSecond = word / WORD_BASE % WORD_BASE != 0;
        boolean hasThird = word / WORD_BASE / WORD_BASE != 0;
        if (hasThird) {
            return hasSecond ? 3 : 0;
        }
        return hasSecond ? 2 : 1;
    }

    private static boolean isElement(int number) {
        return number >= 0
                && weightOf(number, 1) <= GREATEST_FIRST
                && weightOf(number, 3) <= GREATEST_THIRD;
    }

    /** For a number that is not negative; only the third weight of such a number has no bound by itself. */
    private static int weightOf(int element, int level) {
        if (level == 1) {
            return element % SECOND_UNIT;
        }
        if (level == 2) {
            return element % THIRD_UNIT / SECOND_UNIT;
        }
        return element / THIRD_UNIT;
    }

    private static int unitOf(int level) {
        if (level == 1) {
            return FIRST_UNIT;
        }
        return level == 2 ? SECOND_UNIT : THIRD_UNIT;
    }

    private static int greatestWeight(int level) {
        if (level == 1) {
            return GREATEST_FIRST;
        }
        return level == 2 ? GREATEST_SECOND : GREATEST_THIRD;
    }

    private void setEntry(int place, int word, int one, int two) {
        entryWords[place] = word;
        entryElements[2 * place] = one;
        entryElements[2 * place + 1] = two;
    }

    /** The place of a word's entry, or NONE. */
    private int entryOf(int word) {
        for (int place = 0; place < LETTERS + longEntries; place++) {
            if (entryWords[place] == word) {
                return place;
            }
        }
        return NONE;
    }

    /** All weights are looked at before one is changed, as a refused call changes nothing. */
    private boolean canMakeRoom(int anchor, int level) {
        int greatest = greatestWeight(level);
        if (weightOf(anchor, level) >= greatest) {
            return false;
        }
        for (int k = 0; k < ENTRY_ELEMENTS_ROOM; k++) {
            int element = entryElements[k];
            if (growsBehind(element, anchor, level) && weightOf(element, level) >= greatest) {
                return false;
            }
        }
        return true;
    }

    private void makeRoom(int anchor, int level) {
        int unit = unitOf(level);
        for (int k = 0; k < ENTRY_ELEMENTS_ROOM; k++) {
            if (growsBehind(entryElements[k], anchor, level)) {
                entryElements[k] += unit;
            }
        }
    }

    private static boolean growsBehind(int element, int anchor, int level) {
        if (element == NONE) {
            return false;
        }
        for (int above = 1; above < level; above++) {
            if (weightOf(element, above) != weightOf(anchor, above)) {
                return false;
            }
        }
        return weightOf(element, level) > weightOf(anchor, level);
    }

    private static int elementBehind(int anchor, int level) {
        int first = weightOf(anchor, 1);
        int second = weightOf(anchor, 2);
        if (level == 1) {
            return first + FIRST_UNIT + SECOND_UNIT + THIRD_UNIT;
        }
        if (level == 2) {
            return first + SECOND_UNIT * (second + 1) + THIRD_UNIT;
        }
        return anchor + THIRD_UNIT;
    }

    /** Lays out the weights, as the entries have them, of the elements of the letters from start to before end. */
    private int gatherElements(int start, int end) {
        int count = 0;
        int next = start;
        for (int place = start; place < end; place++) {
            if (place == next) {
                int found = longestEntryAt(place, end);
                count = addElement(count, entryElements[2 * found]);
                count = addElement(count, entryElements[2 * found + 1]);
                next = place + wordLength(entryWords[found]);
            }
        }
        return count;
    }

    private int longestEntryAt(int place, int end) {
        int longest = letters[place];
        int word = letters[place] + 1;
        int scale = WORD_BASE;
        for (int k = 1; k < WORD_ROOM && place + k < end; k++) {
            word += scale * (letters[place + k] + 1);
            scale *= WORD_BASE;
            int found = entryOf(word);
            if (found != NONE) {
                longest = found;
            }
        }
        return longest;
    }

    private int addElement(int count, int element) {
        if (element == NONE || count >= STRING_ELEMENTS_ROOM) {
            return count;
        }
        firsts[count] = weightOf(element, 1);
        seconds[count] = weightOf(element, 2);
        thirds[count] = weightOf(element, 3);
        return count + 1;
    }

    private void setFourthWeights(int count) {
        boolean amongVariable = false;
        for (int k = 0; k < count; k++) {
            fourths[k] = 0;
            if (shifted == 1) {
                // An element with the first weight 0 goes with what stands before it.
                if (firsts[k] != 0) {
                    amongVariable = firsts[k] <= top;
                }
                if (amongVariable) {
                    fourths[k] = firsts[k];
                    firsts[k] = 0;
                    seconds[k] = 0;
                    thirds[k] = 0;
                } else if (firsts[k] != 0 || seconds[k] != 0 || thirds[k] != 0) {
                    fourths[k] = FOURTH_OF_OTHERS;
                }
            }
        }
    }

    private void writeAllSlotKeys(int strength) {
        // writeSlotKey is not used here, as calls may go no more than six deep.
        for (int slot = 0; slot < SLOTS; slot++) {
            int start = slot * STRING_ROOM;
            writeKey(slot, start, start + lengths[slot], strength);
        }
    }

    private void writeSlotKey(int slot, int strength) {
        int start = slot * STRING_ROOM;
        writeKey(slot, start, start + lengths[slot], strength);
    }

    private void writeKey(int key, int start, int end, int strength) {
        int count = gatherElements(start, end);
        setFourthWeights(count);
        int keyStart = key * KEY_ROOM;
        int keyEnd = appendWeights(keyStart, firsts, count);
        if (strength >= 2) {
            keys[keyEnd] = 0;
            keyEnd = backwards == 1
                    ? appendWeightsBackwards(keyEnd + 1, seconds, count)
                    : appendWeights(keyEnd + 1, seconds, count);
        }
        if (strength >= 3) {
            keys[keyEnd] = 0;
            keyEnd = appendWeights(keyEnd + 1, thirds, count);
        }
        if (strength >= 4) {
            keys[keyEnd] = 0;
            keyEnd = appendWeights(keyEnd + 1, fourths, count);
        }
        keyLengths[key] = keyEnd - keyStart;
    }

    private int appendWeights(int keyEnd, int[] weights, int count) {
        int end = keyEnd;
        for (int k = 0; k < count; k++) {
            if (weights[k] != 0) {
                keys[end] = weights[k];
                end++;
            }
        }
        return end;
    }

    private int appendWeightsBackwards(int keyEnd, int[] weights, int count) {
        int end = keyEnd;
        for (int k = count - 1; k >= 0; k--) {
            if (weights[k] != 0) {
                keys[end] = weights[k];
                end++;
            }
        }
        return end;
    }

    private int compareKeys(int one, int other) {
        int oneLength = keyLengths[one];
        int otherLength = keyLengths[other];
        for (int k = 0; k < oneLength && k < otherLength; k++) {
            int here = keys[one * KEY_ROOM + k];
            int there = keys[other * KEY_ROOM + k];
            if (here != there) {
                return here < there ? -1 : 1;
            }
        }
        if (oneLength == otherLength) {
            return 0;
        }
        return oneLength < otherLength ? -1 : 1;
    }

    private int placeInOrder(int slot) {
        int before = 0;
        for (int other = 0; other < SLOTS; other++) {
            int order = compareKeys(other, slot);
            if (order < 0 || (order == 0 && other < slot)) {
                before++;
            }
        }
        return before;
    }

    private boolean isFirstOfItsKind(int slot) {
        for (int earlier = 0; earlier < slot; earlier++) {
            if (compareKeys(earlier, slot) == 0) {
                return false;
            }
        }
        return true;
    }

    private boolean someRowMatches(int slot, int place, int sought, int strength) {
        int start = slot * STRING_ROOM;
        for (int end = place; end <= lengths[slot]; end++) {
            writeKey(ROW_KEY, start + place, start + end, strength);
            if (compareKeys(ROW_KEY, sought) == 0) {
                return true;
            }
        }
        return false;
    }
}
