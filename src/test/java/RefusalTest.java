import java.util.ArrayList;
import java.util.Arrays;
import java.util.List;
import java.util.function.Consumer;

/**
 * "A refused call changes nothing", and "questions; they change nothing": two desks are brought to the same state, one
 * of them has the call besides, and from there on both must answer the same.
 */
public final class RefusalTest {
    private static final int LEAST = Integer.MIN_VALUE;
    private static final int GREATEST = Integer.MAX_VALUE;
    private static final int[] NO_SLOTS = {-1, 10, LEAST, GREATEST};
    private static final int[] NO_STRENGTHS = {0, 5, LEAST, GREATEST};
    private static final int[] FULL = {0, 1, 2, 3, 4, 5, 6, 7, 8, 9, 0, 1};
    private static final int[][] WORDS = {{0, 0}, {9, 9}, {0, 0, 0}, {9, 9, 9}, {0, 1}, {0, 1, 2}, {5, 5}, {5, 5, 5}};

    /** A call with the answer that is due. */
    private static final class Call {
        final int want;
        final String name;
        final int[] with;

        Call(int want, String name, int... with) {
            this.want = want;
            this.name = name;
            this.with = with;
        }
    }

    private static int element(int first, int second, int third) {
        return AskedDesk.element(first, second, third);
    }

    // ---- The states

    private static void nothing(AskedDesk desk) {
        // A new object.
    }

    /** A full string, six words, settings that are not the first ones. */
    private static void muchOfAll(AskedDesk desk) {
        desk.string(0, FULL).string(1, 0, 0, 1, 5).string(9, 9, 9, 9, 2);
        for (int k = 0; k < 6; k++) {
            int two = k % 2 == 0 ? -1 : element(0, 3, 1);
            desk.due(k + 1, "entry", AskedDesk.word(WORDS[k]), element(11 + k, k, k % 4), two);
        }
        desk.due(6, "entry", 6, element(0, 2, 1), -1).due(6, "entry", 3, 0, element(7, 2, 2));
        desk.due(1, "settings", 1, 1, 5);
    }

    /** Weights for which tailor is refused at each level. */
    private static void greatestWeights(AskedDesk desk) {
        desk.string(0, 0, 1, 2, 3, 4).string(5, 0);
        desk.due(0, "entry", 1, element(30, 7, 3), element(1, 1, 1)).due(0, "entry", 2, element(5, 6, 2), -1);
        desk.due(0, "entry", 3, element(5, 7, 1), element(5, 6, 3)).due(0, "entry", 10, element(29, 7, 3), -1);
        desk.due(1, "entry", 12, element(2, 1, 1), element(5, 7, 3)).due(1, "settings", 0, 1, 4);
    }

    /** What has been taken away and forgotten may still lie somewhere inside the object. */
    private static void leftOvers(AskedDesk desk) {
        muchOfAll(desk);
        for (int k = 11; k >= 2; k--) {
            desk.due(FULL[k], "take", 0);
        }
        desk.due(4, "copy", 3, 1).due(0, "copy", 1, 8).due(5, "forget", 12).due(4, "forget", AskedDesk.word(0, 1, 2));
        desk.due(element(11, 1, 1), "tailor", 9, 4, 1);
    }

    // ---- The refused calls

    private static List<Call> refusedAlways() {
        List<Call> calls = new ArrayList<>();
        for (int none : NO_SLOTS) {
            calls.add(new Call(-2, "put", none, 0));
            calls.add(new Call(-4, "put", 0, none));
            calls.add(new Call(-4, "put", 8, none));
            calls.add(new Call(-2, "take", none));
            calls.add(new Call(-2, "copy", none, 0));
            calls.add(new Call(-2, "copy", 0, none));
            calls.add(new Call(-1, "tailor", none, 0, 1));
            calls.add(new Call(-1, "tailor", 0, none, 2));
            calls.add(new Call(-2, "elements", none));
            calls.add(new Call(-2, "compare", none, 0, 4));
            calls.add(new Call(-2, "compare", 0, none, 4));
            calls.add(new Call(-2, "keySize", none, 4));
            calls.add(new Call(-2, "keyAt", none, 4, 0));
            calls.add(new Call(-2, "rank", none, 4));
            calls.add(new Call(-4, "nth", none, 4));
            calls.add(new Call(-2, "find", none, 0, 4, 0));
            calls.add(new Call(-2, "find", 0, none, 4, 0));
        }
        for (int none : NO_STRENGTHS) {
            calls.add(new Call(-3, "compare", 0, 1, none));
            calls.add(new Call(-3, "keySize", 0, none));
            calls.add(new Call(-3, "keyAt", 0, none, 0));
            calls.add(new Call(-3, "rank", 0, none));
            calls.add(new Call(-3, "nth", 0, none));
            calls.add(new Call(-3, "kinds", none));
            calls.add(new Call(-3, "find", 0, 1, none, 0));
            calls.add(new Call(-2, "tailor", 1, 0, none));
        }
        for (int none : new int[] {-1, 0, 11, 121, 122, 1331, LEAST, GREATEST}) {
            calls.add(new Call(-1, "entry", none, 5, -1));
            calls.add(new Call(-1, "forget", none));
        }
        for (int none : new int[] {-2, 31, 1023, 1024, LEAST, GREATEST}) {
            for (int word : new int[] {1, 10, 12, AskedDesk.word(5, 5)}) {
                calls.add(new Call(-2, "entry", word, none, -1));
                calls.add(new Call(-2, "entry", word, 5, none));
            }
        }
        for (int letter = 0; letter <= 9; letter++) {
            calls.add(new Call(-1, "forget", letter + 1));
            calls.add(new Call(-1, "tailor", letter, letter, 1));
        }
        for (int none : new int[] {-1, 2, LEAST, GREATEST}) {
            calls.add(new Call(-1, "settings", none, 0, 7));
            calls.add(new Call(-1, "settings", 0, none, 7));
        }
        for (int none : new int[] {-1, 31, LEAST, GREATEST}) {
            calls.add(new Call(-2, "settings", 0, 0, none));
            calls.add(new Call(-2, "settings", 1, 0, none));
            calls.add(new Call(-2, "settings", 0, 1, none));
        }
        for (int none : new int[] {-1, 99, LEAST, GREATEST}) {
            calls.add(new Call(-4, "keyAt", 0, 4, none));
        }
        calls.add(new Call(-4, "find", 0, 0, 4, 13));
        calls.add(new Call(-4, "find", 0, 0, 4, GREATEST));
        return calls;
    }

    private static List<Call> refusedOfTheNew() {
        List<Call> calls = refusedAlways();
        for (int slot = 0; slot <= 9; slot++) {
            calls.add(new Call(-4, "take", slot));
            calls.add(new Call(-4, "keyAt", slot, 1, 0));
        }
        for (int[] word : WORDS) {
            calls.add(new Call(-2, "forget", AskedDesk.word(word)));
        }
        return calls;
    }

    private static List<Call> refusedWithMuch() {
        List<Call> calls = refusedAlways();
        for (int letter = 0; letter <= 9; letter++) {
            calls.add(new Call(-5, "put", 0, letter));
        }
        calls.add(new Call(-4, "take", 8));
        calls.add(new Call(-3, "entry", AskedDesk.word(5, 5), 5, -1));
        calls.add(new Call(-3, "entry", AskedDesk.word(5, 5, 5), 5, 6));
        calls.add(new Call(-2, "forget", AskedDesk.word(5, 5)));
        calls.add(new Call(-4, "find", 9, 0, 4, 0));
        return calls;
    }

    private static List<Call> refusedByGreatestWeights() {
        List<Call> calls = refusedAlways();
        for (int b = 1; b <= 9; b++) {
            calls.add(new Call(-3, "tailor", 0, b, 1));
            calls.add(new Call(-3, "tailor", 0, b, 2));
            calls.add(new Call(-3, "tailor", 0, b, 3));
        }
        for (int b : new int[] {0, 2, 3, 9}) {
            calls.add(new Call(-3, "tailor", 1, b, 1));
            calls.add(new Call(-3, "tailor", 1, b, 2));
            calls.add(new Call(-3, "tailor", 1, b, 3));
            calls.add(new Call(-3, "tailor", 4, b, 1));
            calls.add(new Call(-3, "tailor", 8, b, 1));
        }
        calls.add(new Call(-3, "tailor", 2, 0, 2));
        calls.add(new Call(-3, "tailor", 9, 0, 1));
        calls.add(new Call(-2, "forget", AskedDesk.word(9, 9)));
        return calls;
    }

    private static List<Call> refusedWithLeftOvers() {
        List<Call> calls = refusedAlways();
        calls.add(new Call(-4, "take", 1));
        calls.add(new Call(-2, "forget", 12));
        calls.add(new Call(-2, "forget", AskedDesk.word(0, 1, 2)));
        calls.add(new Call(-4, "find", 0, 9, 4, 0));
        return calls;
    }

    // ---- What is asked afterwards; each within the 512 calls of one object

    private static void key(AskedDesk desk, int slot, int strength, List<Integer> answers) {
        int size = desk.ask("keySize", slot, strength);
        answers.add(size);
        for (int place = 0; place < size; place++) {
            answers.add(desk.ask("keyAt", slot, strength, place));
        }
    }

    private static List<Integer> questions(AskedDesk desk) {
        List<Integer> answers = new ArrayList<>();
        for (int slot = 0; slot <= 9; slot++) {
            answers.add(desk.ask("elements", slot));
            key(desk, slot, 4, answers);
            for (int strength = 1; strength <= 4; strength++) {
                answers.add(desk.ask("rank", slot, strength));
            }
            answers.add(desk.ask("nth", slot, 4));
            answers.add(desk.ask("compare", slot, 0, 2));
            answers.add(desk.ask("find", 0, slot, 1, 1));
        }
        for (int strength = 1; strength <= 4; strength++) {
            answers.add(desk.ask("kinds", strength));
        }
        return answers;
    }

    /** The letters of every string, then every entry alone, without the settings, then the words that have entries. */
    private static List<Integer> everyPart(AskedDesk desk) {
        List<Integer> answers = new ArrayList<>();
        for (int slot = 0; slot <= 9; slot++) {
            int letter;
            do {
                letter = desk.ask("take", slot);
                answers.add(letter);
            } while (letter >= 0);
        }
        desk.due(1, "settings", 0, 0, 0);
        for (int letter = 0; letter <= 9; letter++) {
            desk.due(1, "put", 0, letter);
            key(desk, 0, 3, answers);
            desk.due(letter, "take", 0);
        }
        for (int k = 0; k < WORDS.length; k++) {
            desk.string(k, WORDS[k]);
            key(desk, k, 3, answers);
            answers.add(desk.ask("forget", AskedDesk.word(WORDS[k])));
        }
        return answers;
    }

    private static List<Integer> changes(AskedDesk desk) {
        List<Integer> answers = new ArrayList<>();
        for (int slot = 0; slot <= 9; slot++) {
            answers.add(desk.ask("put", slot, 9 - slot));
        }
        answers.add(desk.ask("copy", 7, 0));
        for (int level = 1; level <= 3; level++) {
            for (int a = 0; a <= 9; a++) {
                answers.add(desk.ask("tailor", a, (a + level) % 10, level));
            }
        }
        for (int k = WORDS.length - 1; k >= 0; k--) {
            answers.add(desk.ask("entry", AskedDesk.word(WORDS[k]), 3 + k, element(0, 1, 1)));
        }
        for (int slot = 0; slot <= 9; slot++) {
            answers.add(desk.ask("put", slot, slot));
            key(desk, slot, slot == 0 ? 4 : 2, answers);
        }
        return answers;
    }

    private static List<Integer> afterwards(int kind, AskedDesk desk) {
        return kind == 0 ? questions(desk) : kind == 1 ? everyPart(desk) : changes(desk);
    }

    private static void changesNothing(String what, Consumer<AskedDesk> state, List<Call> calls) {
        for (int kind = 0; kind < 3; kind++) {
            AskedDesk.tests(what);
            AskedDesk without = new AskedDesk();
            state.accept(without);
            List<Integer> due = afterwards(kind, without);
            for (Call call : calls) {
                AskedDesk.tests(what + ", with " + call.name + Arrays.toString(call.with));
                AskedDesk with = new AskedDesk();
                state.accept(with);
                with.due(call.want, call.name, call.with);
                with.due(call.want, call.name, call.with);
                if (!afterwards(kind, with).equals(due)) {
                    AskedDesk.isWrong("the later answers are others than without it");
                }
            }
        }
    }

    private static void askAQuestion(AskedDesk desk, int kind, int slot, int strength) {
        switch (kind) {
            case 0: desk.ask("elements", slot); break;
            case 1: desk.ask("compare", slot, 9 - slot, strength); break;
            case 2: desk.ask("keySize", slot, strength); break;
            case 3: desk.ask("keyAt", slot, strength, strength); break;
            case 4: desk.ask("rank", slot, strength); break;
            case 5: desk.ask("nth", slot, strength); break;
            case 6: desk.ask("kinds", strength); break;
            default: desk.ask("find", slot, 9 - slot, strength, 0); break;
        }
    }

    private static void questionsChangeNothing(String what, Consumer<AskedDesk> state) {
        for (int kind = 0; kind < 3; kind++) {
            AskedDesk.tests(what);
            AskedDesk without = new AskedDesk();
            state.accept(without);
            List<Integer> due = afterwards(kind, without);
            for (int question = 0; question < 8; question++) {
                for (int strength = 1; strength <= 4; strength++) {
                    AskedDesk.tests(what + ", question " + question + " at strength " + strength);
                    AskedDesk with = new AskedDesk();
                    state.accept(with);
                    for (int slot = 0; slot <= 9; slot++) {
                        askAQuestion(with, question, slot, strength);
                    }
                    if (!afterwards(kind, with).equals(due)) {
                        AskedDesk.isWrong("the later answers are others than without the question");
                    }
                }
            }
        }
    }

    public static void main(String[] args) {
        changesNothing("refused: a new object", RefusalTest::nothing, refusedOfTheNew());
        changesNothing("refused: full", RefusalTest::muchOfAll, refusedWithMuch());
        changesNothing("refused: greatest weights", RefusalTest::greatestWeights, refusedByGreatestWeights());
        changesNothing("refused: left overs", RefusalTest::leftOvers, refusedWithLeftOvers());
        questionsChangeNothing("questions: a new object", RefusalTest::nothing);
        questionsChangeNothing("questions: full", RefusalTest::muchOfAll);
        questionsChangeNothing("questions: greatest weights", RefusalTest::greatestWeights);
        questionsChangeNothing("questions: left overs", RefusalTest::leftOvers);
        AskedDesk.end("refused calls and questions");
    }
}
