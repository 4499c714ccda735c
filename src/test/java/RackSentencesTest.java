import java.util.function.Supplier;

// The document's sentences about racks (part 4, promises 26 to 31), each at its edges.
public final class RackSentencesTest extends Checks {
    private static final int[] NO_RACK = {LEAST, -1, 3, 4, MOST};

    // Rack 0 for any tool: a reel at 0, a blade at 7; rack 1 for reels alone, all 3 places taken; rack 2 for blades, empty.
    private static House three() {
        House x = new House();
        x.rack(0, 0, 8);
        x.hang(0, 0, 1, 10);
        x.hang(0, 7, 2, 17);
        x.rack(1, 1, 3);
        for (int i = 0; i < 3; i++) x.hang(1, i, 1, 20 + i);
        x.rack(2, 2, 2);
        return x;
    }

    private static House with(int rack, int sort, int n) {
        House x = new House();
        x.rack(rack, sort, n);
        return x;
    }

    private static void missingAtFirst() {
        sentence("RACKS 0 .. 2 are missing (at first), or rows of 0 to 8 places");
        for (int r = 0; r < 3; r++) {
            House x = new House();
            due(x.take(r, 0), NULL);
            due(x.hang(r, 0, 1, 0), NULL);
            due(x.likeness((r + 1) % 3, r), NULL);
            due(x.pass(r, r), NULL);
            due(x.drop(r), NULL);
            due(x.count(12), 0);
        }
        for (int n = 0; n <= 8; n++) {
            House x = new House();
            due(x.rack(n % 3, 0, n), n);
            for (int i = 0; i < 10; i++) due(x.take(n % 3, i), i < n ? EMPTY : INDEX);
            due(x.take(n % 3, -1), INDEX);
            due(x.drop(n % 3), 0);
        }
    }

    private static void noSuchRack() {
        sentence("UNKNOWN -2000000001 (no such SOUND, TRACK, SPAN, RACK)");
        for (int r : NO_RACK) {
            Supplier<House> state = RackSentencesTest::three;
            refused(state, UNKNOWN, "rack", r, 0, 1);
            refused(state, UNKNOWN, "rack", r, 3, 9);
            refused(state, UNKNOWN, "rack", r, 0, -1);
            refused(state, UNKNOWN, "hang", r, 0, 1, 0);
            refused(state, UNKNOWN, "hang", r, 0, 0, 100);
            refused(state, UNKNOWN, "take", r, 0);
            refused(state, UNKNOWN, "take", r, 99);
            refused(state, UNKNOWN, "likeness", r, 0);
            refused(state, UNKNOWN, "likeness", 0, r);
            refused(state, UNKNOWN, "pass", r, 0);
            refused(state, UNKNOWN, "pass", 0, r);
            refused(state, UNKNOWN, "drop", r);
            // A missing rack is found only behind that.
            House x = new House();
            due(x.likeness(r, 1), UNKNOWN);
            due(x.likeness(1, r), UNKNOWN);
            due(x.pass(r, 1), UNKNOWN);
            due(x.pass(1, r), UNKNOWN);
        }
    }

    private static void madeFor() {
        sentence("each made for any TOOL (0), for REELS alone (1), for BLADES alone (2)");
        for (int sort = 0; sort <= 2; sort++) {
            House x = with(sort, sort, 8);
            for (int i = 0; i < 8; i++) {
                due(x.hang(sort, i, 1, i), sort == 2 ? STORE : i);
                due(x.hang(sort, i, 2, 90 + i), sort == 1 ? STORE : 90 + i);
                due(x.take(sort, i), sort == 1 ? i : 190 + i);
            }
        }
    }

    private static void numbers() {
        sentence("a place is empty (at first), or has a REEL, a BLADE (each with a number 0 .. 99)");
        House x = with(0, 0, 2);
        due(x.take(0, 0), EMPTY);
        for (int v = 0; v <= 99; v++) {
            due(x.hang(0, 0, 1, v), v);
            due(x.take(0, 0), v);
            due(x.hang(0, 1, 2, v), v);
            due(x.take(0, 1), 100 + v);
        }
        for (int v : new int[] {LEAST, -1, 100, 101, MOST}) {
            refused(RackSentencesTest::three, OUTSIDE, "hang", 0, 0, 1, v);
            refused(RackSentencesTest::three, OUTSIDE, "hang", 0, 7, 2, v);
        }
    }

    private static void whatTheMachineFinds() {
        sentence("What the machine finds is answered as NULL -2000000011 (the RACK is missing), SIZE -2000000012 (fewer than none), INDEX -2000000013 (there is no such place), STORE -2000000014 (the RACK is made for the others), EMPTY -2000000015 (the place is), of several the first in this order; it changes nothing.");
        Supplier<House> state = RackSentencesTest::three;
        refused(House::new, NULL, "hang", 0, -1, 2, 5);
        refused(House::new, NULL, "take", 2, 8);
        refused(state, SIZE, "rack", 0, 1, -1);
        refused(state, SIZE, "rack", 1, 2, LEAST);
        refused(House::new, SIZE, "rack", 2, 0, -1);
        for (int i : new int[] {LEAST, -1, 3, 7, 8, MOST}) {
            refused(state, INDEX, "hang", 1, i, 1, 5);
            refused(state, INDEX, "hang", 1, i, 2, 5);
            refused(state, INDEX, "take", 1, i);
        }
        refused(state, INDEX, "hang", 2, 2, 1, 5);
        refused(state, INDEX, "take", 0, 8);
        refused(() -> with(0, 1, 0), INDEX, "hang", 0, 0, 2, 5);
        refused(() -> with(0, 1, 0), INDEX, "take", 0, 0);
        for (int i = 0; i < 3; i++) refused(state, STORE, "hang", 1, i, 2, 5);
        for (int i = 0; i < 2; i++) refused(state, STORE, "hang", 2, i, 1, 5);
        for (int i = 1; i < 7; i++) refused(state, EMPTY, "take", 0, i);
    }

    private static void outsideFirst() {
        sentence("then what the machine finds: the first of these that fits");
        refused(House::new, OUTSIDE, "hang", 0, 0, 0, 0);
        refused(House::new, OUTSIDE, "hang", 0, 9, 1, 100);
        refused(RackSentencesTest::three, OUTSIDE, "hang", 1, 9, 3, 5);
        refused(RackSentencesTest::three, OUTSIDE, "hang", 1, 0, 2, 100);
        refused(RackSentencesTest::three, OUTSIDE, "rack", 1, 3, -1);
        refused(RackSentencesTest::three, OUTSIDE, "rack", 1, -1, LEAST);
    }

    private static void rack() {
        sentence("A RACK is a new one of n places (8 at most), made for a sort (0 .. 2): n. UNKNOWN; OUTSIDE (sort; n above 8); SIZE.");
        for (int sort : new int[] {LEAST, -1, 3, MOST}) refused(RackSentencesTest::three, OUTSIDE, "rack", 0, sort, 2);
        for (int n : new int[] {9, 10, MOST}) refused(RackSentencesTest::three, OUTSIDE, "rack", 0, 0, n);
        for (int n : new int[] {-1, -2, LEAST}) refused(RackSentencesTest::three, SIZE, "rack", 0, 0, n);
        House x = three();
        due(x.rack(1, 2, 8), 8);
        due(x.count(12), 2);
        for (int i = 0; i < 8; i++) due(x.take(1, i), EMPTY);
        due(x.hang(1, 7, 2, 1), 1);
        due(x.hang(1, 7, 1, 1), STORE);
        due(x.rack(1, 1, 0), 0);
        due(x.hang(1, 0, 1, 1), INDEX);
        due(x.rack(0, 0, 1), 1);
        due(x.count(12), 0);
        due(x.take(0, 1), INDEX);
        due(x.rack(0, 0, 8), 8);
        due(x.take(0, 7), EMPTY);
    }

    private static void hang() {
        sentence("A REEL (sort 1), a BLADE (2) with a number v is at place i: v. UNKNOWN; OUTSIDE (sort, v); NULL; INDEX; STORE.");
        for (int sort : new int[] {LEAST, -1, 0, 3, MOST}) refused(RackSentencesTest::three, OUTSIDE, "hang", 0, 1, sort, 5);
        House x = three();
        due(x.hang(0, 0, 2, 99), 99);
        due(x.count(12), 5);
        due(x.take(0, 0), 199);
        due(x.hang(0, 7, 1, 0), 0);
        due(x.count(12), 4);
        due(x.take(0, 7), 0);
        due(x.hang(1, 0, 1, 7), 7);
        due(x.take(1, 0), 7);
        due(x.take(1, 1), 21);
        due(x.take(1, 2), 22);
    }

    private static void take() {
        sentence("What is at place i goes: of a REEL its number, of a BLADE 100 and that. UNKNOWN; NULL; INDEX; EMPTY.");
        House x = three();
        due(x.take(0, 0), 10);
        due(x.take(0, 0), EMPTY);
        due(x.take(0, 7), 117);
        due(x.take(0, 7), EMPTY);
        due(x.count(12), 3);
        due(x.take(1, 2), 22);
        due(x.take(1, 3), INDEX);
        due(x.take(2, 1), EMPTY);
        due(x.take(2, 2), INDEX);
        due(x.count(12), 2);
        refused(() -> {
            House y = three();
            y.drop(1);
            return y;
        }, NULL, "take", 1, 0);
    }

    private static void likeness() {
        sentence("A RACK becomes a likeness of another one (made for the same, the same things at its places): how many things. UNKNOWN; NULL: the other one.");
        House x = three();
        due(x.likeness(2, 1), 3);
        due(x.hang(2, 0, 2, 5), STORE);
        due(x.hang(2, 3, 1, 5), INDEX);
        due(x.take(2, 2), 22);
        due(x.take(1, 2), 22);
        due(x.hang(1, 0, 1, 77), 77);
        due(x.take(2, 0), 20);
        due(x.count(12), 5);
        due(x.likeness(1, 0), 2);
        due(x.take(1, 7), 117);
        due(x.hang(1, 1, 2, 1), 1);
        due(x.take(0, 1), EMPTY);
        x = three();
        x.drop(2);
        due(x.likeness(2, 0), 2);
        due(x.likeness(0, 0), 2);
        due(x.count(12), 7);
        x = three();
        due(x.likeness(1, 2), 0);
        due(x.hang(1, 0, 1, 1), STORE);
        due(x.hang(1, 2, 2, 1), INDEX);
        due(x.count(12), 2);
        x.rack(2, 0, 0);
        due(x.likeness(0, 2), 0);
        due(x.take(0, 0), INDEX);
        Supplier<House> state = () -> {
            House y = three();
            y.drop(2);
            return y;
        };
        refused(state, NULL, "likeness", 0, 2);
        refused(state, NULL, "likeness", 2, 2);
    }

    private static void pass() {
        sentence("All things of a RACK are hung at the same places of another one, from place 0 on, as far as it goes: how many were; it stops where the machine finds something (those ahead are hung). UNKNOWN; NULL (either).");
        House x = three();
        due(x.pass(1, 0), 3);
        int[] things = {20, 21, 22, EMPTY, EMPTY, EMPTY, EMPTY, 117, INDEX};
        for (int i = 0; i < 9; i++) due(x.take(0, i), things[i]);
        x = three();
        due(x.pass(0, 1), 1);
        due(x.take(1, 0), 10);
        due(x.take(1, 1), 21);
        due(x.take(1, 2), 22);
        x = three();
        x.hang(0, 1, 2, 1);
        x.hang(0, 2, 1, 2);
        due(x.pass(0, 1), 1);
        due(x.take(1, 0), 10);
        due(x.take(1, 1), 21);
        due(x.take(1, 2), 22);
        x = three();
        due(x.pass(1, 2), 0);
        due(x.take(2, 0), EMPTY);
        due(x.pass(2, 1), 0);
        due(x.count(12), 5);
        x = three();
        x.rack(2, 0, 7);
        due(x.pass(0, 2), 1);
        x.rack(2, 0, 8);
        due(x.pass(0, 2), 2);
        x.rack(2, 1, 0);
        due(x.pass(0, 2), 0);
        due(x.pass(2, 0), 0);
        due(x.pass(0, 0), 2);
        due(x.count(12), 5);
        Supplier<House> state = () -> {
            House y = three();
            y.drop(2);
            return y;
        };
        refused(state, NULL, "pass", 0, 2);
        refused(state, NULL, "pass", 2, 0);
        refused(state, NULL, "pass", 2, 2);
    }

    private static void drop() {
        sentence("A RACK is missing from now on: how many things it had. UNKNOWN; NULL.");
        House x = three();
        due(x.drop(0), 2);
        due(x.drop(1), 3);
        due(x.drop(2), 0);
        for (int r = 0; r < 3; r++) {
            due(x.drop(r), NULL);
            due(x.take(r, 0), NULL);
            due(x.hang(r, 0, 1 + r / 2, 1), NULL);
        }
        due(x.count(12), 0);
        due(x.rack(0, 0, 8), 8);
        for (int i = 0; i < 8; i++) due(x.take(0, i), EMPTY);
        refused(() -> {
            House y = three();
            y.drop(0);
            return y;
        }, NULL, "drop", 0);
    }

    private static void things() {
        sentence("12 things on all RACKS");
        House x = new House();
        int things = 0;
        for (int r = 0; r < 3; r++) {
            x.rack(r, 0, 8);
            for (int i = 0; i < 8; i++) {
                x.hang(r, i, 1 + i % 2, 0);
                things++;
                due(x.count(12), things);
            }
        }
        x.rack(1, 0, 8);
        due(x.count(12), 16);
        x.take(2, 7);
        due(x.count(12), 15);
        x.drop(0);
        due(x.count(12), 7);
    }

    public static void main(String[] args) {
        missingAtFirst();
        noSuchRack();
        madeFor();
        numbers();
        whatTheMachineFinds();
        outsideFirst();
        rack();
        hang();
        take();
        likeness();
        pass();
        drop();
        things();
        end();
    }
}
