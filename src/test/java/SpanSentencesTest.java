import java.util.function.Supplier;

// The document's sentences about tracks and spans (Terms, part 3, promises 7, 9 to 16, 18 to 20, 25), each at its edges.
public final class SpanSentencesTest extends Checks {
    private static final int[] NO_TRACK = {LEAST, -1, 4, 5, MOST};

    private static House busy() {
        House x = new House();
        States.busy(x);
        return x;
    }

    private static House full() {
        House x = new House();
        States.full(x);
        return x;
    }

    // On track 1 one span: moments 20 to 29, floats 5 to 14 of a sound of 64, GAIN 11, IN 4, OUT 3.
    private static House one() {
        return told("tone 1 0 64;put 1 0 5 10 20;gain 1 0 11;fade 1 0 4 3");
    }

    private static final String ONE = "0 5 10 20 11 4 3";

    // 12 spans of 3 moments on track 0 with a gap of 1 behind each: 0 to 2, 4 to 6, .. 44 to 46.
    private static House twelve() {
        House x = new House();
        x.tone(1, 0, 64);
        for (int i = 0; i < 12; i++) x.put(0, 0, i, 3, 4 * i);
        return x;
    }

    // The same, and nothing can be undone: a refused call that would count as done shows itself.
    private static House twelveKept() {
        House x = twelve();
        x.keep(0);
        x.back(0);
        return x;
    }

    private static void aNewHouse() {
        sentence("No sounds, four empty tracks.");
        House x = new House();
        for (int what = 0; what <= 21; what++) due(x.count(what), what == 7 ? 128 : what >= 18 ? 100 : 0);
        for (int s = 0; s < 6; s++) due(x.sound(s, 0, 0), UNKNOWN);
        for (int k = 0; k < 4; k++) {
            due(x.span(k, 0, 0), UNKNOWN);
            due(x.covers(k, 64, 0), 0);
            due(x.covers(k, 64, 64), 0);
            due(x.undo(k), NOT);
        }
        for (int moment = 0; moment < 128; moment++) due(x.exact(moment), 0);
        due(x.back(0), NOT);
        due(x.back(1), NOT);
        due(x.keep(0), 0);
        due(x.back(0), 0);
    }

    private static void tracks() {
        sentence("TRACKS 0 to 3, each with SPANS (12 at most; none at first), by MOMENTS, none over another; with a SHIFT (-16 .. 16; 0 at first), SHUT or not.");
        for (int k : NO_TRACK) {
            refused(SpanSentencesTest::busy, UNKNOWN, "span", k, 0, 0);
            refused(SpanSentencesTest::busy, UNKNOWN, "span", k, 0, 7);
            refused(SpanSentencesTest::busy, UNKNOWN, "put", k, 0, 0, 1, 0);
            refused(SpanSentencesTest::busy, UNKNOWN, "put", k, 0, -1, 0, 128);
            refused(SpanSentencesTest::busy, UNKNOWN, "put", k, 6, 0, 1, 0);
            refused(SpanSentencesTest::busy, UNKNOWN, "fade", k, 0, 0, 0);
            refused(SpanSentencesTest::busy, UNKNOWN, "fade", k, 0, -1, 65);
            refused(SpanSentencesTest::busy, UNKNOWN, "gain", k, 0, 1);
            refused(SpanSentencesTest::busy, UNKNOWN, "gain", k, 0, 17);
            refused(SpanSentencesTest::busy, UNKNOWN, "wipe", k, 0, 128);
            refused(SpanSentencesTest::busy, UNKNOWN, "wipe", k, 5, 4);
            refused(SpanSentencesTest::busy, UNKNOWN, "cut", k, 20);
            refused(SpanSentencesTest::busy, UNKNOWN, "cut", k, 0);
            refused(SpanSentencesTest::busy, UNKNOWN, "move", k, 0, 0);
            refused(SpanSentencesTest::busy, UNKNOWN, "move", k, 0, 128);
            refused(SpanSentencesTest::busy, UNKNOWN, "shift", k, 0);
            refused(SpanSentencesTest::busy, UNKNOWN, "shift", k, 17);
            refused(SpanSentencesTest::busy, UNKNOWN, "shut", k);
            refused(SpanSentencesTest::busy, UNKNOWN, "undo", k);
            refused(SpanSentencesTest::busy, UNKNOWN, "played", k, 0);
            refused(SpanSentencesTest::busy, UNKNOWN, "played", k, 128);
            refused(SpanSentencesTest::busy, UNKNOWN, "covers", k, 1, 0);
            refused(SpanSentencesTest::busy, UNKNOWN, "covers", k, 0, 0);
        }
        House x = new House();
        x.tone(1, 0, 64);
        for (int k = 0; k < 4; k++) {
            // From the last moments to the first, yet numbered by moments.
            for (int i = 11; i >= 0; i--) due(x.put(k, 0, i, 1, 10 * i + k), 12 - i);
            for (int i = 0; i < 12; i++) {
                due(x.span(k, i, 3), 10 * i + k);
                due(x.span(k, i, 1), i);
            }
            due(x.span(k, 12, 3), UNKNOWN);
            due(x.put(k, 0, 0, 1, 127), NOT);
        }
        due(x.keep(0), 48);
        due(x.back(0), 48);
    }

    private static void numbersOfASpan() {
        sentence("A SPAN: m (1 .. 64) floats of a SOUND, from f on, at a MOMENT t (t and m 128 at most), with a GAIN (0 .. 16; 8 at first), IN and OUT (0 at first; together m at most).");
        House x = told("tone 1 0 64;tone 1 0 40;tone 1 0 1");
        due(x.put(0, 0, 0, 64, 0), 1);
        dueSpans(x, 0, "0 0 64 0 8 0 0");
        due(x.put(0, 0, 0, 64, 64), 2);
        dueSpans(x, 0, "0 0 64 0 8 0 0|0 0 64 64 8 0 0");
        due(x.put(1, 0, 63, 1, 127), 1);
        due(x.put(1, 1, 39, 1, 0), 2);
        due(x.put(1, 1, 0, 40, 87), 3);
        due(x.put(1, 1, 0, 40, 88), 3);
        dueSpans(x, 1, "1 39 1 0 8 0 0|1 0 1 87 8 0 0|1 0 40 88 8 0 0");
    }

    private static void spanTold() {
        sentence("Of a SPAN (by MOMENTS, 0 on) of a TRACK: SOUND (what 0), f (1), m (2), t (3), GAIN (4), IN (5), OUT (6). UNKNOWN (TRACK, SPAN); OUTSIDE.");
        House x = told("tone 1 0 64;tone 1 0 64;tone 1 0 64;put 2 2 11 22 33;gain 2 0 4;fade 2 0 5 6");
        int[] all = {2, 11, 22, 33, 4, 5, 6};
        for (int what = 0; what < 7; what++) due(x.span(2, 0, what), all[what]);
        for (int what : new int[] {LEAST, -1, 7, 8, MOST}) refused(SpanSentencesTest::busy, OUTSIDE, "span", 1, 2, what);
        for (int span : new int[] {LEAST, -1, 3, 11, 12, MOST}) {
            refused(SpanSentencesTest::busy, UNKNOWN, "span", 1, span, 0);
            refused(SpanSentencesTest::busy, UNKNOWN, "span", 1, span, 7);
        }
        refused(SpanSentencesTest::busy, UNKNOWN, "span", 3, 0, 0);
        x = twelve();
        due(x.span(0, 11, 3), 44);
        due(x.span(0, 12, 3), UNKNOWN);
        x.wipe(0, 44, 47);
        due(x.span(0, 10, 3), 40);
        due(x.span(0, 11, 3), UNKNOWN);
    }

    // What is left of ONE when m moments from t on are taken away, once by put, once by wipe.
    private static void left(int t, int m, String ahead, String behind) {
        String put = "0 0 " + m + " " + t + " 8 0 0";
        String both = ahead + (ahead.isEmpty() ? "" : "|") + put + (behind.isEmpty() ? "" : "|") + behind;
        int rest = (ahead.isEmpty() ? 0 : 1) + (behind.isEmpty() ? 0 : 1);
        House x = one();
        due(x.put(1, 0, 0, m, t), rest + 1);
        dueSpans(x, 1, both);
        x = one();
        due(x.wipe(1, t, t + m), rest);
        dueSpans(x, 1, ahead + (ahead.isEmpty() || behind.isEmpty() ? "" : "|") + behind);
        // Another span that goes to that place takes as much away.
        x = one();
        due(x.put(1, 0, 0, m, 64), 2);
        due(x.move(1, 1, t), rest + 1);
        dueSpans(x, 1, both);
    }

    private static void putOverOne() {
        sentence("PUT on a TRACK: a SPAN more.");
        for (int k = 0; k < 4; k++) {
            House x = told("tone 1 0 64");
            for (int i = 0; i < 12; i++) {
                due(x.put(k, 0, i, 1, 2 * i), i + 1);
                due(x.count(1 + k), i + 1);
                due(x.span(k, i, 1), i);
            }
            for (int j = 0; j < 4; j++) due(x.count(1 + j), j == k ? 12 : 0);
        }
        sentence("What lies there ahead of t, or from t and m on, stays; what is under it goes: a SPAN that reaches under it is cut short (it begins later, or ends sooner, or falls into two)");
        left(0, 20, "", ONE);
        left(19, 1, "", ONE);
        left(30, 1, ONE, "");
        left(30, 34, ONE, "");
        sentence("where one is cut its IN, or OUT, on that side is 0 (the other one stays, m at most then); GAIN stays.");
        left(0, 21, "", "0 6 9 21 11 0 3");
        left(20, 1, "", "0 6 9 21 11 0 3");
        left(20, 4, "", "0 9 6 24 11 0 3");
        left(20, 5, "", "0 10 5 25 11 0 3");
        left(18, 8, "", "0 11 4 26 11 0 3");
        left(20, 7, "", "0 12 3 27 11 0 3");
        left(20, 8, "", "0 13 2 28 11 0 2");
        left(20, 9, "", "0 14 1 29 11 0 1");
        left(29, 1, "0 5 9 20 11 4 0", "");
        left(29, 30, "0 5 9 20 11 4 0", "");
        left(27, 3, "0 5 7 20 11 4 0", "");
        left(26, 5, "0 5 6 20 11 4 0", "");
        left(24, 6, "0 5 4 20 11 4 0", "");
        left(23, 7, "0 5 3 20 11 3 0", "");
        left(22, 9, "0 5 2 20 11 2 0", "");
        left(21, 9, "0 5 1 20 11 1 0", "");
        left(21, 1, "0 5 1 20 11 1 0", "0 7 8 22 11 0 3");
        left(21, 8, "0 5 1 20 11 1 0", "0 14 1 29 11 0 1");
        left(24, 3, "0 5 4 20 11 4 0", "0 12 3 27 11 0 3");
        left(23, 5, "0 5 3 20 11 3 0", "0 13 2 28 11 0 2");
        left(28, 1, "0 5 8 20 11 4 0", "0 14 1 29 11 0 1");
        sentence("A SPAN of which nothing is left is there no more.");
        left(20, 10, "", "");
        left(19, 11, "", "");
        left(20, 11, "", "");
        left(0, 64, "", "");
    }

    private static void putOverMany() {
        sentence("a span that is put down takes away what lies under it, so that on a track nothing is ever heard twice");
        House x = twelve();
        due(x.put(0, 0, 0, 47, 0), 1);
        dueSpans(x, 0, "0 0 47 0 8 0 0");
        x = twelve();
        due(x.put(0, 0, 0, 45, 1), 3);
        dueSpans(x, 0, "0 0 1 0 8 0 0|0 0 45 1 8 0 0|0 13 1 46 8 0 0");
        x = twelve();
        due(x.wipe(0, 1, 46), 2);
        dueSpans(x, 0, "0 0 1 0 8 0 0|0 13 1 46 8 0 0");
        due(x.wipe(0, 0, 128), 0);
        x = one();
        for (int k = 0; k < 4; k++) if (k != 1) x.put(k, 0, 0, 64, 0);
        dueSpans(x, 1, ONE);
    }

    private static void put() {
        sentence("PUT: how many SPANS the TRACK has. UNKNOWN (TRACK, SOUND); OUTSIDE (f, m, t); NOT: there would be more than 12.");
        Supplier<House> busy = SpanSentencesTest::busy;
        for (int sound : new int[] {LEAST, -1, 3, 6, MOST}) {
            refused(busy, UNKNOWN, "put", 0, sound, 0, 1, 0);
            refused(busy, UNKNOWN, "put", 0, sound, -1, 0, -1);
        }
        refused(House::new, UNKNOWN, "put", 0, 0, 0, 1, 0);
        for (int f : new int[] {LEAST, -1, 40, 41, 64, MOST}) refused(busy, OUTSIDE, "put", 3, 0, f, 1, 0);
        refused(busy, OUTSIDE, "put", 3, 2, 1, 1, 0);
        for (int m : new int[] {LEAST, -1, 0, 41, 64, 65, MOST}) refused(busy, OUTSIDE, "put", 3, 0, 0, m, 0);
        for (int m : new int[] {LEAST, -1, 0, 65, 66, MOST}) refused(busy, OUTSIDE, "put", 3, 1, 0, m, 0);
        refused(busy, OUTSIDE, "put", 3, 0, 39, 2, 0);
        refused(busy, OUTSIDE, "put", 3, 0, 1, 40, 0);
        refused(busy, OUTSIDE, "put", 3, 2, 0, 2, 0);
        refused(busy, OUTSIDE, "put", 3, 0, MOST, MOST, 0);
        refused(busy, OUTSIDE, "put", 3, 0, LEAST, 1, 0);
        for (int t : new int[] {LEAST, -1, 128, 129, MOST}) refused(busy, OUTSIDE, "put", 3, 0, 0, 1, t);
        refused(busy, OUTSIDE, "put", 3, 0, 0, 2, 127);
        refused(busy, OUTSIDE, "put", 3, 0, 0, 40, 89);
        refused(busy, OUTSIDE, "put", 3, 1, 0, 64, 65);
        House x = busy();
        due(x.put(3, 0, 39, 1, 127), 1);
        due(x.put(3, 0, 0, 40, 88), 1);
        due(x.put(3, 1, 0, 64, 64), 1);
        due(x.put(3, 2, 0, 1, 0), 2);
        thirteenth();
    }

    private static void thirteenth() {
        Supplier<House> twelve = SpanSentencesTest::twelve;
        refused(SpanSentencesTest::twelveKept, NOT, "put", 0, 0, 0, 1, 127);
        refused(SpanSentencesTest::twelveKept, NOT, "put", 0, 0, 0, 1, 1);
        refused(twelve, NOT, "put", 0, 0, 0, 1, 127);
        refused(twelve, NOT, "put", 0, 0, 0, 64, 64);
        refused(twelve, NOT, "put", 0, 0, 0, 1, 3);
        refused(twelve, NOT, "put", 0, 0, 0, 1, 0);
        refused(twelve, NOT, "put", 0, 0, 0, 2, 2);
        refused(twelve, NOT, "put", 0, 0, 0, 1, 1);
        refused(twelve, NOT, "put", 0, 0, 0, 3, 2);
        refused(twelve, OUTSIDE, "put", 0, 0, 0, 1, 128);
        refused(twelve, OUTSIDE, "put", 0, 0, 64, 1, 127);
        refused(twelve, OUTSIDE, "put", 0, 0, 0, 0, 127);
        refused(twelve, UNKNOWN, "put", 0, 1, 0, 1, 127);
        House x = twelve();
        due(x.put(0, 0, 9, 3, 0), 12);
        due(x.put(0, 0, 9, 4, 0), 12);
        due(x.put(0, 0, 9, 5, 0), 12);
        due(x.put(0, 0, 9, 7, 0), 11);
        due(x.put(0, 0, 0, 1, 127), 12);
        due(x.put(0, 0, 0, 1, 126), NOT);
        due(x.put(1, 0, 0, 1, 126), 1);
        // From 11 spans, one in the midst of another would make 13.
        x = twelve();
        due(x.wipe(0, 44, 47), 11);
        due(x.put(0, 0, 0, 1, 1), NOT);
        due(x.count(1), 11);
        due(x.put(0, 0, 0, 1, 0), 12);
        // From 10, it makes 12.
        x = twelve();
        due(x.wipe(0, 40, 47), 10);
        due(x.put(0, 0, 0, 1, 1), 12);
    }

    private static void fade() {
        sentence("IN, OUT of a SPAN: what IN was. UNKNOWN; OUTSIDE: below 0, together above m.");
        Supplier<House> busy = SpanSentencesTest::busy;
        for (int span : new int[] {LEAST, -1, 3, 12, MOST}) {
            refused(busy, UNKNOWN, "fade", 1, span, 0, 0);
            refused(busy, UNKNOWN, "fade", 1, span, -1, 0);
        }
        refused(busy, UNKNOWN, "fade", 3, 0, 0, 0);
        refused(busy, OUTSIDE, "fade", 1, 2, -1, 0);
        refused(busy, OUTSIDE, "fade", 1, 2, 0, -1);
        refused(busy, OUTSIDE, "fade", 1, 2, -1, 5);
        refused(busy, OUTSIDE, "fade", 1, 2, 5, -1);
        refused(busy, OUTSIDE, "fade", 1, 2, -1, -1);
        refused(busy, OUTSIDE, "fade", 1, 2, 21, 0);
        refused(busy, OUTSIDE, "fade", 1, 2, 0, 21);
        refused(busy, OUTSIDE, "fade", 1, 2, 20, 1);
        refused(busy, OUTSIDE, "fade", 1, 2, 1, 20);
        refused(busy, OUTSIDE, "fade", 1, 2, 10, 11);
        refused(busy, OUTSIDE, "fade", 1, 2, 21, -1);
        refused(busy, OUTSIDE, "fade", 1, 2, MOST, MOST);
        refused(busy, OUTSIDE, "fade", 1, 2, MOST, 1);
        refused(busy, OUTSIDE, "fade", 1, 2, LEAST, LEAST);
        refused(busy, OUTSIDE, "fade", 1, 2, LEAST, 0);
        House x = busy();
        due(x.fade(1, 2, 20, 0), 4);
        due(x.fade(1, 2, 0, 20), 20);
        due(x.fade(1, 2, 9, 11), 0);
        due(x.fade(1, 2, 0, 0), 9);
        due(x.fade(1, 2, 0, 0), 0);
        due(x.fade(2, 0, 1, 0), 0);
        due(x.fade(2, 0, 0, 1), 1);
        due(x.fade(2, 0, 1, 1), OUTSIDE);
        dueSpans(x, 2, "2 0 1 127 8 0 1");
        x = told("tone 1 0 64;put 0 0 0 64 0");
        due(x.fade(0, 0, 64, 0), 0);
        due(x.fade(0, 0, 0, 64), 64);
        due(x.fade(0, 0, 65, 0), OUTSIDE);
        due(x.fade(0, 0, 0, 65), OUTSIDE);
        due(x.fade(0, 0, 32, 32), 0);
        due(x.fade(0, 0, 33, 32), OUTSIDE);
        dueSpans(x, 0, "0 0 64 0 8 32 32");
    }

    private static void gain() {
        sentence("GAIN (0 .. 16) of a SPAN: what it was. UNKNOWN; OUTSIDE.");
        Supplier<House> busy = SpanSentencesTest::busy;
        for (int span : new int[] {LEAST, -1, 2, 12, MOST}) {
            refused(busy, UNKNOWN, "gain", 0, span, 0);
            refused(busy, UNKNOWN, "gain", 0, span, 17);
        }
        refused(busy, UNKNOWN, "gain", 3, 0, 0);
        for (int gain : new int[] {LEAST, -1, 17, MOST}) refused(busy, OUTSIDE, "gain", 0, 1, gain);
        House x = busy();
        int was = 8;
        for (int gain = 0; gain <= 16; gain++) {
            due(x.gain(0, 1, gain), was);
            due(x.span(0, 1, 4), gain);
            was = gain;
        }
        due(x.span(0, 0, 4), 3);
        due(x.span(0, 1, 5), 0);
        due(x.span(0, 0, 5), 30);
    }

    private static void wipe() {
        sentence("WIPED from one MOMENT (0 .. 127) to another, ahead of which it ends (0 .. 128, not less than the first one): how many SPANS are left. UNKNOWN; OUTSIDE; NOT: there would be more than 12.");
        Supplier<House> busy = SpanSentencesTest::busy;
        for (int from : new int[] {LEAST, -1, 128, 129, MOST}) refused(busy, OUTSIDE, "wipe", 0, from, 128);
        for (int to : new int[] {LEAST, -1, 19, 129, MOST}) refused(busy, OUTSIDE, "wipe", 0, 20, to);
        refused(busy, OUTSIDE, "wipe", 0, 128, 128);
        refused(busy, OUTSIDE, "wipe", 0, 127, 126);
        refused(busy, OUTSIDE, "wipe", 0, 1, 0);
        refused(busy, OUTSIDE, "wipe", 0, -1, -1);
        House x = busy();
        due(x.wipe(2, 127, 127), 1);
        due(x.wipe(2, 127, 128), 0);
        due(x.wipe(1, 0, 0), 3);
        due(x.wipe(1, 0, 1), 3);
        due(x.span(1, 0, 3), 1);
        due(x.wipe(1, 0, 128), 0);
        due(x.wipe(1, 0, 128), 0);
        refused(SpanSentencesTest::twelve, NOT, "wipe", 0, 1, 2);
        refused(SpanSentencesTest::twelveKept, NOT, "wipe", 0, 1, 2);
        refused(SpanSentencesTest::twelve, NOT, "wipe", 0, 45, 46);
        refused(SpanSentencesTest::twelve, OUTSIDE, "wipe", 0, 2, 1);
        x = twelve();
        due(x.wipe(0, 1, 1), 12);
        due(x.wipe(0, 0, 1), 12);
        due(x.wipe(0, 2, 3), 12);
        due(x.wipe(0, 5, 7), 12);
        due(x.wipe(0, 4, 7), 11);
        due(x.wipe(0, 9, 10), 12);
        due(x.wipe(0, 13, 14), NOT);
        due(x.wipe(0, 13, 18), 12);
        sentence("WIPED from one MOMENT to another: what lies there goes likewise (from one to itself: nothing does, nothing is cut).");
        for (int moment = 0; moment < 128; moment++) {
            x = told("tone 1 0 64;put 1 0 0 64 0;fade 1 0 30 34;put 1 0 0 64 64;fade 1 1 64 0");
            due(x.wipe(1, moment, moment), 2);
            dueSpans(x, 1, "0 0 64 0 8 30 34|0 0 64 64 8 64 0");
        }
    }

    private static void cut() {
        sentence("CUT at a MOMENT: the SPAN that has it and the one ahead falls into two there (that with that MOMENT and on, and that ahead; IN of the one, OUT of the other are 0, as where a SPAN is cut by PUT).");
        for (int moment = 0; moment <= 128; moment++) {
            House x = one();
            boolean inside = moment >= 21 && moment <= 29;
            due(x.cut(1, moment), moment == 0 || moment == 128 ? OUTSIDE : inside ? 2 : NOT);
            int left = moment - 20;
            dueSpans(x, 1, inside ? "0 5 " + left + " 20 11 " + Math.min(left, 4) + " 0|0 " + (5 + left) + " " + (10 - left) + " " + moment + " 11 0 " + Math.min(10 - left, 3) : ONE);
        }
        sentence("CUT at a MOMENT (1 .. 127): how many SPANS there are. UNKNOWN; OUTSIDE; NOT: no SPAN has it and the one ahead, or there are 12.");
        for (int moment : new int[] {LEAST, -1, 0, 128, 129, MOST}) {
            refused(SpanSentencesTest::busy, OUTSIDE, "cut", 1, moment);
            refused(SpanSentencesTest::twelve, OUTSIDE, "cut", 0, moment);
        }
        // At its first moment, behind its last one, between two that touch, where nothing is.
        for (int moment : new int[] {1, 9, 10, 50, 59, 60, 65, 127}) refused(SpanSentencesTest::busy, NOT, "cut", 0, moment);
        refused(SpanSentencesTest::busy, NOT, "cut", 1, 30);
        refused(SpanSentencesTest::busy, NOT, "cut", 1, 64);
        refused(SpanSentencesTest::busy, NOT, "cut", 2, 127);
        refused(SpanSentencesTest::busy, NOT, "cut", 3, 64);
        refused(SpanSentencesTest::twelve, NOT, "cut", 0, 1);
        refused(SpanSentencesTest::twelveKept, NOT, "cut", 0, 1);
        refused(SpanSentencesTest::twelveKept, NOT, "cut", 0, 3);
        refused(SpanSentencesTest::twelve, NOT, "cut", 0, 3);
        refused(SpanSentencesTest::twelve, NOT, "cut", 0, 46);
        House x = told("tone 1 0 64;put 0 0 0 64 0;put 0 0 0 64 64");
        due(x.cut(0, 1), 3);
        due(x.cut(0, 127), 4);
        due(x.cut(0, 63), 5);
        due(x.cut(0, 65), 6);
        dueSpans(x, 0, "0 0 1 0 8 0 0|0 1 62 1 8 0 0|0 63 1 63 8 0 0|0 0 1 64 8 0 0|0 1 62 65 8 0 0|0 63 1 127 8 0 0");
        for (int i = 0; i < 6; i++) due(x.cut(0, 10 + i), 7 + i);
        due(x.cut(0, 20), NOT);
    }

    private static void move() {
        sentence("A SPAN goes, and is PUT at a MOMENT t (GAIN, IN, OUT stay): how many SPANS the TRACK has. UNKNOWN; OUTSIDE: t and m; NOT: there would be more than 12.");
        Supplier<House> busy = SpanSentencesTest::busy;
        for (int span : new int[] {LEAST, -1, 2, 12, MOST}) {
            refused(busy, UNKNOWN, "move", 0, span, 0);
            refused(busy, UNKNOWN, "move", 0, span, 128);
        }
        refused(busy, UNKNOWN, "move", 3, 0, 0);
        for (int t : new int[] {LEAST, -1, 89, 127, 128, MOST}) refused(busy, OUTSIDE, "move", 0, 0, t);
        for (int t : new int[] {LEAST, -1, 124, 128, MOST}) refused(busy, OUTSIDE, "move", 0, 1, t);
        for (int t : new int[] {LEAST, -1, 128, 129, MOST}) refused(busy, OUTSIDE, "move", 2, 0, t);
        for (int t = 0; t <= 118; t++) {
            House x = one();
            due(x.move(1, 0, t), 1);
            dueSpans(x, 1, "0 5 10 " + t + " 11 4 3");
        }
        House x = one();
        due(x.move(1, 0, 119), OUTSIDE);
        x = busy();
        due(x.move(2, 0, 0), 1);
        due(x.move(2, 0, 127), 1);
        due(x.move(0, 0, 88), 2);
        dueSpans(x, 0, "1 20 5 60 8 0 0|0 0 40 88 3 30 10");
        due(x.move(0, 1, 0), 2);
        dueSpans(x, 0, "0 0 40 0 3 30 10|1 20 5 60 8 0 0");
        // Its own place is free, as it goes first: none of it is cut by itself.
        due(x.move(0, 0, 1), 2);
        dueSpans(x, 0, "0 0 40 1 3 30 10|1 20 5 60 8 0 0");
        due(x.move(0, 1, 10), 3);
        dueSpans(x, 0, "0 0 9 1 3 9 0|1 20 5 10 8 0 0|0 14 26 15 3 0 10");
        refused(SpanSentencesTest::full, NOT, "move", 1, 11, 5);
        Supplier<House> cutToTwelve = () -> {
            House y = told("tone 1 0 64;put 0 0 0 64 0");
            for (int i = 1; i < 12; i++) y.cut(0, i);
            y.keep(0);
            y.back(0);
            return y;
        };
        refused(cutToTwelve, NOT, "move", 0, 0, 40);
        refused(cutToTwelve, NOT, "move", 0, 10, 62);
        refused(cutToTwelve, OUTSIDE, "move", 0, 0, 128);
        House z = cutToTwelve.get();
        due(z.move(0, 0, 11), 12);
        due(z.move(0, 0, 63), 12);
        // The one that goes leaves its place, so 12 may be 12 again.
        x = twelve();
        due(x.move(0, 0, 125), 12);
        due(x.span(0, 11, 3), 125);
        due(x.span(0, 0, 3), 4);
        due(x.move(0, 11, 5), 12);
        due(x.move(0, 1, 4), 11);
        due(x.cut(0, 5), 12);
        due(x.cut(0, 6), NOT);
        due(x.move(0, 0, 9), NOT);
    }

    private static void shift() {
        sentence("SHIFT of a TRACK (-16 .. 16): what it was. UNKNOWN; OUTSIDE.");
        for (int n : new int[] {LEAST, -17, 17, 18, MOST}) refused(SpanSentencesTest::busy, OUTSIDE, "shift", 1, n);
        House x = new House();
        int was = 0;
        for (int n = -16; n <= 16; n++) {
            due(x.shift(2, n), was);
            due(x.count(20), 100 + n);
            was = n;
        }
        due(x.count(18) + x.count(19) + x.count(21), 300);
        // What is done with spans leaves it.
        for (int n : new int[] {-16, 5, 16}) {
            x = told("tone 1 0 64");
            x.shift(2, n);
            x.put(2, 0, 0, 64, 0);
            due(x.count(20), 100 + n);
            x.cut(2, 9);
            due(x.count(20), 100 + n);
            x.wipe(2, 30, 40);
            due(x.count(20), 100 + n);
            x.move(2, 0, 99);
            due(x.count(20), 100 + n);
            x.gain(2, 0, 1);
            due(x.count(20), 100 + n);
            x.fade(2, 0, 1, 1);
            due(x.count(20), 100 + n);
            for (int i = 0; i < 4; i++) x.undo(2);
            due(x.count(20), 100 + n);
            x.put(2, 0, 0, 1, 127);
            due(x.count(20), 100 + n);
        }
    }

    private static void shut() {
        sentence("A TRACK is SHUT, or, if it is, not any more: 1 it is then, 0. UNKNOWN.");
        House x = new House();
        for (int k = 0; k < 4; k++) {
            due(x.shut(k), 1);
            due(x.count(5), (2 << k) - 1);
        }
        for (int k = 0; k < 4; k++) {
            due(x.shut(k), 0);
            due(x.count(5), 15 & ~((2 << k) - 1));
        }
        due(x.shut(2), 1);
        due(x.shut(2), 0);
        due(x.shut(2), 1);
        due(x.count(5), 4);
        due(x.count(15), 0);
    }

    private static void undo() {
        sentence("The latest put(), fade(), gain(), wipe(), cut(), move(), shift() on a TRACK (such by which nothing becomes another, too) is undone there (the last 4 of each can be; SPANS, SHIFT are as they were ahead of it): how many can be undone there yet. UNKNOWN; NOT: none.");
        refused(House::new, NOT, "undo", 0);
        refused(SpanSentencesTest::busy, NOT, "undo", 3);
        refused(() -> {
            House y = busy();
            for (int i = 0; i < 4; i++) y.undo(1);
            return y;
        }, NOT, "undo", 1);
        Call[] changes = {new Call("put", 1, 0, 0, 2, 25), new Call("fade", 1, 0, 1, 1), new Call("gain", 1, 0, 3), new Call("wipe", 1, 22, 24),
            new Call("cut", 1, 25), new Call("move", 1, 0, 50), new Call("shift", 1, -7), new Call("fade", 1, 0, 4, 3), new Call("gain", 1, 0, 11),
            new Call("wipe", 1, 25, 25), new Call("wipe", 1, 0, 20), new Call("move", 1, 0, 20), new Call("shift", 1, 0)};
        for (Call change : changes) {
            House x = one();
            due(x.count(14), 0);
            change.on(x);
            due(x.count(14), 1);
            due(x.undo(1), 0);
            dueSpans(x, 1, ONE);
            due(x.count(19), 100);
            due(x.undo(1), NOT);
        }
        for (int made = 0; made <= 9; made++) lastFour(made);
        for (int undone = 1; undone <= 4; undone++) {
            for (int more = 1; more <= 6; more++) undoneAndMore(undone, more);
        }
        undoneByThemselves();
    }

    // Of a row of gains on each of four tracks as many as four can be undone.
    private static void lastFour(int made) {
        House x = told("tone 1 0 9;put 0 0 0 9 0;put 1 0 0 9 0;put 2 0 0 9 0;put 3 0 0 9 0");
        for (int k = 0; k < 4; k++) {
            for (int i = 1; i <= made; i++) due(x.gain(k, 0, i), i == 1 ? 8 : i - 1);
        }
        for (int k = 3; k >= 0; k--) {
            int can = Math.min(made, 4);
            for (int i = 1; i <= can; i++) {
                due(x.count(13 + k), can - i + 1);
                due(x.undo(k), can - i);
                due(x.span(k, 0, 4), made - i == 0 ? 8 : made - i);
            }
            due(x.undo(k), NOT);
            due(x.count(13 + k), 0);
        }
    }

    // Behind some that were undone more are done: the latest of both can be undone, those that were undone cannot.
    private static void undoneAndMore(int undone, int more) {
        House x = one();
        int[] gains = new int[16];
        gains[0] = 11;
        int made = 0;
        int can = 0;
        for (int i = 1; i <= 5; i++) {
            gains[++made] = i;
            x.gain(1, 0, i);
            can = Math.min(4, can + 1);
        }
        for (int i = 0; i < undone; i++) {
            made--;
            can--;
            due(x.undo(1), can);
            due(x.span(1, 0, 4), gains[made]);
        }
        for (int i = 1; i <= more; i++) {
            due(x.gain(1, 0, 10 + i), gains[made]);
            gains[++made] = 10 + i;
            can = Math.min(4, can + 1);
            due(x.count(14), can);
        }
        while (can > 0) {
            made--;
            can--;
            due(x.undo(1), can);
            dueSpans(x, 1, "0 5 10 20 " + gains[made] + " 4 3");
        }
        due(x.undo(1), NOT);
    }

    private static void undoneByThemselves() {
        sentence("each track is undone by itself, the others staying");
        House x = told("tone 1 0 9");
        x.put(0, 0, 0, 9, 0);
        x.put(1, 0, 0, 9, 0);
        x.shift(0, 5);
        x.shift(1, 6);
        x.shut(0);
        due(x.undo(0), 1);
        due(x.count(18), 100);
        due(x.count(19), 106);
        due(x.count(5), 1);
        due(x.undo(0), 0);
        due(x.count(1), 0);
        due(x.count(2), 1);
        due(x.undo(0), NOT);
        due(x.count(14), 2);
        due(x.count(5), 1);
        // Sounds, shutting and keeping are none of what is undone; refused calls neither.
        x = one();
        x.tone(1, 1, 1);
        x.bounce(0, 1);
        x.shut(1);
        x.keep(0);
        x.rack(0, 0, 1);
        x.put(1, 0, 0, 65, 0);
        x.fade(1, 0, 11, 0);
        x.gain(1, 0, 17);
        x.wipe(1, 5, 4);
        x.cut(1, 20);
        x.move(1, 0, 119);
        x.shift(1, 17);
        due(x.count(14), 0);
        due(x.undo(1), NOT);
        due(x.count(0), 3);
    }

    private static void keep() {
        sentence("TRACKS are kept (k 0, 1; their SPANS, SHIFTS, SHUT or not): how many SPANS they have. OUTSIDE: no such k.");
        for (int k : new int[] {LEAST, -1, 2, 3, MOST}) {
            refused(SpanSentencesTest::busy, OUTSIDE, "keep", k);
            refused(SpanSentencesTest::full, OUTSIDE, "keep", k);
        }
        House x = new House();
        due(x.keep(1), 0);
        due(x.back(0), NOT);
        due(x.back(1), 0);
        x = busy();
        due(x.keep(1), 6);
        due(x.count(13), 4);
        due(x.wipe(1, 0, 128), 0);
        due(x.keep(1), 3);
        due(x.back(1), 3);
        due(x.back(0), 6);
        due(x.count(2), 3);
    }

    private static void back() {
        sentence("They are as they were kept, nothing can be undone: how many SPANS they have. OUTSIDE; NOT: nothing was kept since the last text.");
        for (int k : new int[] {LEAST, -1, 2, 3, MOST}) {
            refused(SpanSentencesTest::busy, OUTSIDE, "back", k);
            refused(SpanSentencesTest::full, OUTSIDE, "back", k);
        }
        refused(SpanSentencesTest::busy, NOT, "back", 1);
        refused(House::new, NOT, "back", 0);
        refused(() -> {
            House y = busy();
            house(y, "shut 0");
            y.gain(0, 0, 9);
            y.keep(1);
            return y;
        }, NOT, "back", 0);
        House x = busy();
        String[] kept = new String[4];
        for (int k = 0; k < 4; k++) kept[k] = Look.spans(x, k);
        due(x.shift(2, -3), 16);
        due(x.shift(3, 7), 0);
        due(x.shut(3), 1);
        due(x.wipe(0, 0, 128), 0);
        due(x.put(3, 0, 0, 9, 9), 1);
        due(x.tone(1, 2, 3), 3);
        due(x.back(0), 6);
        for (int k = 0; k < 4; k++) {
            dueSpans(x, k, kept[k]);
            due(x.count(13 + k), 0);
            due(x.undo(k), NOT);
        }
        due(x.count(5), 4);
        due(x.count(19), 84);
        due(x.count(20), 100);
        due(x.count(21), 100);
        // Sounds, racks and the text are not kept, so they stay.
        due(x.count(0), 4);
        due(x.count(12), 5);
        due(x.count(17), 18);
        due(x.gain(0, 0, 1), 3);
        due(x.undo(0), 0);
        due(x.back(0), 6);
        // A text with a fault forgets nothing, one that is done does.
        due(x.house(), NOT);
        due(x.back(0), 6);
        due(house(x, "gain 0 0 8"), 1);
        due(x.back(0), NOT);
        due(x.keep(0), 6);
        due(x.back(0), 6);
        due(x.back(1), NOT);
    }

    private static void covers() {
        sentence("COVERS of a SPAN of m at t on a TRACK: how many MOMENTS of SPANS there it would take away.");
        House x = one();
        x.put(1, 0, 0, 1, 30);
        x.put(1, 0, 0, 1, 0);
        x.put(1, 0, 0, 1, 127);
        int[][] all = {{1, 0, 1}, {1, 1, 0}, {19, 1, 0}, {20, 1, 1}, {64, 0, 12}, {64, 64, 1}, {63, 64, 0}, {1, 19, 0}, {1, 20, 1}, {1, 29, 1}, {1, 30, 1}, {1, 31, 0},
            {10, 20, 10}, {11, 20, 11}, {12, 19, 11}, {64, 1, 11}, {1, 127, 1}, {2, 126, 1}, {64, 63, 0}};
        for (int[] row : all) due(x.covers(1, row[0], row[1]), row[2]);
        due(x.covers(0, 64, 0), 0);
        due(x.covers(3, 64, 64), 0);
        sentence("COVERS. UNKNOWN; OUTSIDE: m 1 .. 64, t and m.");
        for (int m : new int[] {LEAST, -1, 0, 65, MOST}) refused(SpanSentencesTest::busy, OUTSIDE, "covers", 1, m, 0);
        for (int t : new int[] {LEAST, -1, 128, MOST}) refused(SpanSentencesTest::busy, OUTSIDE, "covers", 1, 1, t);
        refused(SpanSentencesTest::busy, OUTSIDE, "covers", 1, 64, 65);
        refused(SpanSentencesTest::busy, OUTSIDE, "covers", 1, 2, 127);
        sentence("FORETOLD (nothing changes).");
        refused(SpanSentencesTest::busy, 64, "covers", 1, 64, 0);
        refused(SpanSentencesTest::twelve, 3, "covers", 0, 64, 44);
        // As many are gone behind the put, SHIFT and SHUT or not.
        for (int t = 0; t <= 64; t += 7) {
            House y = busy();
            due(y.covers(1, 64, t), 84 - Math.max(0, t) - Math.max(0, 84 - t - 64));
        }
    }

    private static void times() {
        sentence("TIMES of a float i of a SOUND: on how many MOMENTS of how many TRACKS (SHUT ones, too) it lies, together.");
        House x = told("tone 1 0 5;tone 1 0 5;put 0 0 0 5 0;put 0 0 0 5 5;put 0 0 4 1 127;put 1 0 1 3 10;put 2 1 0 5 0;shut 0;shift 1 16;shift 2 - 16");
        int[] zero = {2, 3, 3, 3, 3};
        for (int i = 0; i < 5; i++) {
            due(x.sound(0, 3, i), zero[i]);
            due(x.sound(1, 3, i), 1);
        }
        due(x.put(0, 1, 0, 1, 127), 3);
        due(x.sound(0, 3, 4), 2);
        due(x.sound(1, 3, 0), 2);
        due(x.undo(0), 0);
        due(x.sound(0, 3, 4), 3);
        due(x.gain(2, 0, 0), 8);
        due(x.sound(1, 3, 0), 1);
        x = new House();
        x.tone(1, 0, 64);
        due(x.sound(0, 3, 0), 0);
        for (int k = 0; k < 4; k++) {
            for (int i = 0; i < 12; i++) x.put(k, 0, 63, 1, i);
        }
        due(x.sound(0, 3, 63), 48);
        due(x.sound(0, 3, 62), 0);
    }

    private static void gaps() {
        sentence("GAPS of a TRACK: runs of MOMENTS without a SPAN, ahead of its last SPAN (how many).");
        House x = told("tone 1 0 64");
        for (int k = 0; k < 4; k++) {
            due(x.count(8 + k), 0);
            x.put(k, 0, 0, 1, 127);
            due(x.count(8 + k), 1);
            x.put(k, 0, 0, 1, 0);
            due(x.count(8 + k), 1);
            x.put(k, 0, 0, 1, 2);
            due(x.count(8 + k), 2);
            x.put(k, 0, 0, 1, 1);
            due(x.count(8 + k), 1);
            x.put(k, 0, 0, 62, 3);
            x.put(k, 0, 0, 62, 65);
            due(x.count(8 + k), 0);
            x.wipe(k, 0, 1);
            due(x.count(8 + k), 1);
            x.wipe(k, 127, 128);
            due(x.count(8 + k), 1);
            x.wipe(k, 60, 61);
            due(x.count(8 + k), 2);
            x.shift(k, 16);
            x.shut(k);
            due(x.count(8 + k), 2);
        }
        due(twelve().count(8), 11);
        x = twelve();
        x.wipe(0, 0, 1);
        due(x.count(8), 12);
    }

    private static void countsOfTracks() {
        sentence("1 to 4 SPANS of TRACK 0 to 3, 5 SHUT TRACKS (bits)");
        House x = told("tone 1 0 9;put 0 0 0 1 0;put 1 0 0 1 0;put 1 0 0 1 1;put 2 0 0 1 0;put 2 0 0 1 1;put 2 0 0 1 2;shut 1;shut 3");
        due(x.count(1), 1);
        due(x.count(2), 2);
        due(x.count(3), 3);
        due(x.count(4), 0);
        due(x.count(5), 10);
        sentence("13 to 16 how many can be undone on TRACK 0 to 3, 17 letters of THE TEXT, 18 to 21 SHIFT of TRACK 0 to 3, and 100. OUTSIDE.");
        for (int k = 0; k < 4; k++) {
            for (int i = 0; i <= k; i++) x.shift(k, -16 + k);
            due(x.count(13 + k), k + 1);
            due(x.count(18 + k), 84 + k);
            due(x.shift(k, 16 - k), -16 + k);
            due(x.count(18 + k), 116 - k);
        }
        for (int what : new int[] {LEAST, -1, 22, 23, MOST}) refused(SpanSentencesTest::busy, OUTSIDE, "count", what);
    }

    private static void manyCalls() {
        sentence("An object is used for at most 512 calls after it has been made; what later calls answer is free.");
        House x = new House();
        for (int i = 0; i < 512; i++) due(x.shift(0, i % 33 - 16), i == 0 ? 0 : (i - 1) % 33 - 16);
        x = new House();
        x.tone(1, 0, 64);
        for (int i = 1; i < 512; i++) due(x.put(3, 0, i % 64, 1, i % 12), Math.min(i, 12));
        x = new House();
        for (int i = 0; i < 512; i++) due(x.keep(i % 2), 0);
        x = new House();
        for (int i = 0; i < 512; i++) due(x.rack(i % 3, i % 3, i % 9), i % 9);
        x = new House();
        for (int i = 0; i < 512; i++) due(x.write(i % 256), i < 200 ? i + 1 : FULL);
        x = new House();
        for (int i = 0; i < 512; i++) due(x.tone(i % 201, 0, 64), i < 6 ? i : FULL);
    }

    public static void main(String[] args) {
        aNewHouse();
        tracks();
        numbersOfASpan();
        spanTold();
        putOverOne();
        putOverMany();
        put();
        fade();
        gain();
        wipe();
        cut();
        move();
        shift();
        shut();
        undo();
        keep();
        back();
        covers();
        times();
        gaps();
        countsOfTracks();
        manyCalls();
        end();
    }
}
