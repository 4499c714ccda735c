import java.util.function.Supplier;

// The document's sentences about sounds and what is heard (parts 1 and 2, promises 6, 8, 17, 21 to 24, 32), each at its edges.
public final class SoundSentencesTest extends Checks {
    private static House busy() {
        House x = new House();
        States.busy(x);
        return x;
    }

    private static House full() {
        House x = new House();
        States.full(x);
        return x;
    }

    private static long bits(float level) {
        return Float.floatToIntBits(level);
    }

    private static void sixSounds() {
        sentence("SOUNDS 0, 1 .., 6 at most (none at first), each a row of 1 to 64 floats.");
        House x = new House();
        due(x.count(0), 0);
        due(x.sound(0, 0, 0), UNKNOWN);
        for (int s = 0; s < 6; s++) {
            due(s % 2 == 0 ? x.tone(0, s, 1 + s) : x.bounce(0, 64 - s), s);
            due(x.count(0), s + 1);
            due(x.sound(s, 0, 0), s % 2 == 0 ? 1 + s : 64 - s);
            due(x.sound(s + 1, 0, 0), UNKNOWN);
        }
        due(x.tone(0, 0, 1), FULL);
        due(x.bounce(0, 1), FULL);
        due(x.count(0), 6);
        for (int n = 1; n <= 64; n++) {
            x = new House();
            due(x.tone(1, 0, n), 0);
            due(x.sound(0, 0, 0), n);
            due(x.sound(0, 1, n - 1), (n - 101) * 16);
            due(x.sound(0, 1, n), OUTSIDE);
            due(x.bounce(0, n), 1);
            due(x.sound(1, 0, 0), n);
            due(x.sound(1, 2, n - 1), 0);
            due(x.sound(1, 2, n), OUTSIDE);
        }
    }

    private static void tones() {
        sentence("at i what is left of a times i and b by 201, less 100");
        House x = new House();
        due(x.tone(0, 0, 2), 0);
        due(x.sound(0, 1, 1), -1600);
        due(x.tone(0, 200, 2), 1);
        due(x.sound(1, 1, 1), 1600);
        due(x.tone(1, 199, 4), 2);
        int[] wraps = {99, 100, -100, -99};
        for (int i = 0; i < 4; i++) due(x.sound(2, 1, i), wraps[i] * 16);
        due(x.tone(200, 200, 64), 3);
        for (int i = 0; i < 64; i++) due(x.sound(3, 1, i), (100 - i) * 16);
        due(x.tone(200, 0, 64), 4);
        due(x.sound(4, 1, 0), -1600);
        for (int i = 1; i < 64; i++) due(x.sound(4, 1, i), (101 - i) * 16);
        due(x.tone(67, 66, 64), 5);
        int[] threes = {66 - 100, 133 - 100, 200 - 100};
        for (int i = 0; i < 64; i++) due(x.sound(5, 2, i), bits(threes[i % 3]));
        for (int a = 0; a <= 200; a++) {
            for (int b = a % 5; b <= 200; b += 5) {
                House y = new House();
                due(y.tone(a, b, 64), 0);
                due(y.sound(0, 1, 63), ((a * 63 + b) % 201 - 100) * 16);
                due(y.sound(0, 1, 1), ((a + b) % 201 - 100) * 16);
            }
        }
        sentence("A TONE, a SOUND more: its number. OUTSIDE; FULL: 6.");
        Supplier<House> full = SoundSentencesTest::full;
        for (int n : new int[] {LEAST, -1, 201, 202, MOST}) {
            refused(SoundSentencesTest::busy, OUTSIDE, "tone", n, 0, 1);
            refused(SoundSentencesTest::busy, OUTSIDE, "tone", 0, n, 1);
            refused(full, OUTSIDE, "tone", n, 0, 1);
            refused(full, OUTSIDE, "tone", 0, n, 1);
        }
        for (int n : new int[] {LEAST, -1, 0, 65, 66, MOST}) {
            refused(SoundSentencesTest::busy, OUTSIDE, "tone", 0, 0, n);
            refused(full, OUTSIDE, "tone", 0, 0, n);
        }
        refused(full, FULL, "tone", 0, 0, 1);
        refused(full, FULL, "tone", 200, 200, 64);
    }

    private static void soundsTold() {
        sentence("Of a SOUND: how many floats (what 0), float i times 16, cut (1), its bits as an int (2), TIMES (3). UNKNOWN; OUTSIDE: what; i (what 1 to 3).");
        Supplier<House> busy = SoundSentencesTest::busy;
        for (int sound : new int[] {LEAST, -1, 3, 5, 6, MOST}) {
            refused(busy, UNKNOWN, "sound", sound, 0, 0);
            refused(busy, UNKNOWN, "sound", sound, 4, 99);
        }
        for (int what : new int[] {LEAST, -1, 4, 5, MOST}) refused(busy, OUTSIDE, "sound", 0, what, 0);
        for (int what = 1; what <= 3; what++) {
            for (int i : new int[] {LEAST, -1, 40, 63, 64, MOST}) refused(busy, OUTSIDE, "sound", 0, what, i);
            refused(busy, OUTSIDE, "sound", 2, what, 1);
            refused(busy, OUTSIDE, "sound", 1, what, 64);
        }
        House x = busy();
        for (int i : new int[] {LEAST, -1, 0, 39, 40, 64, MOST}) due(x.sound(0, 0, i), 40);
        due(x.sound(0, 1, 0), -97 * 16);
        due(x.sound(0, 1, 39), ((7 * 39 + 3) % 201 - 100) * 16);
        due(x.sound(0, 2, 0), bits(-97f));
        due(x.sound(1, 2, 63), bits((33 * 63 + 9) % 201 - 100));
        due(x.sound(0, 3, 0), 1);
        due(x.sound(0, 3, 39), 1);
        due(x.sound(0, 3, 5), 2);
        due(full().sound(5, 0, 0), 64);
        due(full().sound(6, 0, 0), UNKNOWN);
        // 13 times 1/8 times 1/3 times 16 is 8.67, cut 8; below 0 likewise.
        for (int sign = -1; sign <= 1; sign += 2) {
            x = told("tone 0 " + (100 + sign * 13) + " 2;put 0 0 0 2 0;gain 0 0 1;fade 0 0 2 0");
            due(x.bounce(0, 2), 1);
            due(x.sound(1, 1, 0), sign * 8);
            due(x.heard(0), sign * 8);
            due(x.played(0, 0), sign * 8);
            due(x.sound(1, 2, 0), bits(sign * 13f * (1f / 8f) * (1f / 3f)));
        }
    }

    // What a span of the tone 0 b has at place i, by the document's words.
    private static float weighed(int level, int gain, int in, int out, int m, int i) {
        float quotient = (float) gain / 8f;
        float played = (float) level * quotient;
        if (i < in) {
            quotient = (float) (i + 1) / (float) (in + 1);
            played = played * quotient;
        }
        if (i >= m - out) {
            quotient = (float) (m - i) / (float) (out + 1);
            played = played * quotient;
        }
        return played;
    }

    private static void dueWeighed(int level, int gain, int in, int out, int m) {
        House x = told("tone 0 " + (100 + level) + " 64;put 1 0 0 " + m + " 30;gain 1 0 " + gain + ";fade 1 0 " + in + " " + out);
        due(x.played(1, 29), 0);
        due(x.exact(29), 0);
        for (int i = 0; i < m; i++) {
            float want = weighed(level, gain, in, out, m, i);
            due(x.exact(30 + i), bits(0f + want));
            due(x.played(1, 30 + i), (int) (want * 16f));
            due(x.heard(30 + i), (int) (want * 16f));
        }
        due(x.played(1, 30 + m), 0);
        due(x.exact(30 + m), 0);
    }

    private static void playing() {
        sentence("PLAYED on a TRACK at a MOMENT: 0, if there is no SPAN; else, i being its place in the SPAN: the SOUND's float there, times (GAIN by 8)");
        for (int gain = 0; gain <= 16; gain++) dueWeighed(97, gain, 0, 0, 3);
        House x = told("tone 1 0 64;put 1 0 5 10 20");
        for (int i = 0; i < 10; i++) due(x.played(1, 20 + i), (i - 95) * 16);
        for (int moment = 0; moment < 128; moment++) if (moment < 20 || moment > 29) due(x.played(1, moment), 0);
        for (int moment = 0; moment < 128; moment++) due(x.played(2, moment), 0);
        sentence("if i is less than IN, that times (i and 1 by IN and 1); if i is m less OUT or more, that times (m less i, by OUT and 1): all as floats, in this order (each quotient made as a float first).");
        int[][] fades = {{0, 0, 1}, {1, 0, 1}, {0, 1, 1}, {1, 1, 2}, {2, 0, 2}, {0, 2, 2}, {1, 0, 9}, {0, 1, 9}, {4, 5, 9}, {9, 0, 9}, {0, 9, 9}, {3, 3, 9}, {64, 0, 64}, {0, 64, 64}, {32, 32, 64}, {22, 24, 64}, {28, 30, 64}};
        for (int[] fade : fades) {
            dueWeighed(100, 3, fade[0], fade[1], fade[2]);
            dueWeighed(-100, 16, fade[0], fade[1], fade[2]);
            dueWeighed(77, 8, fade[0], fade[1], fade[2]);
            dueWeighed(-89, 13, fade[0], fade[1], fade[2]);
        }
        // By hand: in another order, by doubles, or with the product made first the last bits are others.
        x = told("tone 0 200 64;put 0 0 0 64 0;gain 0 0 3;fade 0 0 22 24");
        due(x.exact(0), 1070641687);
        due(x.exact(1), 1079030295);
        due(x.exact(15), 1104196119);
        due(x.exact(22), bits(37.5f));
        due(x.exact(39), bits(37.5f));
        due(x.exact(40), bits(37.5f * (24f / 25f)));
        due(x.exact(63), bits(37.5f * (1f / 25f)));
        x = told("tone 0 200 4;put 0 0 0 4 0;fade 0 0 1 1");
        int[] halves = {800, 1600, 1600, 800};
        for (int i = 0; i < 4; i++) due(x.played(0, i), halves[i]);
        x = told("tone 0 200 1;put 0 0 0 1 0;fade 0 0 1 0");
        due(x.played(0, 0), 800);
        x = told("tone 0 200 1;put 0 0 0 1 0;fade 0 0 0 1");
        due(x.played(0, 0), 800);
        sentence("PLAYED on a TRACK at a MOMENT, times 16, cut. UNKNOWN; OUTSIDE.");
        for (int moment : new int[] {LEAST, -1, 128, 129, MOST}) refused(SoundSentencesTest::busy, OUTSIDE, "played", 0, moment);
        x = told("tone 0 200 1;put 0 0 0 1 0;put 3 0 0 1 127;shift 0 16;shift 3 - 16;shut 0;shut 3");
        due(x.played(0, 0), 1600);
        due(x.played(0, 1), 0);
        due(x.played(3, 127), 1600);
        due(x.played(3, 126), 0);
    }

    private static void hearing() {
        sentence("HEARD at a MOMENT t: from 0 on, TRACK by TRACK, those that are not SHUT, what is PLAYED there at t less SHIFT (0 outside 0 .. 127), added as floats.");
        for (int k = 0; k < 4; k++) {
            for (int n : new int[] {-16, -15, -1, 0, 1, 15, 16}) {
                House x = told("tone 0 200 1;put " + k + " 0 0 1 0;put " + k + " 0 0 1 127;put " + k + " 0 0 1 60");
                due(x.shift(k, n), 0);
                for (int moment = 0; moment < 128; moment++) {
                    int there = moment - n;
                    due(x.exact(moment), bits(there == 0 || there == 60 || there == 127 ? 100f : 0f));
                }
                due(x.shut(k), 1);
                due(x.exact(60 + n), 0);
                due(x.shut(k), 0);
                due(x.exact(60 + n), bits(100f));
            }
        }
        // By hand: in another order of tracks, or added as doubles, the last bits are others.
        House x = told("tone 0 197 64;tone 0 11 64;tone 0 171 64;tone 0 113 64;put 0 0 0 2 0;put 1 1 0 2 0;put 2 2 0 9 0;put 3 3 0 6 0;fade 0 0 2 0;fade 1 0 2 0;fade 2 0 9 0;fade 3 0 6 0");
        due(x.exact(0), 1094318882);
        float[] all = {97f * (1f / 3f), -89f * (1f / 3f), 71f * (1f / 10f), 13f * (1f / 7f)};
        due(x.exact(0), bits(0f + all[0] + all[1] + all[2] + all[3]));
        for (int shut = 0; shut < 16; shut++) {
            House y = told("tone 0 197 64;tone 0 11 64;tone 0 171 64;tone 0 113 64;put 0 0 0 2 0;put 1 1 0 2 0;put 2 2 0 9 0;put 3 3 0 6 0;fade 0 0 2 0;fade 1 0 2 0;fade 2 0 9 0;fade 3 0 6 0");
            float heard = 0f;
            for (int k = 0; k < 4; k++) {
                if ((shut >> k & 1) == 1) y.shut(k);
                else heard = heard + all[k];
            }
            due(y.exact(0), bits(heard));
            due(y.count(5), shut);
        }
        // Nothing is heard as 0, not as what lies just below it.
        x = told("tone 0 0 1;put 0 0 0 1 0;gain 0 0 0");
        due(x.exact(0), 0);
        due(x.sum(0, 0), 0);
        due(x.bounce(0, 1), 1);
        due(x.sound(1, 2, 0), 0);
    }

    private static void moments() {
        sentence("MOMENTS are 0 to 127.");
        House x = told("tone 0 101 64;put 2 0 0 64 0;put 2 0 0 64 64");
        for (int moment = -3; moment <= 130; moment++) {
            boolean is = moment >= 0 && moment <= 127;
            due(x.heard(moment), is ? 16 : OUTSIDE);
            due(x.played(2, moment), is ? 16 : OUTSIDE);
        }
        x = told("tone 0 101 64;put 2 0 0 64 0;put 2 0 0 64 64");
        for (int moment = -3; moment <= 130; moment++) {
            boolean is = moment >= 0 && moment <= 127;
            due(x.exact(moment), is ? bits(1f) : OUTSIDE);
            due(x.sum(moment, moment), is ? Double.doubleToLongBits(1) : OUTSIDE);
            due(x.covers(2, 1, moment), is ? 1 : OUTSIDE);
        }
    }

    private static void heardAndExact() {
        sentence("HEARD at a MOMENT, times 16, cut. OUTSIDE.");
        for (int moment : new int[] {LEAST, -1, 128, 129, MOST}) {
            refused(SoundSentencesTest::busy, OUTSIDE, "heard", moment);
            refused(SoundSentencesTest::busy, OUTSIDE, "exact", moment);
        }
        House x = told("tone 0 200 1;tone 0 0 1;put 0 0 0 1 0;put 0 1 0 1 127;gain 0 0 1;gain 0 1 1;fade 0 0 1 0;fade 0 1 0 1");
        due(x.heard(0), 100);
        due(x.heard(127), -100);
        due(x.heard(1), 0);
        due(x.heard(126), 0);
        sentence("HEARD at a MOMENT, its bits as a float has them, as an int made a long. -2000000002: OUTSIDE.");
        due(x.exact(0), 0x40c80000L);
        due(x.exact(127), (long) 0xc0c80000);
        due(x.exact(1), 0);
        x = told("tone 0 101 1;tone 0 99 1;put 0 0 0 1 5;put 0 1 0 1 6");
        due(x.exact(5), 0x3f800000L);
        due(x.exact(6), (long) 0xbf800000);
        for (int level : new int[] {1, -1, 77, -100}) {
            ofFive(level, 16, 0);
            ofFive(level, 1, 64);
            ofFive(level, 3, 7);
        }
    }

    // A sound, and one of it, and so on, as loud as can be or as soft: far above 100, far below 1, the bits are a float's.
    private static void ofFive(int level, int gain, int in) {
        House x = told("tone 0 " + (100 + level) + " 64");
        float heard = level;
        for (int s = 0; s < 6; s++) {
            due(x.sound(s, 2, 0), bits(heard));
            heard = heard * ((float) gain / 8f);
            if (in > 0) heard = heard * (1f / (float) (in + 1));
            float all = 0f;
            for (int k = 0; k < 4; k++) {
                x.put(k, s, 0, 64, 0);
                x.gain(k, 0, gain);
                x.fade(k, 0, in, 0);
                if (in == 0) all = all + heard;
                else if (k > 0) x.shut(k);
            }
            heard = in == 0 ? all : heard;
            due(x.exact(0), bits(heard));
            due(x.heard(0), (int) (heard * 16f));
            due(x.sum(0, 0), Double.doubleToLongBits(heard));
            double sum = 0;
            for (int moment = 0; moment < 9; moment++) sum += Float.intBitsToFloat((int) x.exact(moment));
            due(x.sum(0, 8), Double.doubleToLongBits(sum));
            due(x.bounce(0, 64), s == 5 ? FULL : s + 1);
            for (int k = 1; k < 4 && in > 0; k++) x.shut(k);
        }
    }

    private static void sums() {
        sentence("All that is HEARD from t to u (0 .. 127, t not above u), added as doubles from 0 on, its bits as a long. OUTSIDE: -2000000002.");
        Supplier<House> busy = SoundSentencesTest::busy;
        for (int t : new int[] {LEAST, -1, 128, MOST}) {
            refused(busy, OUTSIDE, "sum", t, 127);
            refused(busy, OUTSIDE, "sum", 0, t);
            refused(busy, OUTSIDE, "sum", t, t);
        }
        refused(busy, OUTSIDE, "sum", 1, 0);
        refused(busy, OUTSIDE, "sum", 127, 126);
        refused(busy, OUTSIDE, "sum", 64, 63);
        due(new House().sum(0, 127), 0);
        due(new House().sum(127, 127), 0);
        House x = told("tone 37 11 64;tone 0 200 64;put 0 0 0 64 0;fade 0 0 33 31;gain 0 0 5;put 1 1 0 64 64;fade 1 0 64 0;gain 1 0 7");
        float[] heard = new float[128];
        for (int i = 0; i < 64; i++) {
            heard[i] = weighed((37 * i + 11) % 201 - 100, 5, 33, 31, 64, i);
            heard[64 + i] = weighed(100, 7, 64, 0, 64, i);
        }
        int[][] pairs = {{0, 127}, {0, 0}, {0, 1}, {1, 1}, {63, 64}, {126, 127}, {127, 127}, {64, 127}, {3, 77}};
        for (int[] pair : pairs) {
            double sum = 0;
            for (int moment = pair[0]; moment <= pair[1]; moment++) sum += heard[moment];
            due(x.sum(pair[0], pair[1]), Double.doubleToLongBits(sum));
        }
    }

    private static void bounces() {
        sentence("BOUNCED from t, n (1 .. 64; t and n 128 at most): what is HEARD there, MOMENT by MOMENT, is a SOUND more.");
        Supplier<House> busy = SoundSentencesTest::busy;
        Supplier<House> full = SoundSentencesTest::full;
        for (int n : new int[] {LEAST, -1, 0, 65, 66, MOST}) {
            refused(busy, OUTSIDE, "bounce", 0, n);
            refused(full, OUTSIDE, "bounce", 0, n);
        }
        for (int t : new int[] {LEAST, -1, 128, MOST}) {
            refused(busy, OUTSIDE, "bounce", t, 1);
            refused(full, OUTSIDE, "bounce", t, 1);
        }
        refused(busy, OUTSIDE, "bounce", 65, 64);
        refused(busy, OUTSIDE, "bounce", 127, 2);
        refused(busy, OUTSIDE, "bounce", MOST, MOST);
        sentence("BOUNCED: the number of the SOUND. OUTSIDE; FULL: 6.");
        refused(full, FULL, "bounce", 0, 1);
        refused(full, FULL, "bounce", 64, 64);
        refused(full, FULL, "bounce", 127, 1);
        sentence("what is heard can be bounced to a sound of its own, that sounds alike");
        for (int[] pair : new int[][] {{0, 64}, {64, 64}, {127, 1}, {0, 1}, {33, 50}, {126, 2}}) {
            House x = told("tone 37 11 64;tone 91 70 64;put 0 0 0 64 0;fade 0 0 33 31;gain 0 0 5;put 1 1 0 64 64;fade 1 0 64 0;gain 1 0 7;put 2 0 0 50 30;shift 2 9;put 3 1 1 9 119;shut 3");
            long[] heard = new long[pair[1]];
            for (int i = 0; i < pair[1]; i++) heard[i] = x.exact(pair[0] + i);
            due(x.bounce(pair[0], pair[1]), 2);
            due(x.sound(2, 0, 0), pair[1]);
            for (int i = 0; i < pair[1]; i++) due(x.sound(2, 2, i), heard[i]);
            for (int k = 0; k < 3; k++) x.wipe(k, 0, 128);
            due(x.put(1, 2, 0, pair[1], pair[0]), 1);
            for (int i = 0; i < pair[1]; i++) due(x.exact(pair[0] + i), heard[i]);
            due(x.sound(2, 3, 0), 1);
        }
        // It stays as it was heard then.
        House x = told("tone 0 150 9;put 0 0 0 9 0");
        due(x.bounce(0, 9), 1);
        due(x.wipe(0, 0, 128), 0);
        due(x.sound(1, 1, 8), 800);
        due(x.count(13), 1);
    }

    private static void loudest() {
        sentence("LOUDEST: the MOMENT of the greatest HEARD, below 0 or above; of like ones the first. SILENT: MOMENTS at which HEARD is 0: how many.");
        House x = new House();
        due(x.count(6), 0);
        due(x.count(7), 128);
        x = told("tone 0 0 64;put 0 0 0 64 0;put 0 0 0 64 64");
        due(x.count(6), 0);
        due(x.count(7), 0);
        x = told("tone 0 0 1;tone 0 200 1;put 0 0 0 1 127");
        due(x.count(6), 127);
        due(x.count(7), 127);
        due(x.put(0, 1, 0, 1, 126), 2);
        due(x.count(6), 126);
        due(x.count(7), 126);
        due(x.gain(0, 0, 7), 8);
        due(x.count(6), 127);
        due(x.put(1, 0, 0, 1, 0), 1);
        due(x.count(6), 0);
        due(x.gain(1, 0, 9), 8);
        due(x.count(6), 0);
        due(x.gain(0, 1, 16), 8);
        due(x.count(6), 127);
        due(x.shift(0, 1), 0);
        due(x.count(6), 0);
        due(x.shift(0, 0), 1);
        due(x.shut(0), 1);
        due(x.count(6), 0);
        due(x.shut(1), 1);
        due(x.count(7), 128);
        due(x.count(6), 0);
        // What is shifted off to a moment beside 0 .. 127 is no loudest one.
        for (int n = 1; n <= 16; n++) {
            x = told("tone 0 200 1;tone 0 150 1;put 0 0 0 1 " + (n - 1) + ";put 1 1 0 1 40;shift 0 - " + n);
            due(x.count(6), 40);
            due(x.count(7), 127);
            x = told("tone 0 200 1;tone 0 150 1;put 0 0 0 1 " + (128 - n) + ";put 1 1 0 1 40;shift 0 " + n);
            due(x.count(6), 40);
            due(x.count(7), 127);
        }
        // What ends each other is silent, so is what has no GAIN, or what is shifted off.
        x = told("tone 0 0 64;tone 0 200 64;put 0 0 0 64 0;put 1 1 0 64 0");
        due(x.count(7), 128);
        due(x.shift(1, 1), 0);
        due(x.count(7), 126);
        due(x.count(6), 0);
        due(x.gain(0, 0, 0), 8);
        due(x.count(7), 64);
        due(x.count(6), 1);
        due(x.shift(1, -16), 1);
        due(x.count(7), 80);
        x = told("tone 0 101 1;put 0 0 0 1 9;gain 0 0 1;fade 0 0 1 0");
        due(x.count(7), 127);
        due(x.count(6), 9);
        sentence("0 SOUNDS, 1 to 4 SPANS of TRACK 0 to 3, 5 SHUT TRACKS (bits), 6 LOUDEST, 7 SILENT, 8 to 11 GAPS of TRACK 0 to 3");
        due(x.count(0), 1);
        due(x.tone(1, 1, 1), 1);
        due(x.count(0), 2);
        due(full().count(0), 6);
    }

    public static void main(String[] args) {
        sixSounds();
        tones();
        soundsTold();
        playing();
        hearing();
        moments();
        heardAndExact();
        sums();
        bounces();
        loudest();
        end();
    }
}
