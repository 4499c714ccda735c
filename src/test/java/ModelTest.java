import java.util.Random;

// Runs of calls by chance, always the same ones, on TapeHouse and on Model: their answers must be alike.
public final class ModelTest {
    private static final int RUNS = 12000;
    // A look at the end needs some of the 512 calls that an object has, a text many.
    private static final int CALLS = House.MOST_CALLS - 170;
    private static final int[] FAR = {Integer.MIN_VALUE, Integer.MIN_VALUE + 1, -129, -2, -1, 0, 1, 128, 129, 256, Integer.MAX_VALUE - 1, Integer.MAX_VALUE};

    private final Random chance;
    private final House x = new House();
    private final Model y = new Model();
    // Two tracks with short spans: the 12 that a track may have, and what is refused beyond them, are met often.
    private final boolean crowded;
    private boolean calm = false;
    private boolean wrong = false;

    private ModelTest(long seed) {
        chance = new Random(seed);
        crowded = seed % 2 == 1;
    }

    // A number from least to most; unless it is calm, now and then just beside, now and then far off.
    private int near(int least, int most) {
        if (calm) return least + chance.nextInt(most - least + 1);
        int kind = chance.nextInt(60);
        if (kind == 0) return FAR[chance.nextInt(FAR.length)];
        if (kind == 1) return most + 1;
        if (kind == 2) return least - 1;
        if (kind <= 5) return most;
        if (kind <= 8) return least;
        return least + chance.nextInt(most - least + 1);
    }

    private long same(String call, long got, long want) {
        if (got != want && !wrong) {
            wrong = true;
            System.out.println(x.run() + "the model answered " + want);
        }
        return got;
    }

    private String clause() {
        switch (chance.nextInt(14)) {
            case 0: return "house";
            case 1: case 2: return "tone " + near(0, 200) + " " + near(0, 200) + " " + near(1, 64);
            case 3: case 4: case 5: case 6:
                int m = near(1, 20);
                return "put " + near(0, 3) + " " + (chance.nextInt(5) == 0 ? chance.nextInt(3) : 0) + " " + chance.nextInt(4) + " " + m + " " + near(0, 128 - Math.max(0, Math.min(m, 64)));
            case 7: case 8: return "fade " + near(0, 3) + " " + near(0, 3) + " " + near(0, 10) + " " + near(0, 10);
            case 9: case 10: return "gain " + near(0, 3) + " " + near(0, 3) + " " + near(0, 16);
            case 11: return "shift " + near(0, 3) + " " + (chance.nextBoolean() ? "" : chance.nextBoolean() ? "-" : "- ") + near(0, 16);
            case 12: return "shut " + near(0, 3);
            default: return "tone 7 " + chance.nextInt(201) + " 64";
        }
    }

    private String text() {
        StringBuilder text = new StringBuilder();
        int clauses = chance.nextInt(40) == 0 ? 23 + chance.nextInt(3) : 1 + chance.nextInt(9);
        if (chance.nextInt(3) > 0) text.append("house;tone 5 5 64;");
        for (int i = 0; i < clauses; i++) {
            text.append(i == 0 ? "" : ";").append(clauses > 20 ? "shut0" : clause());
        }
        if (chance.nextInt(6) == 0) {
            String letters = " ;-0123456789azAhouset\t.+" + (char) 0 + (char) 255;
            text.insert(chance.nextInt(text.length() + 1), letters.charAt(chance.nextInt(letters.length())));
        }
        if (chance.nextInt(10) == 0) text.deleteCharAt(chance.nextInt(text.length()));
        if (chance.nextInt(30) == 0) text.insert(chance.nextInt(text.length() + 1), "   ");
        return text.toString();
    }

    private void aText() {
        calm = chance.nextInt(3) > 0;
        String text = text();
        calm = false;
        if (x.calls() + text.length() + 3 > CALLS) return;
        same("erase()", x.erase(), y.erase());
        for (int i = 0; i < text.length(); i++) {
            int c = text.charAt(i);
            same("write(" + c + ")", x.write(c), y.write(c));
        }
        same("fault()", x.fault(), y.fault());
        same("house()", x.house(), y.house());
    }

    private void tell() {
        int track = near(0, 3), span = near(0, 5), what = near(0, 6), i = near(0, 63), sound = near(0, 5);
        switch (chance.nextInt(10)) {
            case 0: case 8: case 9: aText(); break;
            case 1: if (chance.nextInt(4) == 0) same("erase()", x.erase(), y.erase()); break;
            case 2: int letter = near(0, 255);
                same("write(" + letter + ")", x.write(letter), y.write(letter));
                same("fault()", x.fault(), y.fault()); break;
            case 3: same("house()", x.house(), y.house()); break;
            case 4: case 5: same("sound(" + sound + ", " + what + ", " + i + ")", x.sound(sound, what % 5, i), y.sound(sound, what % 5, i)); break;
            default: same("span(" + track + ", " + span + ", " + what + ")", x.span(track, span, what), y.span(track, span, what)); break;
        }
    }

    private void act() {
        int track = crowded && chance.nextInt(20) > 0 ? chance.nextInt(2) : near(0, 3), span = near(0, crowded ? 11 : 7), sound = near(0, 2);
        int m = crowded ? near(1, chance.nextInt(3) == 0 ? 64 : 5) : near(1, 24), t = near(0, crowded ? 127 : 110), f = near(0, 9);
        switch (chance.nextInt(20)) {
            case 0: int a = near(0, 200), b = near(0, 200), n = near(1, 64);
                same("tone(" + a + ", " + b + ", " + n + ")", x.tone(a, b, n), y.tone(a, b, n)); break;
            case 1: case 2: case 3: case 4: case 5:
                same("put(" + track + ", " + sound + ", " + f + ", " + m + ", " + t + ")", x.put(track, sound, f, m, t), y.put(track, sound, f, m, t)); break;
            case 6: case 7: case 8: int most = crowded ? 20 : 8, in = near(0, most), out = near(0, most);
                same("fade(" + track + ", " + span + ", " + in + ", " + out + ")", x.fade(track, span, in, out), y.fade(track, span, in, out)); break;
            case 9: case 10: int gain = near(0, 16);
                same("gain(" + track + ", " + span + ", " + gain + ")", x.gain(track, span, gain), y.gain(track, span, gain)); break;
            case 11: int to = chance.nextInt(8) == 0 ? near(0, 128) : t + chance.nextInt(9);
                same("wipe(" + track + ", " + t + ", " + to + ")", x.wipe(track, t, to), y.wipe(track, t, to)); break;
            case 12: case 13: same("cut(" + track + ", " + t + ")", x.cut(track, t), y.cut(track, t)); break;
            case 14: case 15: same("move(" + track + ", " + span + ", " + t + ")", x.move(track, span, t), y.move(track, span, t)); break;
            case 16: int by = near(-16, 16);
                same("shift(" + track + ", " + by + ")", x.shift(track, by), y.shift(track, by)); break;
            case 17: same("shut(" + track + ")", x.shut(track), y.shut(track)); break;
            case 18: same("bounce(" + t + ", " + m + ")", x.bounce(t, m), y.bounce(t, m)); break;
            default: undoOrKeep(track); break;
        }
    }

    private void undoOrKeep(int track) {
        int k = near(0, 1);
        switch (chance.nextInt(5)) {
            case 0: same("keep(" + k + ")", x.keep(k), y.keep(k)); break;
            case 1: same("back(" + k + ")", x.back(k), y.back(k)); break;
            default: same("undo(" + track + ")", x.undo(track), y.undo(track)); break;
        }
    }

    private void hear() {
        int track = near(0, 3), m = near(1, 64), t = near(0, 127), u = near(0, 127);
        switch (chance.nextInt(5)) {
            case 0: same("heard(" + t + ")", x.heard(t), y.heard(t)); break;
            case 1: same("exact(" + t + ")", x.exact(t), y.exact(t)); break;
            case 2: same("sum(" + t + ", " + u + ")", x.sum(t, u), y.sum(t, u)); break;
            case 3: same("played(" + track + ", " + t + ")", x.played(track, t), y.played(track, t)); break;
            default: same("covers(" + track + ", " + m + ", " + t + ")", x.covers(track, m, t), y.covers(track, m, t)); break;
        }
    }

    private void tools() {
        int rack = near(0, 2), other = near(0, 2), i = near(0, 5), v = near(0, 99), n = near(0, 8);
        switch (chance.nextInt(12)) {
            case 0: case 1: int sort = near(0, 2);
                same("rack(" + rack + ", " + sort + ", " + n + ")", x.rack(rack, sort, n), y.rack(rack, sort, n)); break;
            case 2: case 3: case 4: case 5: case 6: int of = near(1, 2);
                same("hang(" + rack + ", " + i + ", " + of + ", " + v + ")", x.hang(rack, i, of, v), y.hang(rack, i, of, v)); break;
            case 7: case 8: same("take(" + rack + ", " + i + ")", x.take(rack, i), y.take(rack, i)); break;
            case 9: same("likeness(" + rack + ", " + other + ")", x.likeness(rack, other), y.likeness(rack, other)); break;
            case 10: same("pass(" + rack + ", " + other + ")", x.pass(rack, other), y.pass(rack, other)); break;
            default: if (chance.nextInt(3) == 0) same("drop(" + rack + ")", x.drop(rack), y.drop(rack)); break;
        }
    }

    private void look() {
        for (int what = -1; what <= 22; what++) same("count(" + what + ")", x.count(what), y.count(what));
        int track = chance.nextInt(4);
        for (int span = 0; span <= y.count(1 + track); span++) {
            for (int what = 0; what < 7; what++) {
                same("span(" + track + ", " + span + ", " + what + ")", x.span(track, span, what), y.span(track, span, what));
            }
        }
        for (int moment = chance.nextInt(5); moment < 128; moment += 5) same("exact(" + moment + ")", x.exact(moment), y.exact(moment));
        int sound = chance.nextInt(6);
        for (int i = 0; i < 64; i += 5) {
            same("sound(" + sound + ", 2, " + i + ")", x.sound(sound, 2, i), y.sound(sound, 2, i));
            same("sound(" + sound + ", 3, " + i + ")", x.sound(sound, 3, i), y.sound(sound, 3, i));
        }
    }

    private boolean run() {
        if (chance.nextInt(4) > 0) {
            same("tone", x.tone(17, 3, 64), y.tone(17, 3, 64));
            same("tone", x.tone(101, 30, 33), y.tone(101, 30, 33));
        }
        int most = chance.nextInt(3) == 0 ? chance.nextInt(CALLS) : CALLS;
        while (x.calls() < most && !wrong) {
            int kind = chance.nextInt(100);
            if (kind < 4) tell();
            else if (kind < 65) act();
            else if (kind < 80) hear();
            else tools();
        }
        if (!wrong) look();
        return !wrong;
    }

    public static void main(String[] args) {
        for (int seed = 0; seed < RUNS; seed++) {
            if (!new ModelTest(seed).run()) {
                System.out.println("run " + seed + " is not as the model's");
                System.exit(1);
            }
        }
        System.out.println(RUNS + " runs are as the model's");
    }
}
