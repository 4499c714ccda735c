import java.util.ArrayList;
import java.util.List;
import java.util.Random;

// The document's first lines, as laws between calls that hold behind any run: no model is asked, the answers of the
// class are laid beside one another.
public final class LawsTest extends Checks {
    private static final int RUNS = 1500;
    private static final int MOST_HISTORY = 110;

    private final Random chance;
    private final List<Call> history = new ArrayList<>();

    private LawsTest(long seed) {
        chance = new Random(seed);
        add("tone", 17, 3, 64);
        add("tone", 101, 30, 33);
        int calls = 1 + chance.nextInt(MOST_HISTORY);
        for (int i = 0; i < calls; i++) addByChance();
    }

    private void add(String name, int... args) {
        history.add(new Call(name, args));
    }

    private void addByChance() {
        int track = chance.nextInt(4), span = chance.nextInt(6), t = chance.nextInt(120), few = chance.nextInt(9);
        switch (chance.nextInt(16)) {
            case 0: add("tone", chance.nextInt(201), chance.nextInt(201), 1 + chance.nextInt(64)); break;
            case 1: case 2: case 3: case 4: case 5: add("put", track, chance.nextInt(3), few, 1 + chance.nextInt(24), t); break;
            case 6: case 7: add("fade", track, span, few, chance.nextInt(9)); break;
            case 8: add("gain", track, span, chance.nextInt(17)); break;
            case 9: add("wipe", track, t, t + few); break;
            case 10: add("cut", track, 1 + t); break;
            case 11: case 12: add("move", track, span, t); break;
            case 13: add("shift", track, chance.nextInt(33) - 16); break;
            case 14: add(few < 3 ? "shut" : "undo", track); break;
            default: add("bounce", t % 64, 1 + chance.nextInt(64)); break;
        }
    }

    private House behind() {
        House x = new House();
        for (Call call : history) call.on(x);
        return x;
    }

    private static void law(boolean holds, String what) {
        alike(what, holds ? "" : House.latest.run(), "");
    }

    private static int momentsOf(House x, int track) {
        int moments = 0;
        for (int i = 0; i < x.count(1 + track); i++) moments += x.span(track, i, 2);
        return moments;
    }

    private void spansAreInOrder() {
        House x = behind();
        for (int track = 0; track < 4; track++) {
            int reached = 0, gaps = 0;
            law(x.count(1 + track) <= 12, "12 spans at most");
            for (int i = 0; i < x.count(1 + track); i++) {
                int f = x.span(track, i, 1), m = x.span(track, i, 2), t = x.span(track, i, 3);
                law(t >= reached, "no span lies over another");
                if (t > reached) gaps++;
                reached = t + m;
                law(m >= 1 && reached <= 128 && f >= 0 && f + m <= x.sound(x.span(track, i, 0), 0, 0), "a span is a piece of a sound");
                law(x.span(track, i, 5) >= 0 && x.span(track, i, 6) >= 0 && x.span(track, i, 5) + x.span(track, i, 6) <= m, "IN and OUT are m at most");
            }
            due(x.count(8 + track), gaps);
        }
    }

    private void putTakesAwayWhatItCovers() {
        House x = behind();
        int track = chance.nextInt(4), m = 1 + chance.nextInt(33), t = chance.nextInt(129 - m), before = momentsOf(x, track);
        int covers = x.covers(track, m, t);
        if (x.put(track, 1, 0, m, t) < 0) m = covers = 0;
        law(momentsOf(x, track) == before - covers + m, "put() takes away what covers() foretold");
    }

    private House withoutFades(int track) {
        House x = behind();
        for (int i = 0; i < x.count(1 + track); i++) x.fade(track, i, 0, 0);
        return x;
    }

    // Without fades a float is played alike wherever its span is cut; what is wiped is played no more.
    private void whatStaysIsPlayedAlike() {
        int track = chance.nextInt(4), from = chance.nextInt(128), to = from + chance.nextInt(129 - from), moment = 1 + chance.nextInt(127);
        House x = withoutFades(track), y = withoutFades(track);
        y.cut(track, moment);
        if (y.wipe(track, from, to) == NOT) to = from;
        for (int i = 0; i < 128; i++) due(y.played(track, i), i >= from && i < to ? 0 : x.played(track, i));
    }

    private void timesAreMoments() {
        int sound = chance.nextInt(2), moments = 0, times = 0;
        House x = behind(), y = behind();
        for (int track = 0; track < 4; track++) {
            for (int i = 0; i < x.count(1 + track); i++) if (x.span(track, i, 0) == sound) moments += x.span(track, i, 2);
        }
        int floats = y.sound(sound, 0, 0);
        for (int i = 0; i < floats; i++) times += y.sound(sound, 3, i);
        law(times == moments, "TIMES of all floats are the moments of a sound's spans");
    }

    private void allTogetherIsHeard() {
        House x = behind(), y = behind();
        int loudest = 0, silent = 0;
        float[] levels = new float[128];
        double sum = 0;
        for (int moment = 0; moment < 128; moment++) {
            levels[moment] = Float.intBitsToFloat((int) x.exact(moment));
            due(x.heard(moment), (int) (levels[moment] * 16));
            if (Math.abs(levels[moment]) > Math.abs(levels[loudest])) loudest = moment;
            if (levels[moment] == 0) silent++;
            sum += levels[moment];
        }
        due(y.count(6), loudest);
        due(y.count(7), silent);
        due(y.sum(0, 127), Double.doubleToRawLongBits(sum));
        due(y.sum(loudest, loudest), Double.doubleToRawLongBits(levels[loudest]));
    }

    private void aTrackAloneIsPlayed() {
        House x = behind();
        int track = chance.nextInt(4), shift = x.count(18 + track) - 100;
        for (int k = 0; k < 4; k++) {
            boolean isShut = (x.count(5) >> k & 1) == 1;
            if (isShut == (k == track)) x.shut(k);
        }
        for (int moment = 0; moment < 128; moment++) {
            int there = moment - shift;
            due(x.heard(moment), there < 0 || there > 127 ? 0 : x.played(track, there));
        }
    }

    private void bouncedSoundsAlike() {
        House x = behind(), y = behind();
        int n = 1 + chance.nextInt(64), t = chance.nextInt(129 - n), made = y.bounce(t, n);
        if (made < 0) return;
        for (int k = 0; k < 4; k++) {
            y.wipe(k, 0, 128);
            if ((y.count(5) >> k & 1) == 1) y.shut(k);
        }
        y.shift(2, 0);
        y.put(2, made, 0, n, t);
        for (int moment = t; moment < t + n; moment++) due(y.exact(moment), x.exact(moment));
        due(y.count(7), 128 - n + silentWithin(x, t, t + n));
    }

    private static int silentWithin(House x, int from, int to) {
        int silent = 0;
        for (int moment = from; moment < to; moment++) if (x.exact(moment) == 0) silent++;
        return silent;
    }

    private void undoneByItself() {
        House x = behind(), y = behind();
        int track = chance.nextInt(4), can = x.count(13 + track);
        String before = Look.spans(x, track) + x.count(18 + track);
        // Something on the other tracks between the change and undo() changes nothing of it.
        int answer = chance.nextBoolean() ? x.wipe(track, 3, 90) : x.shift(track, 5);
        if (answer == NOT) return;
        x.wipe((track + 1) % 4, 3, 90);
        due(x.undo(track), Math.min(can, 3));
        law((Look.spans(x, track) + x.count(18 + track)).equals(before), "undo() brings again what was");
        y.wipe((track + 1) % 4, 3, 90);
        for (int k = 1; k < 4; k++) {
            int other = (track + k) % 4;
            law(Look.spans(x, other).equals(Look.spans(y, other)), "the other tracks stay");
        }
    }

    private String whole(House x) {
        StringBuilder all = new StringBuilder();
        for (int k = 0; k < 4; k++) all.append(Look.spans(x, k)).append(' ').append(x.count(18 + k)).append('\n');
        return all.append(x.count(5)).toString();
    }

    private void goneBackTo() {
        House x = behind();
        String before = whole(behind());
        int k = chance.nextInt(2), spans = x.keep(k);
        x.undo(chance.nextInt(4));
        x.wipe(chance.nextInt(4), 0, 128);
        x.put(chance.nextInt(4), 0, 0, 64, chance.nextInt(65));
        x.shut(chance.nextInt(4));
        x.shift(chance.nextInt(4), 16);
        due(x.back(1 - k), NOT);
        due(x.back(k), spans);
        for (int track = 0; track < 4; track++) due(x.undo(track), NOT);
        alike("gone back to", whole(x), before);
    }

    // What lies there, told as a text to a new house, is the same: bounced sounds can't be told so.
    private void toldInAText() {
        House x = behind();
        StringBuilder text = new StringBuilder("tone 17 3 64;tone 101 30 33");
        int track = chance.nextInt(4), clauses = 2, spans = x.count(1 + track), told = 0;
        for (int i = 0; i < spans && clauses < 22 && text.length() < 150 && x.span(track, i, 0) < 2; i++) {
            int[] w = new int[7];
            for (int what = 0; what < 7; what++) w[what] = x.span(track, i, what);
            text.append(";put ").append(track).append(' ').append(w[0]).append(' ').append(w[1]).append(' ').append(w[2]).append(' ').append(w[3]);
            text.append(";fade ").append(track).append(' ').append(i).append(' ').append(w[5]).append(' ').append(w[6]);
            clauses += 2;
            told++;
        }
        int shift = x.count(18 + track) - 100;
        text.append(";shift ").append(track).append(' ').append(shift);
        House y = new House();
        write(y, text.toString());
        due(y.fault(), NONE);
        due(y.house(), clauses + 1);
        due(y.count(1 + track), told);
        due(y.count(18 + track), shift + 100);
        for (int i = 0; i < told; i++) {
            for (int what : new int[] {0, 1, 2, 3, 5, 6}) due(y.span(track, i, what), x.span(track, i, what));
        }
    }

    private void racksHoldTheirSort() {
        House x = behind();
        int[] sorts = new int[3], sizes = new int[3];
        for (int r = 0; r < 3; r++) {
            sorts[r] = chance.nextInt(3);
            sizes[r] = x.rack(r, sorts[r], chance.nextInt(9));
        }
        for (int i = 0; i < 40; i++) {
            int rack = chance.nextInt(3), other = chance.nextInt(3), place = chance.nextInt(8), sort = 1 + chance.nextInt(2), things = x.count(12);
            switch (chance.nextInt(12)) {
                case 0: case 1: int told = x.take(rack, place);
                    law(place < sizes[rack] ? told == EMPTY || sorts[rack] == 0 || sorts[rack] == (told < 100 ? 1 : 2) : told == INDEX, "a rack has its sort alone");
                    due(x.count(12), told < 0 ? things : things - 1); break;
                case 2: int passed = x.pass(rack, other), hung = x.count(12) - things;
                    law(hung >= 0 && hung <= passed && passed <= sizes[rack] && passed <= sizes[other], "what is passed hangs on the other rack, too"); break;
                case 3: x.likeness(rack, other);
                    sorts[rack] = sorts[other];
                    sizes[rack] = sizes[other]; break;
                default: boolean fits = sorts[rack] == 0 || sorts[rack] == sort;
                    due(x.hang(rack, place, sort, i), place >= sizes[rack] ? INDEX : fits ? i : STORE); break;
            }
        }
        for (int r = 0; r < 3; r++) {
            int things = x.count(12), had = x.drop(r);
            law(had >= 0 && x.count(12) == things - had, "drop() takes a rack with its things");
            due(x.hang(r, 0, 1, 0), NULL);
        }
        due(x.count(12), 0);
    }

    private void allLaws() {
        sentence("so that on a track nothing is ever heard twice");
        spansAreInOrder();
        sentence("sounds lie on tracks as spans, a piece of a sound each, from one moment on, louder or softer, faded in and out");
        aTrackAloneIsPlayed();
        sentence("spans are cut, moved, faded, wiped; tracks are shifted a little, as their machines are late, or shut");
        whatStaysIsPlayedAlike();
        sentence("all together is heard, moment by moment, in floats");
        allTogetherIsHeard();
        sentence("what is heard bit by bit, the loudest moment, silences, what of a sound is heard how often, what a span would cover");
        timesAreMoments();
        putTakesAwayWhatItCovers();
        sentence("what is heard can be bounced to a sound of its own, that sounds alike");
        bouncedSoundsAlike();
        sentence("each track is undone by itself, the others staying");
        undoneByItself();
        sentence("all kept, all gone back to");
        goneBackTo();
        sentence("sounds, spans, told in a small text, read to its first fault");
        toldInAText();
        sentence("racks made for one sort of thing, missing");
        racksHoldTheirSort();
    }

    public static void main(String[] args) {
        for (int seed = 0; seed < RUNS; seed++) new LawsTest(seed).allLaws();
        end();
    }
}
