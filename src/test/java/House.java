import java.util.ArrayList;
import java.util.List;

// A TapeHouse that knows its run: what was called, what it answered, and that it is used for 512 calls at most.
final class House implements Calls {
    static final int MOST_CALLS = 512;
    private static final int MOST_TOLD = 60;
    static House latest = null;

    private final TapeHouse x = new TapeHouse();
    private final List<Call> calls = new ArrayList<>();
    private final List<Long> answers = new ArrayList<>();

    private long made(long answer, String name, int... args) {
        calls.add(new Call(name, args));
        answers.add(answer);
        latest = this;
        if (calls.size() > MOST_CALLS) throw new IllegalStateException("a test calls one object more than 512 times");
        return answer;
    }

    int calls() {
        return calls.size();
    }

    // The latest calls, a row of letters in one line.
    String run() {
        StringBuilder all = new StringBuilder();
        StringBuilder letters = new StringBuilder();
        for (int i = Math.max(0, calls.size() - MOST_TOLD); i < calls.size(); i++) {
            Call call = calls.get(i);
            boolean isLetter = call.name().equals("write") && answers.get(i) > 0;
            if (isLetter) letters.append((char) call.args()[0]);
            if (letters.length() > 0 && (!isLetter || i == calls.size() - 1)) {
                all.append("    write of \"").append(letters).append("\"\n");
                letters.setLength(0);
            }
            if (!isLetter) all.append("    ").append(call).append(" -> ").append(answers.get(i)).append('\n');
        }
        return all.toString();
    }

    @Override public int write(int letter) { return (int) made(x.write(letter), "write", letter); }
    @Override public int erase() { return (int) made(x.erase(), "erase"); }
    @Override public int fault() { return (int) made(x.fault(), "fault"); }
    @Override public int house() { return (int) made(x.house(), "house"); }
    @Override public int sound(int sound, int what, int i) { return (int) made(x.sound(sound, what, i), "sound", sound, what, i); }
    @Override public int span(int track, int span, int what) { return (int) made(x.span(track, span, what), "span", track, span, what); }
    @Override public int tone(int a, int b, int n) { return (int) made(x.tone(a, b, n), "tone", a, b, n); }
    @Override public int put(int track, int sound, int f, int m, int t) { return (int) made(x.put(track, sound, f, m, t), "put", track, sound, f, m, t); }
    @Override public int fade(int track, int span, int in, int out) { return (int) made(x.fade(track, span, in, out), "fade", track, span, in, out); }
    @Override public int gain(int track, int span, int gain) { return (int) made(x.gain(track, span, gain), "gain", track, span, gain); }
    @Override public int wipe(int track, int from, int to) { return (int) made(x.wipe(track, from, to), "wipe", track, from, to); }
    @Override public int cut(int track, int moment) { return (int) made(x.cut(track, moment), "cut", track, moment); }
    @Override public int move(int track, int span, int t) { return (int) made(x.move(track, span, t), "move", track, span, t); }
    @Override public int shift(int track, int n) { return (int) made(x.shift(track, n), "shift", track, n); }
    @Override public int shut(int track) { return (int) made(x.shut(track), "shut", track); }
    @Override public int bounce(int t, int n) { return (int) made(x.bounce(t, n), "bounce", t, n); }
    @Override public int undo(int track) { return (int) made(x.undo(track), "undo", track); }
    @Override public int keep(int k) { return (int) made(x.keep(k), "keep", k); }
    @Override public int back(int k) { return (int) made(x.back(k), "back", k); }
    @Override public int heard(int moment) { return (int) made(x.heard(moment), "heard", moment); }
    @Override public long exact(int moment) { return made(x.exact(moment), "exact", moment); }
    @Override public long sum(int t, int u) { return made(x.sum(t, u), "sum", t, u); }
    @Override public int played(int track, int moment) { return (int) made(x.played(track, moment), "played", track, moment); }
    @Override public int covers(int track, int m, int t) { return (int) made(x.covers(track, m, t), "covers", track, m, t); }
    @Override public int rack(int rack, int sort, int n) { return (int) made(x.rack(rack, sort, n), "rack", rack, sort, n); }
    @Override public int hang(int rack, int i, int sort, int v) { return (int) made(x.hang(rack, i, sort, v), "hang", rack, i, sort, v); }
    @Override public int take(int rack, int i) { return (int) made(x.take(rack, i), "take", rack, i); }
    @Override public int likeness(int rack, int other) { return (int) made(x.likeness(rack, other), "likeness", rack, other); }
    @Override public int pass(int rack, int other) { return (int) made(x.pass(rack, other), "pass", rack, other); }
    @Override public int drop(int rack) { return (int) made(x.drop(rack), "drop", rack); }
    @Override public int count(int what) { return (int) made(x.count(what), "count", what); }
}
