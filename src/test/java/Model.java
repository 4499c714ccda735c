import java.util.ArrayDeque;
import java.util.ArrayList;
import java.util.Arrays;
import java.util.List;
import java.util.function.Supplier;
import java.util.regex.Matcher;
import java.util.regex.Pattern;

// The document once more, written otherwise than TapeHouse: moment by moment, with the Java library, slow and plain.
final class Model implements Calls {
    static final int NONE = -1, UNKNOWN = -2000000001, OUTSIDE = -2000000002, NOT = -2000000003, FULL = -2000000004;
    static final int NULL = -2000000011, SIZE = -2000000012, INDEX = -2000000013, STORE = -2000000014, EMPTY = -2000000015;

    record Piece(int sound, int f, int m, int t, int gain, int in, int out) {
        boolean has(int moment) { return moment >= t && moment < t + m; }
    }

    record Lane(List<Piece> pieces, int shift) { }

    record Kept(List<Lane> lanes, List<Boolean> shut) { }

    record Tool(boolean blade, int v) { }

    static final class Stand {
        int sort;
        Tool[] places;
    }

    final List<float[]> sounds = new ArrayList<>();
    final List<Lane> lanes = new ArrayList<>();
    final List<Boolean> shut = new ArrayList<>();
    final List<ArrayDeque<Lane>> undos = new ArrayList<>();
    final Kept[] kept = new Kept[2];
    final Stand[] stands = new Stand[3];
    String text = "";

    Model() {
        for (int k = 0; k < 4; k++) {
            lanes.add(new Lane(List.of(), 0));
            shut.add(false);
            undos.add(new ArrayDeque<>());
        }
    }

    // Pieces, lanes and sounds are never changed, so a likeness may share them.
    Model(Model other) {
        sounds.addAll(other.sounds);
        lanes.addAll(other.lanes);
        shut.addAll(other.shut);
        for (ArrayDeque<Lane> undo : other.undos) undos.add(new ArrayDeque<>(undo));
        System.arraycopy(other.kept, 0, kept, 0, kept.length);
        for (int r = 0; r < stands.length; r++) stands[r] = other.stands[r] == null ? null : likenessOf(other.stands[r]);
        text = other.text;
    }

    @Override
    public int write(int letter) {
        if (letter < 0 || letter > 255) return OUTSIDE;
        if (text.length() == 200) return FULL;
        text += (char) letter;
        return text.length();
    }

    @Override
    public int erase() {
        int n = text.length();
        text = "";
        return n;
    }

    // ---- the text

    record Token(String word, int place) { }

    private List<Token> tokens() {
        List<Token> all = new ArrayList<>();
        Matcher m = Pattern.compile("[a-z]+|[0-9]+|[^ ]", Pattern.DOTALL).matcher(text);
        while (m.find()) all.add(new Token(m.group(), m.start()));
        all.add(new Token("", text.length()));
        return all;
    }

    // A clause's numbers behind its word; a fault is thrown as its place.
    private static final class Fault extends RuntimeException {
        private static final long serialVersionUID = 1;
        final int place;
        Fault(int place) { this.place = place; }
    }

    private static int number(Token token, long least, long most) {
        if (!token.word.matches("[0-9]{1,3}")) throw new Fault(token.place);
        int n = Integer.parseInt(token.word);
        if (n < least || n > most) throw new Fault(token.place);
        return n;
    }

    private List<Supplier<?>> parse() {
        ArrayDeque<Token> left = new ArrayDeque<>(tokens());
        List<Integer> lengths = new ArrayList<>();
        for (float[] sound : sounds) lengths.add(sound.length);
        List<Supplier<?>> deeds = new ArrayList<>();
        while (true) {
            deeds.add(clause(left, lengths));
            Token behind = left.remove();
            if (behind.word.isEmpty()) return deeds;
            if (!behind.word.equals(";") || deeds.size() == 24) throw new Fault(behind.place);
        }
    }

    private Supplier<?> clause(ArrayDeque<Token> left, List<Integer> lengths) {
        Token word = left.remove();
        switch (word.word) {
            case "house" -> { lengths.clear(); return this::clear; }
            case "tone" -> {
                if (lengths.size() == 6) throw new Fault(word.place);
                int a = number(left.remove(), 0, 200), b = number(left.remove(), 0, 200), n = number(left.remove(), 1, 64);
                lengths.add(n);
                return () -> tone(a, b, n);
            }
            case "put" -> {
                int k = number(left.remove(), 0, 3), s = number(left.remove(), 0, lengths.size() - 1);
                int f = number(left.remove(), 0, lengths.get(s) - 1), m = number(left.remove(), 1, lengths.get(s) - f);
                int t = number(left.remove(), 0, 128 - m);
                return () -> put(k, s, f, m, t);
            }
            case "fade" -> {
                int k = number(left.remove(), 0, 3), i = number(left.remove(), 0, 11);
                int u = number(left.remove(), 0, 64), v = number(left.remove(), 0, 64);
                return () -> fade(k, i, u, v);
            }
            case "gain" -> {
                int k = number(left.remove(), 0, 3), i = number(left.remove(), 0, 11), g = number(left.remove(), 0, 16);
                return () -> gain(k, i, g);
            }
            case "shift" -> {
                int k = number(left.remove(), 0, 3);
                int sign = 1;
                if (left.peek().word.equals("-")) {
                    sign = -1;
                    left.remove();
                }
                int n = sign * number(left.remove(), 0, 16);
                return () -> shift(k, n);
            }
            case "shut" -> {
                int k = number(left.remove(), 0, 3);
                return () -> shut.set(k, true);
            }
            default -> throw new Fault(word.place);
        }
    }

    private int clear() {
        sounds.clear();
        for (int k = 0; k < 4; k++) {
            lanes.set(k, new Lane(List.of(), 0));
            shut.set(k, false);
        }
        return 0;
    }

    @Override
    public int fault() {
        try {
            parse();
            return NONE;
        } catch (Fault e) {
            return e.place;
        }
    }

    @Override
    public int house() {
        if (fault() != NONE) return NOT;
        List<Supplier<?>> deeds = parse();
        for (Supplier<?> deed : deeds) deed.get();
        Arrays.fill(kept, null);
        Arrays.fill(stands, null);
        for (ArrayDeque<Lane> undo : undos) undo.clear();
        text = "";
        return deeds.size();
    }

    // ---- told

    @Override
    public int sound(int sound, int what, int i) {
        if (sound < 0 || sound >= sounds.size()) return UNKNOWN;
        float[] row = sounds.get(sound);
        if (what == 0) return row.length;
        if (what < 0 || what > 3 || i < 0 || i >= row.length) return OUTSIDE;
        if (what == 1) return (int) (row[i] * 16);
        if (what == 2) return Float.floatToRawIntBits(row[i]);
        int times = 0;
        for (Lane lane : lanes) {
            for (int moment = 0; moment < 128; moment++) {
                Piece p = at(lane, moment);
                if (p != null && p.sound == sound && p.f + moment - p.t == i) times++;
            }
        }
        return times;
    }

    @Override
    public int span(int track, int span, int what) {
        if (!isPiece(track, span)) return UNKNOWN;
        Piece p = lanes.get(track).pieces.get(span);
        int[] all = {p.sound, p.f, p.m, p.t, p.gain, p.in, p.out};
        return what < 0 || what > 6 ? OUTSIDE : all[what];
    }

    private boolean isPiece(int track, int span) {
        return track >= 0 && track < 4 && span >= 0 && span < lanes.get(track).pieces.size();
    }

    private static Piece at(Lane lane, int moment) {
        for (Piece p : lane.pieces) if (p.has(moment)) return p;
        return null;
    }

    // ---- done

    @Override
    public int tone(int a, int b, int n) {
        if (a < 0 || a > 200 || b < 0 || b > 200 || n < 1 || n > 64) return OUTSIDE;
        if (sounds.size() == 6) return FULL;
        float[] row = new float[n];
        for (int i = 0; i < n; i++) row[i] = (a * i + b) % 201 - 100;
        sounds.add(row);
        return sounds.size() - 1;
    }

    // What is left of pieces where 'gone' moments are taken away, each run of moments a piece.
    private static List<Piece> without(List<Piece> pieces, int from, int to) {
        List<Piece> left = new ArrayList<>();
        for (Piece p : pieces) {
            int begin = -1;
            for (int moment = p.t; moment <= p.t + p.m; moment++) {
                boolean stays = p.has(moment) && !(moment >= from && moment < to);
                if (stays && begin < 0) begin = moment;
                if (!stays && begin >= 0) {
                    int m = moment - begin;
                    int in = begin == p.t ? Math.min(p.in, m) : 0;
                    int out = moment == p.t + p.m ? Math.min(p.out, m) : 0;
                    left.add(new Piece(p.sound, p.f + begin - p.t, m, begin, p.gain, in, out));
                    begin = -1;
                }
            }
        }
        return left;
    }

    private static List<Piece> with(List<Piece> pieces, Piece more) {
        List<Piece> all = without(pieces, more.t, more.t + more.m);
        all.add(more);
        all.sort((p, q) -> Integer.compare(p.t, q.t));
        return all;
    }

    private int change(int track, List<Piece> pieces, int shift) {
        if (pieces.size() > 12) return NOT;
        undos.get(track).push(lanes.get(track));
        if (undos.get(track).size() > 4) undos.get(track).removeLast();
        lanes.set(track, new Lane(List.copyOf(pieces), shift));
        return pieces.size();
    }

    private int change(int track, List<Piece> pieces) {
        return change(track, pieces, lanes.get(track).shift);
    }

    @Override
    public int put(int track, int sound, int f, int m, int t) {
        if (track < 0 || track > 3 || sound < 0 || sound >= sounds.size()) return UNKNOWN;
        if (f < 0 || m < 1 || t < 0 || (long) f + m > sounds.get(sound).length || (long) t + m > 128) return OUTSIDE;
        return change(track, with(lanes.get(track).pieces, new Piece(sound, f, m, t, 8, 0, 0)));
    }

    private void swap(int track, int span, Piece p) {
        List<Piece> pieces = new ArrayList<>(lanes.get(track).pieces);
        pieces.set(span, p);
        change(track, pieces);
    }

    @Override
    public int fade(int track, int span, int in, int out) {
        if (!isPiece(track, span)) return UNKNOWN;
        Piece p = lanes.get(track).pieces.get(span);
        if (in < 0 || out < 0 || (long) in + out > p.m) return OUTSIDE;
        swap(track, span, new Piece(p.sound, p.f, p.m, p.t, p.gain, in, out));
        return p.in;
    }

    @Override
    public int gain(int track, int span, int gain) {
        if (!isPiece(track, span)) return UNKNOWN;
        if (gain < 0 || gain > 16) return OUTSIDE;
        Piece p = lanes.get(track).pieces.get(span);
        swap(track, span, new Piece(p.sound, p.f, p.m, p.t, gain, p.in, p.out));
        return p.gain;
    }

    @Override
    public int wipe(int track, int from, int to) {
        if (track < 0 || track > 3) return UNKNOWN;
        if (from < 0 || from > 127 || to < from || to > 128) return OUTSIDE;
        return change(track, without(lanes.get(track).pieces, from, to));
    }

    @Override
    public int cut(int track, int moment) {
        if (track < 0 || track > 3) return UNKNOWN;
        if (moment < 1 || moment > 127) return OUTSIDE;
        List<Piece> pieces = new ArrayList<>(lanes.get(track).pieces);
        for (int i = 0; i < pieces.size(); i++) {
            Piece p = pieces.get(i);
            if (p.has(moment) && p.has(moment - 1)) {
                pieces.remove(i);
                pieces.addAll(i, without(List.of(p), 0, moment));
                pieces.addAll(i, without(List.of(p), moment, 128));
                return change(track, pieces);
            }
        }
        return NOT;
    }

    @Override
    public int move(int track, int span, int t) {
        if (!isPiece(track, span)) return UNKNOWN;
        List<Piece> pieces = new ArrayList<>(lanes.get(track).pieces);
        Piece p = pieces.remove(span);
        if (t < 0 || (long) t + p.m > 128) return OUTSIDE;
        return change(track, with(pieces, new Piece(p.sound, p.f, p.m, t, p.gain, p.in, p.out)));
    }

    @Override
    public int shift(int track, int n) {
        if (track < 0 || track > 3) return UNKNOWN;
        if (n < -16 || n > 16) return OUTSIDE;
        Lane lane = lanes.get(track);
        change(track, lane.pieces, n);
        return lane.shift;
    }

    @Override
    public int shut(int track) {
        if (track < 0 || track > 3) return UNKNOWN;
        shut.set(track, !shut.get(track));
        return shut.get(track) ? 1 : 0;
    }

    @Override
    public int bounce(int t, int n) {
        if (n < 1 || n > 64 || t < 0 || t > 128 - n) return OUTSIDE;
        if (sounds.size() == 6) return FULL;
        float[] row = new float[n];
        for (int i = 0; i < n; i++) row[i] = level(t + i);
        sounds.add(row);
        return sounds.size() - 1;
    }

    @Override
    public int undo(int track) {
        if (track < 0 || track > 3) return UNKNOWN;
        if (undos.get(track).isEmpty()) return NOT;
        lanes.set(track, undos.get(track).pop());
        return undos.get(track).size();
    }

    private int pieces() {
        return lanes.stream().mapToInt(lane -> lane.pieces.size()).sum();
    }

    @Override
    public int keep(int k) {
        if (k != 0 && k != 1) return OUTSIDE;
        kept[k] = new Kept(List.copyOf(lanes), List.copyOf(shut));
        return pieces();
    }

    @Override
    public int back(int k) {
        if (k != 0 && k != 1) return OUTSIDE;
        if (kept[k] == null) return NOT;
        for (int i = 0; i < 4; i++) {
            lanes.set(i, kept[k].lanes.get(i));
            shut.set(i, kept[k].shut.get(i));
            undos.get(i).clear();
        }
        return pieces();
    }

    // ---- heard

    private float playing(int track, int moment) {
        Piece p = at(lanes.get(track), moment);
        if (p == null) return 0;
        int i = moment - p.t;
        float v = sounds.get(p.sound)[p.f + i] * (p.gain / 8f);
        if (i < p.in) v *= (i + 1f) / (p.in + 1f);
        if (i >= p.m - p.out) v *= (p.m - i + 0f) / (p.out + 1f);
        return v;
    }

    private float level(int moment) {
        float all = 0;
        for (int k = 0; k < 4; k++) {
            int there = moment - lanes.get(k).shift;
            if (!shut.get(k)) all += there < 0 || there > 127 ? 0 : playing(k, there);
        }
        return all;
    }

    @Override
    public int heard(int moment) {
        return moment < 0 || moment > 127 ? OUTSIDE : (int) (level(moment) * 16);
    }

    @Override
    public long exact(int moment) {
        return moment < 0 || moment > 127 ? OUTSIDE : Float.floatToRawIntBits(level(moment));
    }

    @Override
    public long sum(int t, int u) {
        if (t < 0 || u > 127 || t > u) return OUTSIDE;
        double all = 0;
        for (int moment = t; moment <= u; moment++) all += level(moment);
        return Double.doubleToRawLongBits(all);
    }

    @Override
    public int played(int track, int moment) {
        if (track < 0 || track > 3) return UNKNOWN;
        return moment < 0 || moment > 127 ? OUTSIDE : (int) (playing(track, moment) * 16);
    }

    @Override
    public int covers(int track, int m, int t) {
        if (track < 0 || track > 3) return UNKNOWN;
        if (m < 1 || m > 64 || t < 0 || t > 128 - m) return OUTSIDE;
        int n = 0;
        for (int moment = t; moment < t + m; moment++) if (at(lanes.get(track), moment) != null) n++;
        return n;
    }

    // ---- racks

    @Override
    public int rack(int rack, int sort, int n) {
        if (rack < 0 || rack > 2) return UNKNOWN;
        if (sort < 0 || sort > 2 || n > 8) return OUTSIDE;
        if (n < 0) return SIZE;
        stands[rack] = new Stand();
        stands[rack].sort = sort;
        stands[rack].places = new Tool[n];
        return n;
    }

    private static int hang(Stand stand, int i, Tool tool) {
        if (stand == null) return NULL;
        if (i < 0 || i >= stand.places.length) return INDEX;
        if (stand.sort != 0 && stand.sort != (tool.blade ? 2 : 1)) return STORE;
        stand.places[i] = tool;
        return tool.v;
    }

    @Override
    public int hang(int rack, int i, int sort, int v) {
        if (rack < 0 || rack > 2) return UNKNOWN;
        if (sort < 1 || sort > 2 || v < 0 || v > 99) return OUTSIDE;
        return hang(stands[rack], i, new Tool(sort == 2, v));
    }

    @Override
    public int take(int rack, int i) {
        if (rack < 0 || rack > 2) return UNKNOWN;
        Stand stand = stands[rack];
        if (stand == null) return NULL;
        if (i < 0 || i >= stand.places.length) return INDEX;
        Tool tool = stand.places[i];
        if (tool == null) return EMPTY;
        stand.places[i] = null;
        return tool.blade ? 100 + tool.v : tool.v;
    }

    private static Stand likenessOf(Stand stand) {
        Stand like = new Stand();
        like.sort = stand.sort;
        like.places = stand.places.clone();
        return like;
    }

    private static int things(Stand stand) {
        return stand == null ? 0 : (int) Arrays.stream(stand.places).filter(tool -> tool != null).count();
    }

    @Override
    public int likeness(int rack, int other) {
        if (rack < 0 || rack > 2 || other < 0 || other > 2) return UNKNOWN;
        if (stands[other] == null) return NULL;
        stands[rack] = likenessOf(stands[other]);
        return things(stands[rack]);
    }

    @Override
    public int pass(int rack, int other) {
        if (rack < 0 || rack > 2 || other < 0 || other > 2) return UNKNOWN;
        if (stands[rack] == null || stands[other] == null) return NULL;
        int n = 0;
        for (int i = 0; i < stands[rack].places.length; i++) {
            Tool tool = stands[rack].places[i];
            if (tool == null) continue;
            if (hang(stands[other], i, tool) < 0) break;
            n++;
        }
        return n;
    }

    @Override
    public int drop(int rack) {
        if (rack < 0 || rack > 2) return UNKNOWN;
        if (stands[rack] == null) return NULL;
        int n = things(stands[rack]);
        stands[rack] = null;
        return n;
    }

    @Override
    public int count(int what) {
        if (what < 0 || what > 21) return OUTSIDE;
        if (what == 0) return sounds.size();
        if (what <= 4) return lanes.get(what - 1).pieces.size();
        if (what == 5) return (shut.get(0) ? 1 : 0) + (shut.get(1) ? 2 : 0) + (shut.get(2) ? 4 : 0) + (shut.get(3) ? 8 : 0);
        if (what == 6) return loudest();
        if (what == 7) return silent();
        if (what <= 11) return gaps(lanes.get(what - 8));
        if (what == 12) return things(stands[0]) + things(stands[1]) + things(stands[2]);
        if (what <= 16) return undos.get(what - 13).size();
        if (what == 17) return text.length();
        return lanes.get(what - 18).shift + 100;
    }

    private int loudest() {
        int best = 127;
        for (int moment = 126; moment >= 0; moment--) if (Math.abs(level(moment)) >= Math.abs(level(best))) best = moment;
        return best;
    }

    private int silent() {
        int n = 0;
        for (int moment = 0; moment < 128; moment++) if (level(moment) == 0) n++;
        return n;
    }

    private static int gaps(Lane lane) {
        int n = 0;
        for (int moment = 1; moment < 128; moment++) {
            if (at(lane, moment) != null && at(lane, moment - 1) == null) n++;
        }
        return n;
    }
}
