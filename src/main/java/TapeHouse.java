/**
 * A house where tape is edited: sounds lie on tracks as spans, and all together is heard, moment by moment.
 * What each call answers is told in the document; README.md says how to use the class.
 */
public final class TapeHouse {
    public static final int NONE = -1, UNKNOWN = -2000000001, OUTSIDE = -2000000002, NOT = -2000000003, FULL = -2000000004, NULL = -2000000011, SIZE = -2000000012, INDEX = -2000000013, STORE = -2000000014, EMPTY = -2000000015;

    private static final int MOMENTS = 128;
    private static final int TRACKS = 4;
    private static final int MOST_SOUNDS = 6;
    private static final int MOST_FLOATS = 64;
    private static final int MOST_SPANS = 12;
    // A draft may be overfull before it is refused: a span in the midst of another one makes two more.
    private static final int SPAN_ROOM = MOST_SPANS + 2;
    private static final int MOST_GAIN = 16;
    private static final int FIRST_GAIN = 8;
    private static final int MOST_SHIFT = 16;
    private static final int MOST_UNDONE = 4;
    private static final int KEEPS = 2;
    private static final int TONE_RING = 201;
    private static final int TONE_MIDDLE = 100;
    private static final int MOST_LETTERS = 200;
    private static final int MOST_CLAUSES = 24;
    private static final int MOST_DIGITS = 3;
    private static final int RACKS = 3;
    private static final int MOST_PLACES = 8;
    private static final int ANY_TOOL = 0;
    private static final int REEL = 1;
    private static final int BLADE = 2;
    private static final int MOST_NUMBER = 99;
    private static final int FINE = 0;

    // The words of THE TEXT; a clause row begins with one of these, its numbers follow.
    private static final int HOUSE = 0;
    private static final int TONE = 1;
    private static final int PUT = 2;
    private static final int FADE = 3;
    private static final int GAIN = 4;
    private static final int SHIFT = 5;
    private static final int SHUT = 6;
    private static final int ROW = 6;

    // The kinds of letters, and what is behind the last one.
    private static final int BLANK = 0;
    private static final int SMALL = 1;
    private static final int DIGIT = 2;
    private static final int OTHER = 3;
    private static final int END = 4;

    private final Sounds sounds = new Sounds();
    private final Track[] tracks = new Track[TRACKS];
    private final boolean[] kept = new boolean[KEEPS];
    private final Rack[] racks = new Rack[RACKS];
    private final Text text = new Text();
    private final Reader reader = new Reader(text);

    public TapeHouse() {
        for (int k = 0; k < TRACKS; k++) {
            tracks[k] = new Track();
        }
        for (int r = 0; r < RACKS; r++) {
            racks[r] = new Rack();
        }
    }

    // ---- what is told

    public int write(int letter) {
        if (!isWithin(letter, 0, 255)) {
            return OUTSIDE;
        }
        if (text.size >= MOST_LETTERS) {
            return FULL;
        }
        text.append(letter);
        return text.size;
    }

    public int erase() {
        int had = text.size;
        text.size = 0;
        return had;
    }

    public int fault() {
        return reader.read(sounds);
    }

    public int house() {
        if (reader.read(sounds) != NONE) {
            return NOT;
        }
        for (int c = 0; c < reader.clauses; c++) {
            perform(reader.rows[c]);
        }
        forgetAllBehindText();
        text.size = 0;
        return reader.clauses;
    }

    public int sound(int sound, int what, int i) {
        if (!isSound(sound)) {
            return UNKNOWN;
        }
        if (!isWithin(what, 0, 3)) {
            return OUTSIDE;
        }
        if (what == 0) {
            return sounds.lengths[sound];
        }
        if (!isWithin(i, 0, sounds.lengths[sound] - 1)) {
            return OUTSIDE;
        }
        switch (what) {
            case 1:
                return sixteenfold(sounds.floatAt(sound, i));
            case 2:
                return bitsOfFloat(sounds.floatAt(sound, i));
            default:
                return timesOf(sound, i);
        }
    }

    public int span(int track, int span, int what) {
        if (!isSpan(track, span)) {
            return UNKNOWN;
        }
        Span told = tracks[track].now.spans[span];
        switch (what) {
            case 0:
                return told.sound;
            case 1:
                return told.first;
            case 2:
                return told.length;
            case 3:
                return told.start;
            case 4:
                return told.gain;
            case 5:
                return told.in;
            case 6:
                return told.out;
            default:
                return OUTSIDE;
        }
    }

    // ---- what is done

    public int tone(int a, int b, int n) {
        if (!isWithin(a, 0, TONE_RING - 1) || !isWithin(b, 0, TONE_RING - 1) || !isWithin(n, 1, MOST_FLOATS)) {
            return OUTSIDE;
        }
        if (sounds.count >= MOST_SOUNDS) {
            return FULL;
        }
        return sounds.addTone(a, b, n);
    }

    public int put(int track, int sound, int f, int m, int t) {
        if (!isTrack(track) || !isSound(sound)) {
            return UNKNOWN;
        }
        int length = sounds.lengths[sound];
        if (!isWithin(f, 0, length - 1) || !isPlaceFor(m, t) || m > length - f) {
            return OUTSIDE;
        }
        Track changed = tracks[track];
        if (!changed.lay(new Span(sound, f, m, t, FIRST_GAIN, 0, 0), NONE)) {
            return NOT;
        }
        return changed.now.count;
    }

    public int fade(int track, int span, int in, int out) {
        if (!isSpan(track, span)) {
            return UNKNOWN;
        }
        Span old = tracks[track].now.spans[span];
        if (!old.allowsFades(in, out)) {
            return OUTSIDE;
        }
        tracks[track].replace(span, old.faded(in, out));
        return old.in;
    }

    public int gain(int track, int span, int gain) {
        if (!isSpan(track, span)) {
            return UNKNOWN;
        }
        if (!isWithin(gain, 0, MOST_GAIN)) {
            return OUTSIDE;
        }
        Span old = tracks[track].now.spans[span];
        tracks[track].replace(span, old.louder(gain));
        return old.gain;
    }

    public int wipe(int track, int from, int to) {
        if (!isTrack(track)) {
            return UNKNOWN;
        }
        if (!isMoment(from) || !isWithin(to, from, MOMENTS)) {
            return OUTSIDE;
        }
        return tracks[track].clear(from, to) ? tracks[track].now.count : NOT;
    }

    public int cut(int track, int moment) {
        if (!isTrack(track)) {
            return UNKNOWN;
        }
        if (!isWithin(moment, 1, MOMENTS - 1)) {
            return OUTSIDE;
        }
        return tracks[track].split(moment) ? tracks[track].now.count : NOT;
    }

    public int move(int track, int span, int t) {
        if (!isSpan(track, span)) {
            return UNKNOWN;
        }
        Span old = tracks[track].now.spans[span];
        if (!isPlaceFor(old.length, t)) {
            return OUTSIDE;
        }
        return tracks[track].lay(old.movedTo(t), span) ? tracks[track].now.count : NOT;
    }

    public int shift(int track, int n) {
        if (!isTrack(track)) {
            return UNKNOWN;
        }
        if (!isWithin(n, -MOST_SHIFT, MOST_SHIFT)) {
            return OUTSIDE;
        }
        int was = tracks[track].now.shift;
        tracks[track].shiftTo(n);
        return was;
    }

    public int shut(int track) {
        if (!isTrack(track)) {
            return UNKNOWN;
        }
        Track changed = tracks[track];
        changed.shut = !changed.shut;
        return changed.shut ? 1 : 0;
    }

    public int bounce(int t, int n) {
        if (!isPlaceFor(n, t)) {
            return OUTSIDE;
        }
        if (sounds.count >= MOST_SOUNDS) {
            return FULL;
        }
        int made = sounds.addRow(n);
        for (int i = 0; i < n; i++) {
            sounds.setFloat(made, i, heardAt(t + i));
        }
        return made;
    }

    public int undo(int track) {
        if (!isTrack(track)) {
            return UNKNOWN;
        }
        return tracks[track].goBack() ? tracks[track].undoable : NOT;
    }

    public int keep(int k) {
        if (!isWithin(k, 0, KEEPS - 1)) {
            return OUTSIDE;
        }
        for (int i = 0; i < TRACKS; i++) {
            tracks[i].store(k);
        }
        kept[k] = true;
        return spansOfAll();
    }

    public int back(int k) {
        if (!isWithin(k, 0, KEEPS - 1)) {
            return OUTSIDE;
        }
        if (!kept[k]) {
            return NOT;
        }
        for (int i = 0; i < TRACKS; i++) {
            tracks[i].restore(k);
        }
        return spansOfAll();
    }

    // ---- what is heard

    public int heard(int moment) {
        return isMoment(moment) ? sixteenfold(heardAt(moment)) : OUTSIDE;
    }

    public long exact(int moment) {
        return isMoment(moment) ? bitsOfFloat(heardAt(moment)) : OUTSIDE;
    }

    public long sum(int t, int u) {
        if (!isMoment(t) || !isMoment(u) || t > u) {
            return OUTSIDE;
        }
        double all = 0.0;
        for (int moment = t; moment <= u; moment++) {
            all = all + (double) heardAt(moment);
        }
        return bitsOfDouble(all);
    }

    public int played(int track, int moment) {
        if (!isTrack(track)) {
            return UNKNOWN;
        }
        return isMoment(moment) ? sixteenfold(playedOn(tracks[track].now, moment)) : OUTSIDE;
    }

    public int covers(int track, int m, int t) {
        if (!isTrack(track)) {
            return UNKNOWN;
        }
        return isPlaceFor(m, t) ? tracks[track].now.momentsWithin(t, t + m) : OUTSIDE;
    }

    // ---- racks

    public int rack(int rack, int sort, int n) {
        if (!isRack(rack)) {
            return UNKNOWN;
        }
        if (!isWithin(sort, ANY_TOOL, BLADE) || n > MOST_PLACES) {
            return OUTSIDE;
        }
        if (n < 0) {
            return SIZE;
        }
        racks[rack].makeAnew(sort, n);
        return n;
    }

    public int hang(int rack, int i, int sort, int v) {
        if (!isRack(rack)) {
            return UNKNOWN;
        }
        if (!isWithin(sort, REEL, BLADE) || !isWithin(v, 0, MOST_NUMBER)) {
            return OUTSIDE;
        }
        int found = racks[rack].tryToHang(i, sort, v);
        return found == FINE ? v : found;
    }

    public int take(int rack, int i) {
        return isRack(rack) ? racks[rack].takeFrom(i) : UNKNOWN;
    }

    public int likeness(int rack, int other) {
        if (!isRack(rack) || !isRack(other)) {
            return UNKNOWN;
        }
        if (racks[other].missing) {
            return NULL;
        }
        racks[rack].becomeLike(racks[other]);
        return racks[rack].things();
    }

    public int pass(int rack, int other) {
        if (!isRack(rack) || !isRack(other)) {
            return UNKNOWN;
        }
        if (racks[rack].missing || racks[other].missing) {
            return NULL;
        }
        return racks[rack].hangAllOn(racks[other]);
    }

    public int drop(int rack) {
        if (!isRack(rack)) {
            return UNKNOWN;
        }
        if (racks[rack].missing) {
            return NULL;
        }
        int had = racks[rack].things();
        racks[rack].missing = true;
        return had;
    }

    public int count(int what) {
        if (isWithin(what, 1, 4)) {
            return tracks[what - 1].now.count;
        }
        if (isWithin(what, 8, 11)) {
            return tracks[what - 8].now.gaps();
        }
        if (isWithin(what, 13, 16)) {
            return tracks[what - 13].undoable;
        }
        if (isWithin(what, 18, 21)) {
            return tracks[what - 18].now.shift + 100;
        }
        switch (what) {
            case 0:
                return sounds.count;
            case 5:
                return shutBits();
            case 6:
                return loudest();
            case 7:
                return silentMoments();
            case 12:
                return thingsOnRacks();
            case 17:
                return text.size;
            default:
                return OUTSIDE;
        }
    }

    // ---- what the calls are made of

    private static boolean isWithin(int number, int least, int most) {
        return number >= least && number <= most;
    }

    private static boolean isMoment(int moment) {
        return isWithin(moment, 0, MOMENTS - 1);
    }

    private static boolean isPlaceFor(int m, int t) {
        return isWithin(m, 1, MOST_FLOATS) && isWithin(t, 0, MOMENTS - m);
    }

    private static boolean isTrack(int track) {
        return isWithin(track, 0, TRACKS - 1);
    }

    private static boolean isRack(int rack) {
        return isWithin(rack, 0, RACKS - 1);
    }

    private boolean isSound(int sound) {
        return isWithin(sound, 0, sounds.count - 1);
    }

    private boolean isSpan(int track, int span) {
        return isTrack(track) && isWithin(span, 0, tracks[track].now.count - 1);
    }

    // What a clause can't do, its call refuses: nothing is done then, as THE TEXT wants it.
    private void perform(int[] row) {
        switch (row[0]) {
            case HOUSE:
                clearAll();
                break;
            case TONE:
                sounds.addTone(row[1], row[2], row[3]);
                break;
            case PUT:
                put(row[1], row[2], row[3], row[4], row[5]);
                break;
            case FADE:
                fade(row[1], row[2], row[3], row[4]);
                break;
            case GAIN:
                gain(row[1], row[2], row[3]);
                break;
            case SHIFT:
                shift(row[1], row[2]);
                break;
            case SHUT:
                if (isTrack(row[1])) {
                    tracks[row[1]].shut = true;
                }
                break;
            default:
                break;
        }
    }

    private void clearAll() {
        sounds.count = 0;
        for (int k = 0; k < TRACKS; k++) {
            tracks[k].becomeEmpty();
        }
    }

    private void forgetAllBehindText() {
        for (int k = 0; k < TRACKS; k++) {
            tracks[k].undoable = 0;
        }
        for (int k = 0; k < KEEPS; k++) {
            kept[k] = false;
        }
        for (int r = 0; r < RACKS; r++) {
            racks[r].missing = true;
        }
    }

    private float playedOn(Tape tape, int moment) {
        int found = tape.indexAt(moment);
        if (found == NONE) {
            return 0f;
        }
        Span span = tape.spans[found];
        int i = moment - span.start;
        return span.weigh(sounds.floatAt(span.sound, span.first + i), i);
    }

    private float heardAt(int moment) {
        float all = 0f;
        for (int k = 0; k < TRACKS; k++) {
            if (!tracks[k].shut) {
                Tape tape = tracks[k].now;
                all = all + playedOn(tape, moment - tape.shift);
            }
        }
        return all;
    }

    private int timesOf(int sound, int i) {
        int times = 0;
        for (int k = 0; k < TRACKS; k++) {
            times += tracks[k].now.timesOf(sound, i);
        }
        return times;
    }

    private int spansOfAll() {
        int all = 0;
        for (int k = 0; k < TRACKS; k++) {
            all += tracks[k].now.count;
        }
        return all;
    }

    private int shutBits() {
        int bits = 0;
        for (int k = 0; k < TRACKS; k++) {
            if (tracks[k].shut) {
                bits |= 1 << k;
            }
        }
        return bits;
    }

    private int loudest() {
        int best = 0;
        float greatest = 0f;
        for (int moment = 0; moment < MOMENTS; moment++) {
            float level = heardAt(moment);
            float size = level < 0f ? -level : level;
            if (size > greatest) {
                greatest = size;
                best = moment;
            }
        }
        return best;
    }

    private int silentMoments() {
        int silent = 0;
        for (int moment = 0; moment < MOMENTS; moment++) {
            if (heardAt(moment) == 0f) {
                silent++;
            }
        }
        return silent;
    }

    private int thingsOnRacks() {
        int all = 0;
        for (int r = 0; r < RACKS; r++) {
            all += racks[r].things();
        }
        return all;
    }

    private static int sixteenfold(float level) {
        return (int) (level * 16f);
    }

    private static int bitsOfFloat(float level) {
        int size = (int) bitsOfSize(level < 0f ? -(double) level : (double) level, 127, 23);
        return level < 0f ? size | (1 << 31) : size;
    }

    private static long bitsOfDouble(double level) {
        long size = bitsOfSize(level < 0.0 ? -level : level, 1023, 52);
        return level < 0.0 ? size | (1L << 63) : size;
    }

    /**
     * The bits of a number that is not below 0, by its exponent and what is behind its point: the library's
     * function for it is not allowed here. Halving and doubling lose nothing, so the bits are exact.
     */
    private static long bitsOfSize(double size, int bias, int width) {
        if (size == 0.0) {
            return 0L;
        }
        double left = size;
        int exponent = 0;
        while (left >= 2.0 && exponent < bias) {
            left = left / 2.0;
            exponent++;
        }
        while (left < 1.0 && exponent > 1 - bias) {
            left = left * 2.0;
            exponent--;
        }
        long one = 1L << width;
        // A number too small for a leading 1 lacks it in 'left' too, so its exponent's bits come out as 0.
        return ((long) (exponent + bias) << width) + (long) (left * (double) one) - one;
    }

    /** All SOUNDS, in rows that are used again behind a text that begins anew. */
    private static final class Sounds {
        private final float[][] rows = new float[MOST_SOUNDS][MOST_FLOATS];
        private final int[] lengths = new int[MOST_SOUNDS];
        private int count = 0;

        // Its floats are what an earlier sound left there: the caller sets each of them.
        private int addRow(int n) {
            if (count >= MOST_SOUNDS || !isWithin(n, 1, MOST_FLOATS)) {
                return NONE;
            }
            int made = count;
            lengths[made] = n;
            count = made + 1;
            return made;
        }

        private int addTone(int a, int b, int n) {
            int made = addRow(n);
            for (int i = 0; i < n; i++) {
                setFloat(made, i, (float) ((a * i + b) % TONE_RING - TONE_MIDDLE));
            }
            return made;
        }

        private boolean isThere(int sound, int i) {
            return isWithin(sound, 0, count - 1) && isWithin(i, 0, lengths[sound] - 1);
        }

        private float floatAt(int sound, int i) {
            return isThere(sound, i) ? rows[sound][i] : 0f;
        }

        private void setFloat(int sound, int i, float level) {
            if (isThere(sound, i)) {
                rows[sound][i] = level;
            }
        }
    }

    /** A SPAN, never changed: tapes that are kept or can be undone share it. */
    private static final class Span {
        private final int sound;
        private final int first;
        private final int length;
        private final int start;
        private final int gain;
        private final int in;
        private final int out;

        private Span(int sound, int first, int length, int start, int gain, int in, int out) {
            this.sound = sound;
            this.first = first;
            this.length = length;
            this.start = start;
            this.gain = gain;
            this.in = in;
            this.out = out;
        }

        private int end() {
            return start + length;
        }

        private boolean allowsFades(int newIn, int newOut) {
            return isWithin(newIn, 0, length) && isWithin(newOut, 0, length - newIn);
        }

        private Span faded(int newIn, int newOut) {
            return new Span(sound, first, length, start, gain, newIn, newOut);
        }

        private Span louder(int newGain) {
            return new Span(sound, first, length, start, newGain, in, out);
        }

        private Span movedTo(int newStart) {
            return new Span(sound, first, length, newStart, gain, in, out);
        }

        private Span aheadOf(int moment) {
            int left = moment - start;
            return new Span(sound, first, left, start, gain, Math.min(in, left), 0);
        }

        private Span from(int moment) {
            int lost = moment - start;
            int left = length - lost;
            return new Span(sound, first + lost, left, moment, gain, 0, Math.min(out, left));
        }

        private float weigh(float level, int i) {
            float weighed = level * ((float) gain / 8f);
            if (i < in) {
                weighed = weighed * ((float) (i + 1) / (float) (in + 1));
            }
            if (i >= length - out) {
                weighed = weighed * ((float) (length - i) / (float) (out + 1));
            }
            return weighed;
        }
    }

    /** What lies on a TRACK, by MOMENTS, and its SHIFT: all that undo() brings again. */
    private static final class Tape {
        private final Span[] spans = new Span[SPAN_ROOM];
        private int count = 0;
        private int shift = 0;

        private void copyOf(Tape other) {
            count = other.count;
            shift = other.shift;
            for (int i = 0; i < SPAN_ROOM; i++) {
                spans[i] = other.spans[i];
            }
        }

        /** Becomes the other tape without the MOMENTS from .. to - 1 and without the span numbered gone. */
        private void takeRest(Tape other, int from, int to, int gone) {
            count = 0;
            shift = other.shift;
            for (int i = 0; i < other.count; i++) {
                Span span = other.spans[i];
                if (i == gone) {
                    continue;
                }
                if (from >= to || span.end() <= from || span.start >= to) {
                    append(span);
                    continue;
                }
                if (span.start < from) {
                    append(span.aheadOf(from));
                }
                if (span.end() > to) {
                    append(span.from(to));
                }
            }
        }

        private void append(Span span) {
            if (count < SPAN_ROOM) {
                spans[count] = span;
                count++;
            }
        }

        private void insert(Span span) {
            if (count >= SPAN_ROOM) {
                return;
            }
            int place = count;
            while (place > 0 && spans[place - 1].start > span.start) {
                spans[place] = spans[place - 1];
                place--;
            }
            spans[place] = span;
            count++;
        }

        private int indexAt(int moment) {
            for (int i = 0; i < count; i++) {
                if (isWithin(moment, spans[i].start, spans[i].end() - 1)) {
                    return i;
                }
            }
            return NONE;
        }

        private int momentsWithin(int from, int to) {
            int moments = 0;
            for (int i = 0; i < count; i++) {
                int shared = Math.min(to, spans[i].end()) - Math.max(from, spans[i].start);
                moments += Math.max(shared, 0);
            }
            return moments;
        }

        // A span has a float of its sound on one moment at most, so spans are counted.
        private int timesOf(int sound, int i) {
            int times = 0;
            for (int k = 0; k < count; k++) {
                Span span = spans[k];
                if (span.sound == sound && isWithin(i, span.first, span.first + span.length - 1)) {
                    times++;
                }
            }
            return times;
        }

        private int gaps() {
            int gaps = 0;
            int reached = 0;
            for (int i = 0; i < count; i++) {
                if (spans[i].start > reached) {
                    gaps++;
                }
                reached = spans[i].end();
            }
            return gaps;
        }
    }

    /** A TRACK: its tape, those ahead of its latest changes, those kept. */
    private static final class Track {
        private Tape now = new Tape();
        private Tape draft = new Tape();
        private final Tape[] past = new Tape[MOST_UNDONE];
        private int undoable = 0;
        private boolean shut = false;
        private final Tape[] stored = new Tape[KEEPS];
        private final boolean[] storedShut = new boolean[KEEPS];

        private Track() {
            for (int i = 0; i < MOST_UNDONE; i++) {
                past[i] = new Tape();
            }
            for (int k = 0; k < KEEPS; k++) {
                stored[k] = new Tape();
            }
        }

        private void becomeEmpty() {
            now.count = 0;
            now.shift = 0;
            shut = false;
        }

        private boolean lay(Span span, int gone) {
            draft.takeRest(now, span.start, span.end(), gone);
            draft.insert(span);
            return acceptDraft();
        }

        private boolean clear(int from, int to) {
            draft.takeRest(now, from, to, NONE);
            return acceptDraft();
        }

        private boolean split(int moment) {
            int found = now.indexAt(moment);
            if (found == NONE) {
                return false;
            }
            Span whole = now.spans[found];
            if (whole.start == moment) {
                return false;
            }
            draft.takeRest(now, 0, 0, found);
            draft.insert(whole.aheadOf(moment));
            draft.insert(whole.from(moment));
            return acceptDraft();
        }

        private void replace(int index, Span span) {
            draft.copyOf(now);
            if (isWithin(index, 0, draft.count - 1)) {
                draft.spans[index] = span;
            }
            acceptDraft();
        }

        private void shiftTo(int n) {
            draft.copyOf(now);
            draft.shift = n;
            acceptDraft();
        }

        // Tapes change their places, so that none is made: the one that can be undone no more is the next draft.
        private boolean acceptDraft() {
            if (draft.count > MOST_SPANS) {
                return false;
            }
            Tape free = past[MOST_UNDONE - 1];
            for (int i = MOST_UNDONE - 1; i > 0; i--) {
                past[i] = past[i - 1];
            }
            past[0] = now;
            now = draft;
            draft = free;
            undoable = Math.min(undoable + 1, MOST_UNDONE);
            return true;
        }

        private boolean goBack() {
            if (undoable <= 0) {
                return false;
            }
            Tape free = now;
            now = past[0];
            for (int i = 0; i < MOST_UNDONE - 1; i++) {
                past[i] = past[i + 1];
            }
            past[MOST_UNDONE - 1] = free;
            undoable--;
            return true;
        }

        private void store(int k) {
            stored[k].copyOf(now);
            storedShut[k] = shut;
        }

        private void restore(int k) {
            now.copyOf(stored[k]);
            shut = storedShut[k];
            undoable = 0;
        }
    }

    /** A RACK; a place's sort is 0 while it is empty. */
    private static final class Rack {
        private final int[] sorts = new int[MOST_PLACES];
        private final int[] numbers = new int[MOST_PLACES];
        private boolean missing = true;
        private int madeFor = ANY_TOOL;
        private int size = 0;

        private void makeAnew(int sort, int n) {
            missing = false;
            madeFor = sort;
            size = n;
            for (int i = 0; i < MOST_PLACES; i++) {
                sorts[i] = 0;
            }
        }

        private int things() {
            if (missing) {
                return 0;
            }
            int things = 0;
            for (int i = 0; i < size; i++) {
                if (sorts[i] != 0) {
                    things++;
                }
            }
            return things;
        }

        private int findAt(int i) {
            if (missing) {
                return NULL;
            }
            return isWithin(i, 0, size - 1) ? FINE : INDEX;
        }

        private int tryToHang(int i, int sort, int number) {
            int found = findAt(i);
            if (found != FINE) {
                return found;
            }
            if (madeFor != ANY_TOOL && madeFor != sort) {
                return STORE;
            }
            sorts[i] = sort;
            numbers[i] = number;
            return FINE;
        }

        private int takeFrom(int i) {
            int found = findAt(i);
            if (found != FINE) {
                return found;
            }
            if (sorts[i] == 0) {
                return EMPTY;
            }
            int told = sorts[i] == BLADE ? 100 + numbers[i] : numbers[i];
            sorts[i] = 0;
            return told;
        }

        private void becomeLike(Rack other) {
            missing = other.missing;
            madeFor = other.madeFor;
            size = other.size;
            for (int i = 0; i < MOST_PLACES; i++) {
                sorts[i] = other.sorts[i];
                numbers[i] = other.numbers[i];
            }
        }

        private int hangAllOn(Rack other) {
            int hung = 0;
            for (int i = 0; i < size; i++) {
                if (sorts[i] != 0) {
                    if (other.tryToHang(i, sorts[i], numbers[i]) != FINE) {
                        return hung;
                    }
                    hung++;
                }
            }
            return hung;
        }
    }

    /** THE TEXT's letters. */
    private static final class Text {
        private final int[] letters = new int[MOST_LETTERS];
        private int size = 0;

        private void append(int letter) {
            if (size < MOST_LETTERS) {
                letters[size] = letter;
                size++;
            }
        }

        private int letterAt(int place) {
            return isWithin(place, 0, size - 1) ? letters[place] : NONE;
        }

        private int kindAt(int place) {
            if (place < 0 || place >= size) {
                return END;
            }
            int letter = letters[place];
            if (letter == ' ') {
                return BLANK;
            }
            if (letter >= 'a' && letter <= 'z') {
                return SMALL;
            }
            return letter >= '0' && letter <= '9' ? DIGIT : OTHER;
        }
    }

    /** Reads THE TEXT to its first FAULT, token by token; what its clauses say is in the rows then. */
    private static final class Reader {
        private final int[][] rows = new int[MOST_CLAUSES][ROW];
        private int clauses = 0;
        private final Text text;
        private int begin = 0;
        private int end = 0;
        private int kind = END;
        // How long the sounds are that there would be at the clause that is read.
        private final int[] lengths = new int[MOST_SOUNDS];
        private int told = 0;

        private Reader(Text text) {
            this.text = text;
        }

        /** The place of the FAULT, or NONE. */
        private int read(Sounds sounds) {
            startWith(sounds);
            for (int c = 0; c < MOST_CLAUSES; c++) {
                if (!readClause(rows[c])) {
                    return begin;
                }
                clauses = c + 1;
                if (kind == END) {
                    return NONE;
                }
                if (text.letterAt(begin) != ';' || clauses == MOST_CLAUSES) {
                    return begin;
                }
                nextToken();
            }
            return begin;
        }

        private void startWith(Sounds sounds) {
            told = sounds.count;
            for (int s = 0; s < MOST_SOUNDS; s++) {
                lengths[s] = sounds.lengths[s];
            }
            clauses = 0;
            end = 0;
            nextToken();
        }

        private void nextToken() {
            begin = end;
            while (begin < text.size && text.kindAt(begin) == BLANK) {
                begin++;
            }
            kind = text.kindAt(begin);
            end = begin;
            if (kind == OTHER) {
                end = begin + 1;
            } else {
                while (end < text.size && text.kindAt(end) == kind) {
                    end++;
                }
            }
        }

        private boolean isWord(String word) {
            if (end - begin != word.length()) {
                return false;
            }
            for (int i = 0; i < word.length(); i++) {
                if (text.letterAt(begin + i) != word.charAt(i)) {
                    return false;
                }
            }
            return true;
        }

        private int wordHere() {
            if (isWord("house")) {
                return HOUSE;
            }
            if (isWord("tone")) {
                return TONE;
            }
            if (isWord("put")) {
                return PUT;
            }
            if (isWord("fade")) {
                return FADE;
            }
            if (isWord("gain")) {
                return GAIN;
            }
            if (isWord("shift")) {
                return SHIFT;
            }
            return isWord("shut") ? SHUT : NONE;
        }

        private boolean readClause(int[] row) {
            int word = wordHere();
            if (word == NONE || word == TONE && told >= MOST_SOUNDS) {
                return false;
            }
            row[0] = word;
            nextToken();
            switch (word) {
                case HOUSE:
                    told = 0;
                    return true;
                case TONE:
                    return readTone(row);
                case PUT:
                    return readPut(row);
                case FADE:
                    return readNumber(row, 1, 0, TRACKS - 1) && readNumber(row, 2, 0, MOST_SPANS - 1)
                            && readNumber(row, 3, 0, MOST_FLOATS) && readNumber(row, 4, 0, MOST_FLOATS);
                case GAIN:
                    return readNumber(row, 1, 0, TRACKS - 1) && readNumber(row, 2, 0, MOST_SPANS - 1)
                            && readNumber(row, 3, 0, MOST_GAIN);
                case SHIFT:
                    return readNumber(row, 1, 0, TRACKS - 1) && readShift(row);
                default:
                    return readNumber(row, 1, 0, TRACKS - 1);
            }
        }

        private boolean readTone(int[] row) {
            if (!readNumber(row, 1, 0, TONE_RING - 1) || !readNumber(row, 2, 0, TONE_RING - 1)
                    || !readNumber(row, 3, 1, MOST_FLOATS)) {
                return false;
            }
            lengths[told] = row[3];
            told++;
            return true;
        }

        private boolean readPut(int[] row) {
            return readNumber(row, 1, 0, TRACKS - 1) && readNumber(row, 2, 0, told - 1)
                    && readNumber(row, 3, 0, lengths[row[2]] - 1)
                    && readNumber(row, 4, 1, lengths[row[2]] - row[3])
                    && readNumber(row, 5, 0, MOMENTS - row[4]);
        }

        private boolean readShift(int[] row) {
            boolean isBelow = text.letterAt(begin) == '-';
            if (isBelow) {
                nextToken();
            }
            if (!readNumber(row, 2, 0, MOST_SHIFT)) {
                return false;
            }
            if (isBelow) {
                row[2] = -row[2];
            }
            return true;
        }

        /** Reads a number of 1 to 3 digits within its bounds; at any other token it stays there. */
        private boolean readNumber(int[] row, int slot, int least, int most) {
            if (kind != DIGIT || end - begin > MOST_DIGITS) {
                return false;
            }
            int number = 0;
            for (int place = begin; place < end; place++) {
                number = number * 10 + (text.letterAt(place) - '0');
            }
            if (!isWithin(number, least, most)) {
                return false;
            }
            row[slot] = number;
            nextToken();
            return true;
        }
    }
}
