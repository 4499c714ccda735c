import java.util.ArrayList;
import java.util.List;
import java.util.function.Supplier;

// All that can be found out about a state. Some of it is found only by spoiling the state (undo, back, take, house),
// and an object has 512 calls at most: so each part of the look is taken at an object of its own in that state.
final class Look {
    private interface Part {
        void tell(Calls x, StringBuilder to);
    }

    private static final List<Part> PARTS = parts();

    static String of(Supplier<? extends Calls> state) {
        StringBuilder all = new StringBuilder();
        for (Part part : PARTS) {
            part.tell(state.get(), all);
            all.append('\n');
        }
        return all.toString();
    }

    // Every span as sound f m t gain in out, spans behind a bar each.
    static String spans(Calls x, int track) {
        StringBuilder all = new StringBuilder();
        int spans = x.count(1 + track);
        for (int i = 0; i < spans; i++) {
            all.append(i == 0 ? "" : "|");
            for (int what = 0; what < 7; what++) {
                all.append(what == 0 ? "" : " ").append(x.span(track, i, what));
            }
        }
        return all.toString();
    }

    static String counts(Calls x) {
        StringBuilder all = new StringBuilder();
        for (int what = 0; what <= 21; what++) all.append(what == 0 ? "" : " ").append(x.count(what));
        return all.toString();
    }

    private static void tracks(Calls x, StringBuilder to, int first) {
        for (int track = first; track < first + 2; track++) {
            to.append("track ").append(track).append(": ").append(spans(x, track)).append(' ');
        }
    }

    private static void sound(Calls x, StringBuilder to, int sound) {
        to.append("sound ").append(sound).append(':');
        int floats = x.sound(sound, 0, 0);
        to.append(' ').append(floats);
        for (int i = 0; i < floats; i++) {
            to.append(' ').append(x.sound(sound, 2, i)).append(' ').append(x.sound(sound, 3, i));
        }
    }

    private static void undone(Calls x, StringBuilder to, int track, int times) {
        int can = x.count(13 + track);
        if (can < times) return;
        to.append("track ").append(track).append(" undone: ");
        for (int i = 0; i < times; i++) to.append(x.undo(track)).append(' ');
        to.append(x.count(18 + track)).append(' ').append(spans(x, track));
    }

    private static void gone(Calls x, StringBuilder to, int k, int first) {
        to.append("back(").append(k).append("): ").append(x.back(k)).append(' ').append(counts(x)).append(' ');
        tracks(x, to, first);
    }

    // What hangs, and what could be hung then: a rack's size and what it is made for show themselves.
    private static void rack(Calls x, StringBuilder to, int rack) {
        to.append("rack ").append(rack).append(':');
        for (int i = 0; i <= 8; i++) to.append(' ').append(x.take(rack, i));
        for (int i = 0; i <= 8; i++) to.append(' ').append(x.hang(rack, i, 1, i)).append(' ').append(x.hang(rack, i, 2, i));
    }

    private static void text(Calls x, StringBuilder to, int first) {
        to.append("text: ").append(x.count(17)).append(' ').append(x.fault()).append(' ').append(x.house()).append(' ');
        to.append(counts(x)).append(' ');
        tracks(x, to, first);
    }

    private static List<Part> parts() {
        List<Part> parts = new ArrayList<>();
        parts.add((x, to) -> to.append("counts: ").append(counts(x)).append(' ').append(x.fault()));
        parts.add((x, to) -> {
            to.append("heard:");
            for (int moment = 0; moment < 128; moment++) to.append(' ').append(x.exact(moment));
        });
        for (int first = 0; first <= 2; first += 2) {
            int pair = first;
            parts.add((x, to) -> tracks(x, to, pair));
            parts.add((x, to) -> gone(x, to, 0, pair));
            parts.add((x, to) -> gone(x, to, 1, pair));
            parts.add((x, to) -> text(x, to, pair));
        }
        for (int s = 0; s < 6; s++) {
            int number = s;
            parts.add((x, to) -> sound(x, to, number));
        }
        for (int track = 0; track < 4; track++) {
            for (int times = 1; times <= 4; times++) {
                int k = track, n = times;
                parts.add((x, to) -> undone(x, to, k, n));
            }
        }
        for (int r = 0; r < 3; r++) {
            int number = r;
            parts.add((x, to) -> rack(x, to, number));
        }
        return parts;
    }

    private Look() {
    }
}
