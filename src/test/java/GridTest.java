import java.util.ArrayList;
import java.util.LinkedHashMap;
import java.util.List;
import java.util.Map;
import java.util.Set;

// Every call with every mix of edge numbers, from several states: it answers as the model does, so the right refusal
// comes first; behind a refused call, or one that only tells, nothing has changed; behind another one the state is
// the model's.
public final class GridTest {
    private static final int LEAST = Integer.MIN_VALUE, MOST = Integer.MAX_VALUE;
    // History, batch and the longest part of a look stay below 512 calls together.
    private static final int BATCH = 40;
    private static final Set<String> TELLING = Set.of("fault", "sound", "span", "heard", "exact", "sum", "played", "covers", "count");
    private static final Set<String> ON_TRACK = Set.of("put", "fade", "gain", "wipe", "cut", "move", "shift");
    private static final Map<String, int[][]> GRID = grid();

    private final States.State state;
    private final Model begin = new Model();
    private final String look;
    private List<Call> batch = new ArrayList<>();
    private House batched;
    private int calls = 0;

    private GridTest(States.State state) {
        this.state = state;
        state.history().accept(begin);
        look = Look.of(() -> behind(List.of()));
        Checks.alike("state '" + state.name() + "'", look, Look.of(() -> new Model(begin)));
        batched = behind(List.of());
    }

    private static Map<String, int[][]> grid() {
        int[] tracks = {LEAST, -1, 0, 1, 2, 3, 4, MOST};
        int[] sounds = {LEAST, -1, 0, 1, 2, 3, 5, 6, MOST};
        int[] spans = {LEAST, -1, 0, 1, 2, 10, 11, 12, MOST};
        int[] moments = {LEAST, -1, 0, 1, 31, 64, 126, 127, 128, MOST};
        int[] racks = {LEAST, -1, 0, 1, 2, 3, MOST};
        int[] places = {LEAST, -1, 0, 1, 2, 3, 7, 8, MOST};
        int[] keeps = {LEAST, -1, 0, 1, 2, MOST};
        int[] upTo8 = {LEAST, -1, 0, 1, 2, 3, 4, 5, 6, 7, 8, MOST};
        int[] fades = {LEAST, -1, 0, 1, 2, 3, 10, 20, 32, 33, 40, 41, 64, 65, MOST};
        int[] counts = new int[28];
        for (int i = 0; i < 26; i++) counts[i] = i - 2;
        counts[26] = LEAST;
        counts[27] = MOST;
        Map<String, int[][]> grid = new LinkedHashMap<>();
        grid.put("write", new int[][] {{LEAST, -1, 0, 32, 59, 97, 255, 256, MOST}});
        grid.put("erase", new int[][] {});
        grid.put("fault", new int[][] {});
        grid.put("house", new int[][] {});
        grid.put("sound", new int[][] {sounds, {LEAST, -1, 0, 1, 2, 3, 4, MOST}, {LEAST, -1, 0, 1, 2, 39, 40, 63, 64, MOST}});
        grid.put("span", new int[][] {tracks, spans, upTo8});
        int[] letters = {LEAST, -1, 0, 1, 200, 201, MOST};
        grid.put("tone", new int[][] {letters, letters, {LEAST, -1, 0, 1, 64, 65, MOST}});
        grid.put("put", new int[][] {{-1, 0, 1, 3, 4}, {-1, 0, 1, 3, 6}, {LEAST, -1, 0, 1, 39, 40, 63, 64, MOST},
            {LEAST, -1, 0, 1, 2, 40, 41, 63, 64, 65, MOST}, {LEAST, -1, 0, 1, 33, 64, 65, 126, 127, 128, MOST}});
        grid.put("fade", new int[][] {tracks, spans, fades, fades});
        grid.put("gain", new int[][] {tracks, spans, {LEAST, -1, 0, 1, 15, 16, 17, MOST}});
        grid.put("wipe", new int[][] {tracks, {LEAST, -1, 0, 1, 31, 32, 63, 70, 126, 127, 128, MOST}, {LEAST, -1, 0, 1, 31, 32, 33, 71, 127, 128, 129, MOST}});
        grid.put("cut", new int[][] {tracks, {LEAST, -1, 0, 1, 2, 3, 10, 11, 30, 31, 64, 65, 125, 126, 127, 128, MOST}});
        grid.put("move", new int[][] {tracks, spans, {LEAST, -1, 0, 1, 8, 64, 65, 87, 88, 89, 123, 124, 126, 127, 128, MOST}});
        grid.put("shift", new int[][] {tracks, {LEAST, -17, -16, -1, 0, 1, 16, 17, MOST}});
        grid.put("shut", new int[][] {tracks});
        grid.put("bounce", new int[][] {{LEAST, -1, 0, 1, 63, 64, 65, 126, 127, 128, MOST}, {LEAST, -1, 0, 1, 2, 63, 64, 65, MOST}});
        grid.put("undo", new int[][] {tracks});
        grid.put("keep", new int[][] {keeps});
        grid.put("back", new int[][] {keeps});
        grid.put("heard", new int[][] {moments});
        grid.put("exact", new int[][] {moments});
        grid.put("sum", new int[][] {moments, moments});
        grid.put("played", new int[][] {tracks, moments});
        grid.put("covers", new int[][] {tracks, {LEAST, -1, 0, 1, 2, 63, 64, 65, MOST}, {LEAST, -1, 0, 1, 63, 64, 65, 126, 127, 128, MOST}});
        grid.put("rack", new int[][] {racks, {LEAST, -1, 0, 1, 2, 3, MOST}, {LEAST, -1, 0, 1, 7, 8, 9, MOST}});
        grid.put("hang", new int[][] {racks, places, {LEAST, -1, 0, 1, 2, 3, MOST}, {LEAST, -1, 0, 1, 99, 100, MOST}});
        grid.put("take", new int[][] {racks, places});
        grid.put("likeness", new int[][] {racks, racks});
        grid.put("pass", new int[][] {racks, racks});
        grid.put("drop", new int[][] {racks});
        grid.put("count", new int[][] {counts});
        return grid;
    }

    private House behind(List<Call> more) {
        House x = new House();
        state.history().accept(x);
        for (Call call : more) call.on(x);
        return x;
    }

    private void tryAll(String name, int[][] edges, int[] args, int at) {
        if (at == edges.length) {
            tryOne(new Call(name, args.clone()));
            return;
        }
        for (int edge : edges[at]) {
            args[at] = edge;
            tryAll(name, edges, args, at + 1);
        }
    }

    private void tryOne(Call call) {
        calls++;
        Model y = new Model(begin);
        long want = call.on(y);
        if (want <= Model.UNKNOWN && want >= Model.EMPTY || TELLING.contains(call.name())) {
            batch.add(call);
            Checks.due(call.on(batched), want);
            if (batch.size() == BATCH) endBatch();
            return;
        }
        House x = behind(List.of());
        Checks.due(call.on(x), want);
        if (ON_TRACK.contains(call.name())) {
            Checks.alike("behind " + call + " in state '" + state.name() + "'", ofTrack(x, call.args()[0]), ofTrack(y, call.args()[0]));
        } else {
            Checks.alike("behind " + call + " in state '" + state.name() + "'", Look.of(() -> behind(List.of(call))), Look.of(() -> new Model(y)));
        }
    }

    private static String ofTrack(Calls x, int track) {
        StringBuilder all = new StringBuilder(Look.counts(x)).append('\n').append(Look.spans(x, track)).append('\n');
        all.append(x.undo(track)).append(' ').append(x.count(18 + track)).append(' ').append(Look.spans(x, track)).append('\n');
        return all.toString();
    }

    private void endBatch() {
        List<Call> made = batch;
        if (!Look.of(() -> behind(made)).equals(look)) {
            for (Call call : made) {
                Checks.alike("behind " + call + " in state '" + state.name() + "'", Look.of(() -> behind(List.of(call))), look);
            }
            Checks.alike("behind " + made + " in state '" + state.name() + "'", Look.of(() -> behind(made)), look);
        }
        batch = new ArrayList<>();
        batched = behind(List.of());
    }

    public static void main(String[] args) {
        Checks.sentence("Refused, and nothing changes: UNKNOWN -2000000001 (no such SOUND, TRACK, SPAN, RACK), OUTSIDE -2000000002 (another number is not as told), NOT -2000000003 (not now: as told), FULL -2000000004, then what the machine finds: the first of these that fits.");
        int calls = 0;
        for (States.State state : States.ALL) {
            GridTest test = new GridTest(state);
            for (Map.Entry<String, int[][]> row : GRID.entrySet()) {
                test.tryAll(row.getKey(), row.getValue(), new int[row.getValue().length], 0);
            }
            test.endBatch();
            calls += test.calls;
        }
        System.out.println(calls + " calls with edge numbers");
        Checks.end();
    }
}
