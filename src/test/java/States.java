import java.util.List;
import java.util.function.Consumer;

// States from which edges are looked at: nothing there, something of all, all places taken, gone back to what was kept.
final class States {
    record State(String name, Consumer<Calls> history) { }

    static final List<State> ALL = List.of(new State("new", x -> { }), new State("busy", States::busy),
            new State("full", States::full), new State("gone back", States::goneBack), new State("behind a text", States::behindText));

    // Spans of all sorts on tracks 0 to 2, none on track 3; rack 2 is missing; the text has a fault; 0 is kept.
    static void busy(Calls x) {
        x.tone(7, 3, 40);
        x.tone(33, 9, 64);
        x.tone(0, 150, 1);
        x.put(0, 0, 0, 40, 10);
        x.fade(0, 0, 30, 10);
        x.gain(0, 0, 3);
        x.put(0, 1, 20, 5, 60);
        x.put(1, 1, 0, 64, 0);
        x.put(1, 0, 5, 20, 64);
        x.fade(1, 1, 4, 9);
        x.cut(1, 30);
        x.shift(1, -16);
        x.put(2, 2, 0, 1, 127);
        x.shut(2);
        x.keep(0);
        x.shift(2, 16);
        x.shut(0);
        x.rack(0, 0, 8);
        x.hang(0, 0, 1, 10);
        x.hang(0, 3, 2, 20);
        x.hang(0, 7, 1, 30);
        x.rack(1, 1, 3);
        x.hang(1, 0, 1, 5);
        x.hang(1, 2, 1, 6);
        Checks.write(x, "shut 1;tone 1 1 65");
    }

    // 6 sounds; 12 spans on tracks 0 (with gaps) and 1 (long ones), 11 on track 2; both kept; 200 letters.
    static void full(Calls x) {
        x.tone(1, 0, 64);
        x.tone(33, 9, 64);
        x.tone(5, 50, 40);
        x.tone(0, 150, 1);
        x.tone(50, 50, 2);
        x.tone(100, 7, 64);
        for (int i = 0; i < 12; i++) x.put(0, 0, i, 2, 3 * i);
        x.put(1, 1, 0, 64, 0);
        x.fade(1, 0, 40, 24);
        for (int i = 1; i < 6; i++) x.put(1, 3, 0, 1, 10 * i);
        x.put(1, 4, 0, 2, 126);
        x.put(2, 5, 0, 64, 64);
        for (int i = 0; i < 10; i++) x.cut(2, 66 + 6 * i);
        x.put(3, 2, 0, 40, 0);
        x.keep(0);
        x.gain(3, 0, 16);
        x.keep(1);
        x.fade(3, 0, 20, 20);
        x.rack(0, 0, 8);
        x.rack(1, 2, 8);
        x.rack(2, 1, 0);
        for (int i = 0; i < 8; i++) x.hang(0, i, 1 + i % 2, 11 * i);
        for (int i = 0; i < 8; i++) x.hang(1, i, 2, 99 - i);
        Checks.write(x, "house;tone 5 5 5");
        for (int i = 16; i < 200; i++) x.write(32);
    }

    // Nothing can be undone; 1 is kept; the text has no fault; racks of one place and of none.
    static void goneBack(Calls x) {
        x.tone(1, 0, 64);
        x.tone(77, 1, 5);
        x.put(0, 0, 0, 64, 30);
        for (int i = 1; i < 12; i++) x.cut(0, 30 + 5 * i);
        x.put(1, 0, 0, 64, 64);
        x.fade(1, 0, 32, 32);
        x.put(3, 1, 4, 1, 0);
        x.shift(3, -1);
        x.shut(1);
        x.keep(1);
        x.wipe(0, 0, 128);
        x.back(1);
        x.rack(0, 2, 1);
        x.hang(0, 0, 2, 99);
        x.rack(1, 0, 0);
        Checks.write(x, "put 2 1 0 5 123;shut 2");
    }

    static void behindText(Calls x) {
        x.tone(9, 9, 9);
        x.keep(0);
        x.keep(1);
        x.rack(0, 0, 8);
        Checks.house(x, "tone 3 3 33;put 0 0 0 9 0;put 0 1 0 33 9;gain 0 1 4;fade 0 1 33 0;shift 0-16;shut 3");
    }

    private States() {
    }
}
