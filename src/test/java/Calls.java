// The calls of the document's face, so that one look serves the class and the model alike.
interface Calls {
    int write(int letter);
    int erase();
    int fault();
    int house();
    int sound(int sound, int what, int i);
    int span(int track, int span, int what);
    int tone(int a, int b, int n);
    int put(int track, int sound, int f, int m, int t);
    int fade(int track, int span, int in, int out);
    int gain(int track, int span, int gain);
    int wipe(int track, int from, int to);
    int cut(int track, int moment);
    int move(int track, int span, int t);
    int shift(int track, int n);
    int shut(int track);
    int bounce(int t, int n);
    int undo(int track);
    int keep(int k);
    int back(int k);
    int heard(int moment);
    long exact(int moment);
    long sum(int t, int u);
    int played(int track, int moment);
    int covers(int track, int m, int t);
    int rack(int rack, int sort, int n);
    int hang(int rack, int i, int sort, int v);
    int take(int rack, int i);
    int likeness(int rack, int other);
    int pass(int rack, int other);
    int drop(int rack);
    int count(int what);
}
