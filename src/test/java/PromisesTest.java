// For each promise of the document: ordinary inputs, the edges that it names, wrong inputs and which refusal is first.
public final class PromisesTest {
    private static final int UNKNOWN = -2000000001;
    private static final int OUTSIDE = -2000000002;
    private static final int NOT = -2000000003;
    private static final int FULL = -2000000004;
    private static final int NULL = -2000000011;
    private static final int SIZE = -2000000012;
    private static final int INDEX = -2000000013;
    private static final int STORE = -2000000014;
    private static final int EMPTY = -2000000015;
    private static final int LEAST = Integer.MIN_VALUE;
    private static final int MOST = Integer.MAX_VALUE;

    private static int wrong = 0;
    private static int promise = 0;
    private static int looks = 0;

    private static void due(String call, long got, long want) {
        looks++;
        if (got != want) {
            wrong++;
            System.out.println("promise " + promise + ": " + call + " answered " + got + ", due is " + want);
        }
    }

    private static void write(House x, String text) {
        for (int i = 0; i < text.length(); i++) {
            x.write(text.charAt(i));
        }
    }

    private static void dueFault(House x, String text, int want) {
        x.erase();
        write(x, text);
        due("fault() of '" + text + "'", x.fault(), want);
        due("letters of '" + text + "' behind fault()", x.count(17), text.length());
    }

    private static int house(House x, String text) {
        x.erase();
        write(x, text);
        return x.house();
    }

    private static House told(String text) {
        House x = new House();
        if (house(x, text) < 0) {
            wrong++;
            System.out.println("promise " + promise + ": '" + text + "' has a fault");
        }
        return x;
    }

    // Every span as sound f m t gain in out, spans behind a bar each.
    private static String spans(House x, int track) {
        StringBuilder all = new StringBuilder();
        for (int i = 0; i < x.count(1 + track); i++) {
            all.append(i == 0 ? "" : "|");
            for (int what = 0; what < 7; what++) {
                all.append(what == 0 ? "" : " ").append(x.span(track, i, what));
            }
        }
        return all.toString();
    }

    private static void dueSpans(House x, int track, String want) {
        looks++;
        String got = spans(x, track);
        if (!got.equals(want)) {
            wrong++;
            System.out.println("promise " + promise + ": track " + track + " has " + got + ", due is " + want);
        }
    }

    private static float level(House x, int moment) {
        return Float.intBitsToFloat((int) x.exact(moment));
    }

    // 12 spans of 2 moments with a gap of 1 behind each: 0 1, 3 4, .. 33 34.
    private static House twelve() {
        House x = told("tone 1 0 64");
        for (int i = 0; i < 12; i++) {
            due("put of twelve", x.put(0, 0, 0, 2, 3 * i), i + 1);
        }
        return x;
    }

    private static void aNewObject() {
        House x = new House();
        for (int what = 0; what <= 21; what++) {
            due("count(" + what + ")", x.count(what), what == 7 ? 128 : what >= 18 ? 100 : 0);
        }
        for (int t = 0; t < 4; t++) {
            due("span", x.span(t, 0, 0), UNKNOWN);
            due("undo", x.undo(t), NOT);
        }
        for (int m = 0; m < 128; m++) {
            due("exact", x.exact(m), 0);
        }
        for (int r = 0; r < 3; r++) {
            due("drop", x.drop(r), NULL);
        }
        due("back(0)", x.back(0), NOT);
        due("back(1)", x.back(1), NOT);
        House y = new House();
        x.tone(1, 1, 1);
        x.shut(0);
        x.rack(0, 0, 1);
        due("another object's sounds", y.count(0), 0);
        due("another object's shut tracks", y.count(5), 0);
        due("another object's rack", y.drop(0), NULL);
    }

    private static void writes() {
        House x = new House();
        due("write(-1)", x.write(-1), OUTSIDE);
        due("write(256)", x.write(256), OUTSIDE);
        due("write(least)", x.write(LEAST), OUTSIDE);
        due("count(17)", x.count(17), 0);
        due("write(0)", x.write(0), 1);
        due("write(255)", x.write(255), 2);
        for (int i = 3; i <= 200; i++) {
            due("write(32)", x.write(32), i);
        }
        due("write(32), the 201st", x.write(32), FULL);
        due("write(256), the 201st", x.write(256), OUTSIDE);
        due("count(17)", x.count(17), 200);
        due("fault()", x.fault(), 0);
        due("erase()", x.erase(), 200);
        due("write(32)", x.write(32), 1);
    }

    private static void erases() {
        House x = new House();
        due("erase()", x.erase(), 0);
        write(x, "tone 1 1 1");
        due("erase()", x.erase(), 10);
        due("count(17)", x.count(17), 0);
        due("erase()", x.erase(), 0);
        due("house()", x.house(), NOT);
        due("count(0)", x.count(0), 0);
        x.tone(1, 1, 1);
        write(x, "house");
        due("erase()", x.erase(), 5);
        due("count(0)", x.count(0), 1);
    }

    private static void faultsOfForm() {
        dueFault(new House(), "", 0);
        dueFault(new House(), "   ", 3);
        dueFault(new House(), "house", -1);
        dueFault(new House(), "  house  ", -1);
        dueFault(new House(), "house;", 6);
        dueFault(new House(), "house ; ", 8);
        dueFault(new House(), ";house", 0);
        dueFault(new House(), " ;", 1);
        dueFault(new House(), "house;;house", 6);
        dueFault(new House(), "house house", 6);
        dueFault(new House(), "househouse", 0);
        dueFault(new House(), "hous", 0);
        dueFault(new House(), "houses", 0);
        dueFault(new House(), "housez", 0);
        dueFault(new House(), "ahouse", 0);
        dueFault(new House(), "house{", 5);
        dueFault(new House(), "house`", 5);
        dueFault(new House(), "tone 1 1 1:", 10);
        dueFault(new House(), "tone 1 1 1/", 10);
        dueFault(new House(), "hou se", 0);
        dueFault(new House(), "House", 0);
        dueFault(new House(), "house.", 5);
        dueFault(new House(), "house\t", 5);
        dueFault(new House(), "house\n;house", 5);
        dueFault(new House(), "house" + (char) 255, 5);
        dueFault(new House(), (char) 0 + "house", 0);
        dueFault(new House(), "1", 0);
        dueFault(new House(), "house 1", 6);
        dueFault(new House(), "reel 1", 0);
        dueFault(new House(), "cut 1 1", 0);
        dueFault(new House(), "tone", 4);
        dueFault(new House(), "tone ", 5);
        dueFault(new House(), "tone 1;", 6);
        dueFault(new House(), "tone a 1 1", 5);
        dueFault(new House(), "tone -1 1 1", 5);
        dueFault(new House(), "tone 1,1 1", 6);
        dueFault(new House(), "tone1 1 1", -1);
        dueFault(new House(), "tone1 1 1;shut0;shift0-16;house", -1);
        dueFault(new House(), "tone 1 1 1 1", 11);
        dueFault(new House(), "tone 1 1 1house", 10);
        dueFault(new House(), "tone 001 000 064", -1);
        dueFault(new House(), "tone 0001 1 1", 5);
        dueFault(new House(), "tone 1 1 0001", 9);
        dueFault(new House(), "tone 1 1 99999999999999999999999", 9);
        dueFault(new House(), "tone 11 1", 9);
        StringBuilder many = new StringBuilder("shut 0");
        for (int i = 1; i < 24; i++) {
            many.append(";shut 0");
        }
        dueFault(new House(), many.toString(), -1);
        dueFault(new House(), many + "  ", -1);
        dueFault(new House(), many + ";", 167);
        dueFault(new House(), many + " ; shut 0", 168);
        dueFault(new House(), many + " shut 0", 168);
    }

    private static void faultsOfBounds() {
        dueFault(new House(), "tone 200 200 64", -1);
        dueFault(new House(), "tone 201 1 1", 5);
        dueFault(new House(), "tone 1 201 1", 7);
        dueFault(new House(), "tone 1 1 65", 9);
        dueFault(new House(), "tone 1 1 0", 9);
        dueFault(new House(), "tone 0 0 1", -1);
        dueFault(new House(), "put 0 0 0 1 0", 6);
        dueFault(new House(), "tone 1 1 5;put 3 0 4 1 127", -1);
        dueFault(new House(), "tone 1 1 5;put 4 0 4 1 127", 15);
        dueFault(new House(), "tone 1 1 5;put 3 1 4 1 127", 17);
        dueFault(new House(), "tone 1 1 5;put 3 0 5 1 127", 19);
        dueFault(new House(), "tone 1 1 5;put 3 0 4 2 126", 21);
        dueFault(new House(), "tone 1 1 5;put 3 0 4 0 127", 21);
        dueFault(new House(), "tone 1 1 5;put 3 0 0 5 123", -1);
        dueFault(new House(), "tone 1 1 5;put 3 0 0 5 124", 23);
        dueFault(new House(), "tone 1 1 5;put 3 0 0 5", 22);
        dueFault(new House(), "tone 1 1 64;put 0 0 0 64 64", -1);
        dueFault(new House(), "tone 1 1 64;put 0 0 0 64 65", 25);
        dueFault(new House(), "tone 1 1 5;house;put 0 0 0 1 0", 23);
        dueFault(new House(), "tone 1 1 5;tone 1 1 9;put 0 1 8 1 0", -1);
        dueFault(new House(), "tone 1 1 5;tone 1 1 9;put 0 0 8 1 0", 30);
        dueFault(new House(), "put 0 0 0 1 0;tone 1 1 5", 6);
        dueFault(new House(), "fade 3 11 64 64", -1);
        dueFault(new House(), "fade 4 11 64 64", 5);
        dueFault(new House(), "fade 3 12 64 64", 7);
        dueFault(new House(), "fade 3 11 65 64", 10);
        dueFault(new House(), "fade 3 11 64 65", 13);
        dueFault(new House(), "gain 3 11 16", -1);
        dueFault(new House(), "gain 4 11 16", 5);
        dueFault(new House(), "gain 3 12 16", 7);
        dueFault(new House(), "gain 3 11 17", 10);
        dueFault(new House(), "gain 3 11 -1", 10);
        dueFault(new House(), "shift 3 16", -1);
        dueFault(new House(), "shift 3 17", 8);
        dueFault(new House(), "shift 3 -16", -1);
        dueFault(new House(), "shift 3-16", -1);
        dueFault(new House(), "shift 3 - 17", 10);
        dueFault(new House(), "shift 3 - 0", -1);
        dueFault(new House(), "shift 3 --1", 9);
        dueFault(new House(), "shift 3 -", 9);
        dueFault(new House(), "shift 3 +1", 8);
        dueFault(new House(), "shift -3 1", 6);
        dueFault(new House(), "shift 4 1", 6);
        dueFault(new House(), "shut 3", -1);
        dueFault(new House(), "shut 4", 5);
        dueFault(new House(), "shut", 4);
        dueFault(new House(), "house;tone 1 1 1;tone 1 1 1;tone 1 1 1;tone 1 1 1;tone 1 1 1;tone 1 1 1", -1);
        dueFault(new House(), "house;tone 1 1 1;tone 1 1 1;tone 1 1 1;tone 1 1 1;tone 1 1 1;tone 1 1 1;tone", 72);
    }

    private static void faultsWithWhatThereIs() {
        String four = "tone 1 1 5;tone 1 1 7;tone 1 1 9;tone 1 1 1";
        dueFault(told(four), "put 0 1 6 1 0", -1);
        dueFault(told(four), "put 0 1 7 1 0", 8);
        dueFault(told(four), "put 0 4 0 1 0", 6);
        dueFault(told(four), "tone 1 1 3;put 0 4 2 1 0", -1);
        dueFault(told(four), "tone 1 1 1;tone 1 1 1", -1);
        dueFault(told(four), "tone 1 1 1;tone 1 1 1;tone 1 1 1", 22);
        dueFault(told(four), "tone 1 1 1;tone 1 1 1;house;tone 1 1 1", -1);
        House x = told(four);
        dueFault(x, "house;put 0 0 0 1 0", 12);
        due("count(0)", x.count(0), 4);
        for (int s = 0; s < 6; s++) {
            House y = new House();
            for (int i = 0; i <= s; i++) {
                due("a sound not by text", i % 2 == 0 ? y.tone(1, 1, 10 * i + 1) : y.bounce(0, 10 * i + 1), i);
            }
            dueFault(y, "put 0 " + s + " " + 10 * s + " 1 0", -1);
            dueFault(y, "put 0 " + s + " 0 " + (10 * s + 1) + " 0", -1);
            dueFault(y, "put 0 " + s + " " + (10 * s + 1) + " 1 0", 8);
            dueFault(y, "put 0 " + s + " 0 " + (10 * s + 2) + " 0", 10);
            dueFault(y, "put 0 " + (s + 1) + " 0 1 0", 6);
        }
        x = new House();
        for (int i = 0; i < 6; i++) {
            x.tone(1, 1, 51);
        }
        dueFault(x, "tone 1 1 1", 0);
        dueFault(x, "shut 0;put 0 5 50 1 0;tone 1 1 1", 22);
    }

    private static void houses() {
        House x = new House();
        due("house() of nothing", x.house(), NOT);
        due("house()", house(x, "tone 7 3 40;put 1 0 2 10 20;fade 1 0 4 3;gain 1 0 12;shift 1 - 5;shut 1"), 6);
        due("count(17)", x.count(17), 0);
        dueSpans(x, 1, "0 2 10 20 12 4 3");
        due("count(19)", x.count(19), 95);
        due("count(5)", x.count(5), 2);
        due("what there was stays", house(x, "tone 1 0 5;put 0 1 0 5 0;put 1 0 0 1 0;shut 1"), 4);
        due("count(0)", x.count(0), 2);
        due("shut stays shut", x.count(5), 2);
        due("count(19)", x.count(19), 95);
        dueSpans(x, 0, "1 0 5 0 8 0 0");
        dueSpans(x, 1, "0 0 1 0 8 0 0|0 2 10 20 12 4 3");
        due("with a fault", house(x, "house;tone 1 1 1;shut 4"), NOT);
        due("nothing is done then", x.count(0), 2);
        due("the text stays", x.count(17), 23);
        due("shift above 0", house(x, "shift 1 16"), 1);
        due("count(19)", x.count(19), 116);
        due("in their order", house(x, "tone 1 1 1;house;tone 9 9 9;house;tone 0 50 2"), 5);
        due("count(0)", x.count(0), 1);
        due("sound(0, 0, 0)", x.sound(0, 0, 0), 2);
        due("sound(0, 1, 1)", x.sound(0, 1, 1), -800);
        dueSpans(x, 0, "");
        dueSpans(x, 1, "");
        due("count(5)", x.count(5), 0);
        due("count(19)", x.count(19), 100);
    }

    private static void housesThatDoNothing() {
        House x = told("tone 1 1 9;put 0 0 0 9 0;fade 0 0 4 5");
        due("no span 1", house(x, "fade 0 1 1 1;gain 0 1 3;fade 1 0 0 0;gain 3 11 0"), 4);
        dueSpans(x, 0, "0 0 9 0 8 4 5");
        due("too much", house(x, "fade 0 0 5 5;fade 0 0 64 0;fade 0 0 0 10"), 3);
        dueSpans(x, 0, "0 0 9 0 8 4 5");
        due("all of it", house(x, "fade 0 0 9 0;gain 0 0 16"), 2);
        dueSpans(x, 0, "0 0 9 0 16 9 0");
        x = twelve();
        due("a put too many", house(x, "put 0 0 0 1 127;put 0 0 1 2 3;put 0 0 9 1 4;put 1 0 0 1 127"), 4);
        due("count(1)", x.count(1), 12);
        due("span(0, 11, 3)", x.span(0, 11, 3), 33);
        due("span(0, 1, 1)", x.span(0, 1, 1), 1);
        due("span(0, 2, 3)", x.span(0, 2, 3), 6);
        due("count(2)", x.count(2), 1);
    }

    private static void housesForget() {
        House x = told("tone 1 1 9;put 0 0 0 9 0");
        due("count(13)", x.count(13), 0);
        x.shift(0, 3);
        x.gain(0, 0, 1);
        x.keep(0);
        x.keep(1);
        x.rack(0, 0, 2);
        x.hang(0, 0, 1, 5);
        x.rack(2, 0, 0);
        due("a fault forgets nothing", house(x, "shut 4"), NOT);
        due("count(13)", x.count(13), 2);
        due("count(12)", x.count(12), 1);
        due("house()", house(x, "shut 3"), 1);
        due("count(13)", x.count(13), 0);
        due("undo(0)", x.undo(0), NOT);
        due("back(0)", x.back(0), NOT);
        due("back(1)", x.back(1), NOT);
        due("count(12)", x.count(12), 0);
        due("drop(0)", x.drop(0), NULL);
        due("drop(2)", x.drop(2), NULL);
        due("count(18)", x.count(18), 103);
        due("span(0, 0, 4)", x.span(0, 0, 4), 1);
        due("keep(1)", x.keep(1), 1);
        due("back(1)", x.back(1), 1);
    }

    private static void sounds() {
        House x = told("tone 50 3 6;put 0 0 0 6 0;put 1 0 2 2 9;put 1 0 3 3 20;put 2 0 3 1 127;shut 2");
        due("what 0", x.sound(0, 0, 0), 6);
        due("what 0, i far off", x.sound(0, 0, MOST), 6);
        int[] floats = {-97, -47, 3, 53, -98, -48};
        int[] times = {1, 1, 2, 4, 2, 2};
        for (int i = 0; i < 6; i++) {
            due("what 1, " + i, x.sound(0, 1, i), floats[i] * 16);
            due("what 2, " + i, x.sound(0, 2, i), Float.floatToIntBits(floats[i]));
            due("what 3, " + i, x.sound(0, 3, i), times[i]);
        }
        for (int what = 1; what <= 3; what++) {
            due("i 6", x.sound(0, what, 6), OUTSIDE);
            due("i -1", x.sound(0, what, -1), OUTSIDE);
            due("i least", x.sound(0, what, LEAST), OUTSIDE);
            due("sound 1", x.sound(1, what, 0), UNKNOWN);
        }
        due("what 4", x.sound(0, 4, 0), OUTSIDE);
        due("what -1", x.sound(0, -1, 0), OUTSIDE);
        due("sound ahead of what", x.sound(1, 4, 9), UNKNOWN);
        due("sound -1", x.sound(-1, 0, 0), UNKNOWN);
        due("sound 6", x.sound(6, 0, 0), UNKNOWN);
        due("a second one", x.tone(0, 100, 1), 1);
        due("its bits", x.sound(1, 2, 0), 0);
        due("its times", x.sound(1, 3, 0), 0);
        x.put(0, 1, 0, 1, 3);
        due("fewer times", x.sound(0, 3, 3), 3);
        due("as many", x.sound(0, 3, 4), 2);
        due("its times", x.sound(1, 3, 0), 1);
    }

    private static void bouncedSoundIsCut() {
        House x = told("tone 0 87 1;put 0 0 0 1 5;gain 0 0 1");
        due("fade", x.fade(0, 0, 1, 0), 0);
        due("bounce", x.bounce(5, 1), 1);
        due("-13 / 8 / 2 times 16", x.sound(1, 1, 0), -13);
        x.fade(0, 0, 0, 0);
        x.put(0, 0, 0, 1, 6);
        x.gain(0, 1, 5);
        x.fade(0, 1, 1, 0);
        x.bounce(6, 1);
        due("-13 * 5 / 8 / 2 times 16", x.sound(2, 1, 0), -65);
        x = told("tone 0 87 9;put 0 0 0 9 0;gain 0 0 1;fade 0 0 5 3");
        x.bounce(0, 9);
        due("-13 / 8 / 6 times 16 = -4.33", x.sound(1, 1, 0), -4);
        due("-13 / 8 / 4 times 16 = -6.5", x.sound(1, 1, 8), -6);
    }

    private static void spansTold() {
        House x = told("tone 1 0 9;tone 1 0 20;put 2 1 3 9 40;gain 2 0 5;fade 2 0 2 6;put 2 0 1 2 7");
        int[] first = {0, 1, 2, 7, 8, 0, 0};
        int[] second = {1, 3, 9, 40, 5, 2, 6};
        for (int what = 0; what < 7; what++) {
            due("first, " + what, x.span(2, 0, what), first[what]);
            due("second, " + what, x.span(2, 1, what), second[what]);
        }
        due("what 7", x.span(2, 0, 7), OUTSIDE);
        due("what -1", x.span(2, 0, -1), OUTSIDE);
        due("span 2", x.span(2, 2, 0), UNKNOWN);
        due("span 2, what 7", x.span(2, 2, 7), UNKNOWN);
        due("span -1", x.span(2, -1, 0), UNKNOWN);
        due("track 4", x.span(4, 0, 0), UNKNOWN);
        due("track -1", x.span(-1, 0, 9), UNKNOWN);
        due("track 0", x.span(0, 0, 0), UNKNOWN);
    }

    private static void tones() {
        House x = new House();
        due("tone(-1, 0, 1)", x.tone(-1, 0, 1), OUTSIDE);
        due("tone(201, 0, 1)", x.tone(201, 0, 1), OUTSIDE);
        due("tone(0, -1, 1)", x.tone(0, -1, 1), OUTSIDE);
        due("tone(0, 201, 1)", x.tone(0, 201, 1), OUTSIDE);
        due("tone(0, 0, 0)", x.tone(0, 0, 0), OUTSIDE);
        due("tone(0, 0, 65)", x.tone(0, 0, 65), OUTSIDE);
        due("tone(0, 0, least)", x.tone(0, 0, LEAST), OUTSIDE);
        due("tone(200, 200, 64)", x.tone(200, 200, 64), 0);
        for (int i = 0; i < 64; i++) {
            due("float " + i, x.sound(0, 1, i), ((200 * i + 200) % 201 - 100) * 16);
        }
        due("tone(0, 0, 1)", x.tone(0, 0, 1), 1);
        due("sound(1, 1, 0)", x.sound(1, 1, 0), -1600);
        due("tone(0, 200, 1)", x.tone(0, 200, 1), 2);
        due("sound(2, 1, 0)", x.sound(2, 1, 0), 1600);
        due("tone(13, 5, 3)", x.tone(13, 5, 3), 3);
        due("tone(13, 5, 3)", x.tone(13, 5, 3), 4);
        due("tone(13, 5, 3)", x.tone(13, 5, 3), 5);
        due("tone(13, 5, 3)", x.tone(13, 5, 3), FULL);
        due("tone(13, 5, 0)", x.tone(13, 5, 0), OUTSIDE);
        due("count(0)", x.count(0), 6);
        due("sound(6, 0, 0)", x.sound(6, 0, 0), UNKNOWN);
    }

    private static void puts() {
        House x = told("tone 1 0 40;tone 1 0 64;put 0 0 0 40 10;fade 0 0 30 10;gain 0 0 3");
        due("in the midst", x.put(0, 1, 20, 5, 20), 3);
        dueSpans(x, 0, "0 0 10 10 3 10 0|1 20 5 20 8 0 0|0 15 25 25 3 0 10");
        due("over an end and a beginning", x.put(0, 1, 0, 10, 17), 3);
        dueSpans(x, 0, "0 0 7 10 3 7 0|1 0 10 17 8 0 0|0 17 23 27 3 0 10");
        due("all but 3 of the last", x.put(0, 1, 0, 20, 27), 4);
        dueSpans(x, 0, "0 0 7 10 3 7 0|1 0 10 17 8 0 0|1 0 20 27 8 0 0|0 37 3 47 3 0 3");
        due("just under it", x.put(0, 1, 1, 10, 17), 4);
        dueSpans(x, 0, "0 0 7 10 3 7 0|1 1 10 17 8 0 0|1 0 20 27 8 0 0|0 37 3 47 3 0 3");
        due("beside", x.put(0, 1, 2, 2, 8), 5);
        due("beside", x.put(0, 1, 2, 2, 50), 6);
        dueSpans(x, 0, "1 2 2 8 8 0 0|0 0 7 10 3 7 0|1 1 10 17 8 0 0|1 0 20 27 8 0 0|0 37 3 47 3 0 3|1 2 2 50 8 0 0");
        due("over all", x.put(0, 1, 0, 64, 0), 1);
        dueSpans(x, 0, "1 0 64 0 8 0 0");
        due("other tracks", x.count(2) + x.count(3) + x.count(4), 0);
        due("at the end", x.put(3, 1, 0, 64, 64), 1);
        due("the last moment", x.put(3, 1, 63, 1, 127), 2);
        dueSpans(x, 3, "1 0 63 64 8 0 0|1 63 1 127 8 0 0");
        due("the first", x.put(3, 1, 63, 1, 0), 3);
    }

    private static void putsRefused() {
        House x = told("tone 1 0 40;tone 1 0 64");
        due("track 4", x.put(4, 0, 0, 1, 0), UNKNOWN);
        due("track -1", x.put(-1, 0, -1, 1, 0), UNKNOWN);
        due("sound 2", x.put(0, 2, 0, 1, 0), UNKNOWN);
        due("sound 2, f", x.put(0, 2, -1, 1, 0), UNKNOWN);
        due("sound -1", x.put(0, -1, 0, 1, 0), UNKNOWN);
        due("f -1", x.put(0, 0, -1, 1, 0), OUTSIDE);
        due("f 40", x.put(0, 0, 40, 1, 0), OUTSIDE);
        due("f 39, m 2", x.put(0, 0, 39, 2, 0), OUTSIDE);
        due("f most", x.put(0, 0, MOST, 1, 0), OUTSIDE);
        due("m 0", x.put(0, 0, 0, 0, 0), OUTSIDE);
        due("m 41", x.put(0, 0, 0, 41, 0), OUTSIDE);
        due("m 65", x.put(0, 1, 0, 65, 0), OUTSIDE);
        due("m most", x.put(0, 1, 1, MOST, 0), OUTSIDE);
        due("m -1", x.put(0, 0, 0, -1, 0), OUTSIDE);
        due("t -1", x.put(0, 0, 0, 1, -1), OUTSIDE);
        due("t 128", x.put(0, 0, 0, 1, 128), OUTSIDE);
        due("t 127, m 2", x.put(0, 0, 0, 2, 127), OUTSIDE);
        due("t most", x.put(0, 0, 0, 2, MOST), OUTSIDE);
        due("count(1)", x.count(1), 0);
        due("count(13)", x.count(13), 0);
        x = twelve();
        due("a 13th", x.put(0, 0, 0, 1, 127), NOT);
        due("a 13th, outside", x.put(0, 0, 0, 1, 128), OUTSIDE);
        due("nothing changed", x.span(0, 11, 3), 33);
        due("count(13)", x.count(13), 4);
        due("for another one", x.put(0, 0, 5, 2, 33), 12);
        due("a part of another one", x.put(0, 0, 5, 1, 34), NOT);
        due("from one to the next", x.put(0, 0, 5, 3, 1), NOT);
        due("over one, and into the next", x.put(0, 0, 5, 4, 0), 12);
        dueSpanNumbers(x, 1, 1, 1, 4);
        due("span 0", x.span(0, 0, 2), 4);
        x = told("tone 1 0 64;put 1 0 0 64 0");
        for (int i = 1; i < 6; i++) {
            due("two more", x.put(1, 0, 0, 1, 4 * i), 2 * i + 1);
        }
        due("the twelfth", x.put(1, 0, 0, 1, 100), 12);
        due("one more", x.put(1, 0, 0, 1, 63), NOT);
        due("two more", x.put(1, 0, 0, 1, 50), NOT);
        due("count(2)", x.count(2), 12);
    }

    private static void dueSpanNumbers(House x, int span, int f, int m, int t) {
        due("f", x.span(0, span, 1), f);
        due("m", x.span(0, span, 2), m);
        due("t", x.span(0, span, 3), t);
    }

    private static void fades() {
        House x = told("tone 1 0 40;put 1 0 0 40 10;put 1 0 0 9 60");
        due("fade(1, 1, 4, 5)", x.fade(1, 1, 4, 5), 0);
        due("fade(1, 1, 9, 0)", x.fade(1, 1, 9, 0), 4);
        due("fade(1, 1, 0, 9)", x.fade(1, 1, 0, 9), 9);
        due("fade(1, 1, 1, 9)", x.fade(1, 1, 1, 9), OUTSIDE);
        due("fade(1, 1, 10, 0)", x.fade(1, 1, 10, 0), OUTSIDE);
        due("fade(1, 1, -1, 0)", x.fade(1, 1, -1, 0), OUTSIDE);
        due("fade(1, 1, 0, -1)", x.fade(1, 1, 0, -1), OUTSIDE);
        due("fade(1, 1, 10, -1)", x.fade(1, 1, 10, -1), OUTSIDE);
        due("fade(1, 1, most, most)", x.fade(1, 1, MOST, MOST), OUTSIDE);
        due("fade(1, 1, least, least)", x.fade(1, 1, LEAST, LEAST), OUTSIDE);
        due("fade(1, 2, 0, -1)", x.fade(1, 2, 0, -1), UNKNOWN);
        due("fade(0, 0, 0, 0)", x.fade(0, 0, 0, 0), UNKNOWN);
        due("fade(4, 0, 0, 0)", x.fade(4, 0, 0, 0), UNKNOWN);
        due("fade(-1, 0, 0, 0)", x.fade(-1, 0, 0, 0), UNKNOWN);
        due("fade(1, -1, 0, 0)", x.fade(1, -1, 0, 0), UNKNOWN);
        dueSpans(x, 1, "0 0 40 10 8 0 0|0 0 9 60 8 0 9");
        due("count(14)", x.count(14), 3);
    }

    private static void gains() {
        House x = told("tone 1 0 40;put 3 0 0 40 10;put 3 0 0 9 60;fade 3 1 2 3");
        due("gain(3, 1, 16)", x.gain(3, 1, 16), 8);
        due("gain(3, 1, 0)", x.gain(3, 1, 0), 16);
        due("gain(3, 1, 17)", x.gain(3, 1, 17), OUTSIDE);
        due("gain(3, 1, -1)", x.gain(3, 1, -1), OUTSIDE);
        due("gain(3, 2, 17)", x.gain(3, 2, 17), UNKNOWN);
        due("gain(3, -1, 1)", x.gain(3, -1, 1), UNKNOWN);
        due("gain(4, 0, 1)", x.gain(4, 0, 1), UNKNOWN);
        due("gain(-1, 0, 1)", x.gain(-1, 0, 1), UNKNOWN);
        dueSpans(x, 3, "0 0 40 10 8 0 0|0 0 9 60 0 2 3");
        due("count(16)", x.count(16), 2);
    }

    private static void wipes() {
        House x = told("tone 1 0 40;put 0 0 0 40 10;fade 0 0 30 10;gain 0 0 3;put 0 0 0 5 60");
        due("from one to itself", x.wipe(0, 20, 20), 2);
        dueSpans(x, 0, "0 0 40 10 3 30 10|0 0 5 60 8 0 0");
        due("in the midst", x.wipe(0, 20, 21), 3);
        dueSpans(x, 0, "0 0 10 10 3 10 0|0 11 29 21 3 0 10|0 0 5 60 8 0 0");
        due("an end", x.wipe(0, 45, 60), 3);
        dueSpans(x, 0, "0 0 10 10 3 10 0|0 11 24 21 3 0 0|0 0 5 60 8 0 0");
        due("a beginning", x.wipe(0, 0, 12), 3);
        dueSpans(x, 0, "0 2 8 12 3 0 0|0 11 24 21 3 0 0|0 0 5 60 8 0 0");
        due("where nothing is", x.wipe(0, 65, 128), 3);
        due("two of them", x.wipe(0, 12, 45), 1);
        dueSpans(x, 0, "0 0 5 60 8 0 0");
        due("all", x.wipe(0, 0, 128), 0);
        due("wipe(0, 127, 128)", x.wipe(0, 127, 128), 0);
        due("wipe(0, 127, 127)", x.wipe(0, 127, 127), 0);
        due("wipe(0, 0, 0)", x.wipe(0, 0, 0), 0);
        due("wipe(0, 128, 128)", x.wipe(0, 128, 128), OUTSIDE);
        due("wipe(0, -1, 3)", x.wipe(0, -1, 3), OUTSIDE);
        due("wipe(0, 0, 129)", x.wipe(0, 0, 129), OUTSIDE);
        due("wipe(0, 5, 4)", x.wipe(0, 5, 4), OUTSIDE);
        due("wipe(0, 0, -1)", x.wipe(0, 0, -1), OUTSIDE);
        due("wipe(4, 5, 4)", x.wipe(4, 5, 4), UNKNOWN);
        due("wipe(-1, 0, 1)", x.wipe(-1, 0, 1), UNKNOWN);
        x = twelve();
        x.wipe(0, 33, 35);
        x.put(0, 0, 0, 3, 33);
        due("a 13th", x.wipe(0, 34, 35), NOT);
        due("count(1)", x.count(1), 12);
        due("nothing changed", x.span(0, 11, 2), 3);
        due("an end", x.wipe(0, 35, 36), 12);
        due("a whole one", x.wipe(0, 33, 35), 11);
    }

    private static void cuts() {
        House x = told("tone 1 0 40;put 2 0 3 20 10;fade 2 0 12 8;gain 2 0 3;put 2 0 0 5 30");
        due("cut(2, 10)", x.cut(2, 10), NOT);
        due("cut(2, 30)", x.cut(2, 30), NOT);
        due("cut(2, 35)", x.cut(2, 35), NOT);
        due("cut(2, 9)", x.cut(2, 9), NOT);
        due("cut(2, 127)", x.cut(2, 127), NOT);
        due("cut(2, 1)", x.cut(2, 1), NOT);
        due("cut(2, 0)", x.cut(2, 0), OUTSIDE);
        due("cut(2, 128)", x.cut(2, 128), OUTSIDE);
        due("cut(2, -5)", x.cut(2, -5), OUTSIDE);
        due("cut(4, 0)", x.cut(4, 0), UNKNOWN);
        due("cut(-1, 1)", x.cut(-1, 1), UNKNOWN);
        due("cut(2, 25)", x.cut(2, 25), 3);
        dueSpans(x, 2, "0 3 15 10 3 12 0|0 18 5 25 3 0 5|0 0 5 30 8 0 0");
        due("cut(2, 25)", x.cut(2, 25), NOT);
        due("cut(2, 11)", x.cut(2, 11), 4);
        dueSpans(x, 2, "0 3 1 10 3 1 0|0 4 14 11 3 0 0|0 18 5 25 3 0 5|0 0 5 30 8 0 0");
        due("cut(2, 34)", x.cut(2, 34), 5);
        due("count(15)", x.count(15), 3);
        x = told("tone 1 0 40;put 0 0 0 40 0");
        for (int i = 1; i < 12; i++) {
            due("cut(0, " + i + ")", x.cut(0, i), i + 1);
        }
        due("there are 12", x.cut(0, 20), NOT);
        due("count(1)", x.count(1), 12);
        due("nothing is heard otherwise", x.heard(39), (39 - 100) * 16);
    }

    private static void moves() {
        House x = told("tone 1 0 40;put 1 0 3 20 10;fade 1 0 12 8;gain 1 0 3;put 1 0 0 5 30");
        due("over a part of its own place", x.move(1, 0, 8), 2);
        dueSpans(x, 1, "0 3 20 8 3 12 8|0 0 5 30 8 0 0");
        due("to its own place", x.move(1, 0, 8), 2);
        dueSpans(x, 1, "0 3 20 8 3 12 8|0 0 5 30 8 0 0");
        due("behind another one", x.move(1, 0, 34), 2);
        dueSpans(x, 1, "0 0 4 30 8 0 0|0 3 20 34 3 12 8");
        due("into another one", x.move(1, 0, 40), 3);
        dueSpans(x, 1, "0 3 6 34 3 6 0|0 0 4 40 8 0 0|0 13 10 44 3 0 8");
        due("over another one", x.move(1, 2, 31), 2);
        dueSpans(x, 1, "0 13 10 31 3 0 8|0 1 3 41 8 0 0");
        due("to the end", x.move(1, 0, 118), 2);
        due("too far", x.move(1, 1, 119), OUTSIDE);
        due("t most", x.move(1, 1, MOST), OUTSIDE);
        due("t -1", x.move(1, 1, -1), OUTSIDE);
        due("to the beginning", x.move(1, 1, 0), 2);
        dueSpans(x, 1, "0 13 10 0 3 0 8|0 1 3 41 8 0 0");
        due("span 2", x.move(1, 2, -1), UNKNOWN);
        due("span -1", x.move(1, -1, 0), UNKNOWN);
        due("track 0", x.move(0, 0, 0), UNKNOWN);
        due("track 4", x.move(4, 0, 0), UNKNOWN);
        due("track -1", x.move(-1, 0, 0), UNKNOWN);
        x = twelve();
        x.wipe(0, 33, 35);
        x.put(0, 0, 0, 3, 33);
        x.put(0, 0, 0, 1, 0);
        x.wipe(0, 1, 2);
        due("12 spans", x.count(1), 12);
        due("a 13th", x.move(0, 0, 34), NOT);
        dueSpanNumbers(x, 0, 0, 1, 0);
        dueSpanNumbers(x, 11, 0, 3, 33);
        due("count(13)", x.count(13), 4);
        due("12 again", x.move(0, 0, 35), 12);
        due("span 11", x.span(0, 11, 3), 35);
        due("span 10", x.span(0, 10, 2), 2);
    }

    private static void shifts() {
        House x = told("tone 0 150 40;put 1 0 0 10 0;put 2 0 0 1 127");
        due("shift(1, 16)", x.shift(1, 16), 0);
        due("count(19)", x.count(19), 116);
        due("heard(15)", x.heard(15), 0);
        due("heard(16)", x.heard(16), 800);
        due("heard(25)", x.heard(25), 800);
        due("heard(26)", x.heard(26), 0);
        due("played(1, 0)", x.played(1, 0), 800);
        due("shift(1, -16)", x.shift(1, -16), 16);
        due("heard(0)", x.heard(0), 0);
        due("shift(1, -4)", x.shift(1, -4), -16);
        due("heard(0)", x.heard(0), 800);
        due("heard(5)", x.heard(5), 800);
        due("heard(6)", x.heard(6), 0);
        due("shift(2, 1)", x.shift(2, 1), 0);
        due("heard(127)", x.heard(127), 0);
        due("shift(2, -1)", x.shift(2, -1), 1);
        due("heard(126)", x.heard(126), 800);
        due("shift(1, 17)", x.shift(1, 17), OUTSIDE);
        due("shift(1, -17)", x.shift(1, -17), OUTSIDE);
        due("shift(4, 17)", x.shift(4, 17), UNKNOWN);
        due("shift(-1, 0)", x.shift(-1, 0), UNKNOWN);
        due("count(19)", x.count(19), 96);
        due("count(20)", x.count(20), 99);
        due("count(14)", x.count(14), 3);
    }

    private static void shuts() {
        House x = told("tone 0 150 40;put 0 0 0 1 0;put 3 0 0 1 0");
        due("heard(0)", x.heard(0), 1600);
        due("shut(3)", x.shut(3), 1);
        due("heard(0)", x.heard(0), 800);
        due("shut(0)", x.shut(0), 1);
        due("heard(0)", x.heard(0), 0);
        due("played(0, 0)", x.played(0, 0), 800);
        due("count(5)", x.count(5), 9);
        due("shut(3)", x.shut(3), 0);
        due("count(5)", x.count(5), 1);
        due("shut(4)", x.shut(4), UNKNOWN);
        due("shut(-1)", x.shut(-1), UNKNOWN);
        due("it can't be undone", x.undo(3), NOT);
        x.shift(0, 1);
        x.shut(0);
        x.undo(0);
        due("undo leaves it", x.count(5), 0);
    }

    private static void bounces() {
        House x = told("tone 7 3 40;tone 33 9 40;put 0 0 0 40 10;fade 0 0 6 9;gain 0 0 5;put 1 1 3 30 0;shift 1 7");
        int[] bits = new int[64];
        for (int i = 0; i < 64; i++) {
            bits[i] = (int) x.exact(5 + i);
        }
        due("bounce(5, 64)", x.bounce(5, 64), 2);
        due("sound(2, 0, 0)", x.sound(2, 0, 0), 64);
        for (int i = 0; i < 64; i++) {
            due("its bits, " + i, x.sound(2, 2, i), bits[i]);
        }
        x.shut(0);
        x.shut(1);
        x.put(2, 2, 0, 64, 5);
        for (int i = 0; i < 64; i++) {
            due("it sounds alike, " + i, x.exact(5 + i), bits[i]);
        }
        due("bounce(127, 1)", x.bounce(127, 1), 3);
        due("bounce(128, 1)", x.bounce(128, 1), OUTSIDE);
        due("bounce(127, 2)", x.bounce(127, 2), OUTSIDE);
        due("bounce(-1, 2)", x.bounce(-1, 2), OUTSIDE);
        due("bounce(0, 0)", x.bounce(0, 0), OUTSIDE);
        due("bounce(0, 65)", x.bounce(0, 65), OUTSIDE);
        due("bounce(most, most)", x.bounce(MOST, MOST), OUTSIDE);
        due("bounce(64, 64)", x.bounce(64, 64), 4);
        due("bounce(0, 1)", x.bounce(0, 1), 5);
        due("bounce(0, 1)", x.bounce(0, 1), FULL);
        due("bounce(0, 0)", x.bounce(0, 0), OUTSIDE);
        due("count(0)", x.count(0), 6);
        due("no undo of it", x.count(13) + x.count(14), 0);
    }

    private static void undoes() {
        House x = told("tone 1 0 40;tone 1 0 40");
        due("undo(0)", x.undo(0), NOT);
        x.put(0, 0, 0, 40, 10);
        String[] was = new String[8];
        was[0] = spans(x, 0);
        x.fade(0, 0, 3, 4);
        was[1] = spans(x, 0);
        x.gain(0, 0, 5);
        was[2] = spans(x, 0);
        x.wipe(0, 20, 22);
        was[3] = spans(x, 0);
        x.cut(0, 30);
        was[4] = spans(x, 0);
        x.move(0, 0, 100);
        was[5] = spans(x, 0);
        x.shift(0, 5);
        x.put(0, 1, 0, 5, 40);
        x.put(1, 0, 0, 9, 0);
        due("count(13)", x.count(13), 4);
        due("count(14)", x.count(14), 1);
        due("undo(0)", x.undo(0), 3);
        dueSpans(x, 0, was[5]);
        due("count(18)", x.count(18), 105);
        due("undo(0)", x.undo(0), 2);
        due("count(18)", x.count(18), 100);
        due("undo(0)", x.undo(0), 1);
        dueSpans(x, 0, was[4]);
        due("undo(0)", x.undo(0), 0);
        dueSpans(x, 0, was[3]);
        due("undo(0)", x.undo(0), NOT);
        dueSpans(x, 0, was[3]);
        dueSpans(x, 1, "0 0 9 0 8 0 0");
        due("undo(4)", x.undo(4), UNKNOWN);
        due("undo(-1)", x.undo(-1), UNKNOWN);
        due("undo(1)", x.undo(1), 0);
        dueSpans(x, 1, "");
    }

    private static void undoesOfEach() {
        House x = told("tone 1 0 40;put 0 0 0 40 10");
        String first = spans(x, 0);
        x.fade(0, 0, 3, 4);
        due("of fade", x.undo(0), 0);
        dueSpans(x, 0, first);
        x.gain(0, 0, 3);
        due("of gain", x.undo(0), 0);
        dueSpans(x, 0, first);
        x.wipe(0, 20, 30);
        due("of wipe", x.undo(0), 0);
        dueSpans(x, 0, first);
        x.cut(0, 20);
        due("of cut", x.undo(0), 0);
        dueSpans(x, 0, first);
        x.move(0, 0, 0);
        due("of move", x.undo(0), 0);
        dueSpans(x, 0, first);
        x.shift(0, 0);
        x.fade(0, 0, 0, 0);
        x.gain(0, 0, 8);
        x.wipe(0, 9, 9);
        due("such that change nothing, too", x.count(13), 4);
        x.move(0, 0, 10);
        x.put(0, 0, 0, 40, 10);
        due("4 at most", x.undo(0), 3);
        dueSpans(x, 0, first);
        x.put(0, 0, 0, 200, 10);
        x.cut(0, 10);
        x.fade(0, 0, -1, 0);
        x.shift(0, 17);
        x.shut(0);
        due("none that was refused", x.count(13), 3);
        x.gain(0, 0, 1);
        x.gain(0, 0, 2);
        due("the last 4", x.undo(0), 3);
        due("gain", x.span(0, 0, 4), 1);
        x.gain(0, 0, 7);
        due("behind an undo", x.undo(0), 3);
        due("gain", x.span(0, 0, 4), 1);
        x.undo(0);
        due("gain", x.span(0, 0, 4), 8);
    }

    private static void keeps() {
        House x = told("tone 1 0 40;put 0 0 0 40 10;put 0 0 0 5 60;put 3 0 0 1 0");
        due("keep(2)", x.keep(2), OUTSIDE);
        due("keep(-1)", x.keep(-1), OUTSIDE);
        due("keep(least)", x.keep(LEAST), OUTSIDE);
        x.shift(2, 9);
        due("keep(0)", x.keep(0), 3);
        due("it can be undone yet", x.count(15), 1);
        due("back(1)", x.back(1), NOT);
        x.wipe(0, 0, 128);
        due("keep(1)", x.keep(1), 1);
        due("back(0)", x.back(0), 3);
        due("back(1)", x.back(1), 1);
        x.wipe(3, 0, 128);
        due("in its place", x.keep(1), 0);
        due("back(0)", x.back(0), 3);
        due("back(1)", x.back(1), 0);
        due("back(0)", x.back(0), 3);
        x.gain(0, 0, 3);
        due("what is kept does not change", x.back(0), 3);
        due("gain", x.span(0, 0, 4), 8);
    }

    private static void backs() {
        House x = told("tone 1 0 40;put 0 0 0 40 10;put 0 0 0 5 60;put 3 0 0 1 0");
        due("back(0)", x.back(0), NOT);
        due("back(2)", x.back(2), OUTSIDE);
        due("back(-1)", x.back(-1), OUTSIDE);
        x.shift(2, 9);
        x.shut(1);
        due("keep(0)", x.keep(0), 3);
        String first = spans(x, 0);
        x.put(0, 0, 0, 5, 0);
        x.gain(0, 1, 3);
        x.shift(2, -9);
        x.shift(1, 2);
        x.shut(1);
        x.shut(0);
        x.wipe(3, 0, 128);
        due("keep(1)", x.keep(1), 3);
        x.put(2, 0, 0, 5, 0);
        due("tone", x.tone(2, 2, 2), 1);
        due("back(0)", x.back(0), 3);
        dueSpans(x, 0, first);
        dueSpans(x, 2, "");
        dueSpans(x, 3, "0 0 1 0 8 0 0");
        due("count(5)", x.count(5), 2);
        due("count(19)", x.count(19), 100);
        due("count(20)", x.count(20), 109);
        due("sounds stay", x.count(0), 2);
        for (int t = 0; t < 4; t++) {
            due("nothing can be undone", x.undo(t), NOT);
        }
        x.gain(0, 0, 1);
        due("back(1)", x.back(1), 3);
        dueSpans(x, 0, "0 0 5 0 8 0 0|0 0 40 10 3 0 0|0 0 5 60 8 0 0");
        due("count(5)", x.count(5), 1);
        due("count(19)", x.count(19), 102);
        due("count(20)", x.count(20), 91);
        due("count(13)", x.count(13), 0);
        x.wipe(0, 0, 128);
        due("once more", x.back(1), 3);
        due("count(1)", x.count(1), 3);
        due("a text with a fault", x.house(), NOT);
        due("forgets nothing", x.back(0), 3);
    }

    private static void heards() {
        House x = told("tone 7 3 40;tone 33 9 40;put 0 0 0 10 10;fade 0 0 4 3;gain 0 0 16;put 1 1 3 30 12;put 2 0 0 1 127");
        due("heard(9)", x.heard(9), 0);
        float in = 2f * -97f * (1f / 5f);
        due("heard(10)", x.heard(10), (int) (in * 16f));
        float both = 0f + 2f * -76f * (4f / 5f) + 41f;
        due("heard(13)", x.heard(13), (int) (both * 16f));
        float out = 0f + 2f * -34f * (1f / 4f) + (float) ((33 * 10 + 9) % 201 - 100);
        due("heard(19)", x.heard(19), (int) (out * 16f));
        due("heard(127)", x.heard(127), -97 * 16);
        due("heard(128)", x.heard(128), OUTSIDE);
        due("heard(-1)", x.heard(-1), OUTSIDE);
        due("exact(10)", x.exact(10), Float.floatToIntBits(in));
        due("exact(13)", x.exact(13), Float.floatToIntBits(both));
        due("exact(19)", x.exact(19), Float.floatToIntBits(out));
        due("exact(128)", x.exact(128), OUTSIDE);
        due("exact(-1)", x.exact(-1), OUTSIDE);
        due("exact(126)", x.exact(126), 0);
    }

    private static void heardInTheirOrder() {
        House x = told("tone 0 3 9;tone 0 199 9;put 0 0 0 9 0;put 1 1 0 9 0;put 2 0 0 9 0;fade 0 0 2 6;fade 1 0 6 2;gain 0 0 7;gain 1 0 5;gain 2 0 3;fade 2 0 4 5");
        for (int i = 0; i < 9; i++) {
            float first = -97f * (7f / 8f);
            first = i < 2 ? first * ((float) (i + 1) / 3f) : first;
            first = i >= 3 ? first * ((float) (9 - i) / 7f) : first;
            float second = 99f * (5f / 8f);
            second = i < 6 ? second * ((float) (i + 1) / 7f) : second;
            second = i >= 7 ? second * ((float) (9 - i) / 3f) : second;
            float third = -97f * (3f / 8f);
            third = i < 4 ? third * ((float) (i + 1) / 5f) : third;
            third = i >= 4 ? third * ((float) (9 - i) / 6f) : third;
            due("exact(" + i + ")", x.exact(i), Float.floatToIntBits(0f + first + second + third));
            due("heard(" + i + ")", x.heard(i), (int) ((0f + first + second + third) * 16f));
            due("played(0, " + i + ")", x.played(0, i), (int) (first * 16f));
            due("played(1, " + i + ")", x.played(1, i), (int) (second * 16f));
            due("played(2, " + i + ")", x.played(2, i), (int) (third * 16f));
        }
        x.gain(0, 0, 0);
        x.shut(1);
        x.shut(2);
        due("-0 is not heard", x.exact(4), 0);
    }

    private static void smallAndGreatBits() {
        House x = told("tone 0 200 64;put 0 0 0 64 0;put 1 0 0 64 0;put 2 0 0 64 0;put 3 0 0 64 0");
        for (int sound = 1; sound < 6; sound++) {
            for (int t = 0; t < 4; t++) {
                x.gain(t, 0, 16);
            }
            due("louder", x.bounce(0, 64), sound);
            due("bits", x.sound(sound, 2, 3), Float.floatToIntBits((float) (100 << (3 * sound))));
            for (int t = 0; t < 4; t++) {
                x.put(t, sound, 0, 64, 0);
            }
        }
        due("heard(0)", x.heard(0), (100 << 17) * 16);
        x = told("tone 0 101 64;put 0 0 0 64 0;gain 0 0 1;fade 0 0 64 0");
        float least = 1f;
        for (int sound = 1; sound < 6; sound++) {
            least = least * (1f / 8f) * (1f / 65f);
            due("softer", x.bounce(0, 64), sound);
            due("bits", x.sound(sound, 2, 0), Float.floatToIntBits(least));
            x.put(0, sound, 0, 64, 0);
            x.gain(0, 0, 1);
            x.fade(0, 0, 64, 0);
        }
        due("exact", x.exact(0), Float.floatToIntBits(least * (1f / 8f) * (1f / 65f)));
        due("sum", x.sum(0, 0), Double.doubleToLongBits(least * (1f / 8f) * (1f / 65f)));
    }

    private static void sums() {
        House x = told("tone 7 3 40;tone 33 9 40;put 0 0 0 40 10;fade 0 0 6 9;gain 0 0 5;put 1 1 3 30 0;fade 1 0 10 20;shift 1 7");
        int[][] pairs = {{0, 127}, {0, 0}, {127, 127}, {10, 10}, {10, 49}, {12, 13}, {30, 31}};
        for (int[] pair : pairs) {
            double all = 0;
            for (int m = pair[0]; m <= pair[1]; m++) {
                all += level(x, m);
            }
            due("sum(" + pair[0] + ", " + pair[1] + ")", x.sum(pair[0], pair[1]), Double.doubleToLongBits(all));
        }
        due("sum(5, 4)", x.sum(5, 4), OUTSIDE);
        due("sum(-1, 4)", x.sum(-1, 4), OUTSIDE);
        due("sum(0, 128)", x.sum(0, 128), OUTSIDE);
        due("sum(128, 128)", x.sum(128, 128), OUTSIDE);
        due("sum(0, -1)", x.sum(0, -1), OUTSIDE);
        x = told("tone 0 101 1;tone 0 99 1;put 0 0 0 1 3;put 0 1 0 1 4");
        due("1", x.sum(3, 3), Double.doubleToLongBits(1.0));
        due("-1", x.sum(4, 4), Double.doubleToLongBits(-1.0));
        due("0", x.sum(3, 4), 0);
    }

    private static void playeds() {
        House x = told("tone 7 3 40;put 1 0 5 10 20;gain 1 0 5;fade 1 0 3 4;shift 1 9;shut 1");
        due("played(1, 19)", x.played(1, 19), 0);
        due("played(1, 20)", x.played(1, 20), (int) (-62f * (5f / 8f) * (1f / 4f) * 16f));
        due("played(1, 22)", x.played(1, 22), (int) (-48f * (5f / 8f) * (3f / 4f) * 16f));
        due("played(1, 23)", x.played(1, 23), (int) (-41f * (5f / 8f) * 16f));
        due("played(1, 25)", x.played(1, 25), (int) (-27f * (5f / 8f) * 16f));
        due("played(1, 26)", x.played(1, 26), (int) (-20f * (5f / 8f) * (4f / 5f) * 16f));
        due("played(1, 29)", x.played(1, 29), (int) (1f * (5f / 8f) * (1f / 5f) * 16f));
        due("played(1, 30)", x.played(1, 30), 0);
        due("played(0, 20)", x.played(0, 20), 0);
        due("played(1, 128)", x.played(1, 128), OUTSIDE);
        due("played(1, -1)", x.played(1, -1), OUTSIDE);
        due("played(4, 128)", x.played(4, 128), UNKNOWN);
        due("played(-1, 0)", x.played(-1, 0), UNKNOWN);
    }

    private static void coverings() {
        House x = told("tone 7 3 40;put 1 0 0 10 20;put 1 0 0 5 30;put 1 0 0 1 127;shift 1 9;shut 1");
        String was = spans(x, 1);
        due("covers(1, 64, 0)", x.covers(1, 64, 0), 15);
        due("covers(1, 64, 64)", x.covers(1, 64, 64), 1);
        due("covers(1, 20, 0)", x.covers(1, 20, 0), 0);
        due("covers(1, 21, 0)", x.covers(1, 21, 0), 1);
        due("covers(1, 3, 24)", x.covers(1, 3, 24), 3);
        due("covers(1, 3, 28)", x.covers(1, 3, 28), 3);
        due("covers(1, 9, 34)", x.covers(1, 9, 34), 1);
        due("covers(1, 9, 35)", x.covers(1, 9, 35), 0);
        due("covers(0, 64, 0)", x.covers(0, 64, 0), 0);
        due("covers(1, 1, 127)", x.covers(1, 1, 127), 1);
        due("covers(1, 1, 128)", x.covers(1, 1, 128), OUTSIDE);
        due("covers(1, 2, 127)", x.covers(1, 2, 127), OUTSIDE);
        due("covers(1, 0, 0)", x.covers(1, 0, 0), OUTSIDE);
        due("covers(1, 65, 0)", x.covers(1, 65, 0), OUTSIDE);
        due("covers(1, 1, -1)", x.covers(1, 1, -1), OUTSIDE);
        due("covers(1, least, most)", x.covers(1, LEAST, MOST), OUTSIDE);
        due("covers(4, 0, 0)", x.covers(4, 0, 0), UNKNOWN);
        due("covers(-1, 1, 0)", x.covers(-1, 1, 0), UNKNOWN);
        dueSpans(x, 1, was);
        due("count(14)", x.count(14), 0);
    }

    private static void racks() {
        House x = new House();
        due("rack(3, 3, 9)", x.rack(3, 3, 9), UNKNOWN);
        due("rack(-1, 0, 1)", x.rack(-1, 0, 1), UNKNOWN);
        due("rack(0, 3, -1)", x.rack(0, 3, -1), OUTSIDE);
        due("rack(0, -1, 1)", x.rack(0, -1, 1), OUTSIDE);
        due("rack(0, 0, 9)", x.rack(0, 0, 9), OUTSIDE);
        due("rack(0, 0, -1)", x.rack(0, 0, -1), SIZE);
        due("rack(0, 0, least)", x.rack(0, 0, LEAST), SIZE);
        due("none was made", x.drop(0), NULL);
        due("rack(2, 2, 8)", x.rack(2, 2, 8), 8);
        due("rack(1, 1, 0)", x.rack(1, 1, 0), 0);
        due("hang(2, 7, 2, 9)", x.hang(2, 7, 2, 9), 9);
        due("rack(2, 0, -1)", x.rack(2, 0, -1), SIZE);
        due("it stays", x.count(12), 1);
        due("rack(2, 0, 8)", x.rack(2, 0, 8), 8);
        due("a new one is empty", x.count(12), 0);
        due("take(2, 7)", x.take(2, 7), EMPTY);
        due("hang(2, 7, 1, 9)", x.hang(2, 7, 1, 9), 9);
        due("hang(1, 0, 1, 9)", x.hang(1, 0, 1, 9), INDEX);
    }

    private static void hangs() {
        House x = new House();
        due("hang(3, 0, 0, 0)", x.hang(3, 0, 0, 0), UNKNOWN);
        due("hang(-1, 0, 1, 0)", x.hang(-1, 0, 1, 0), UNKNOWN);
        due("hang(0, 0, 0, 0)", x.hang(0, 0, 0, 0), OUTSIDE);
        due("hang(0, 0, 3, 0)", x.hang(0, 0, 3, 0), OUTSIDE);
        due("hang(0, 0, 1, 100)", x.hang(0, 0, 1, 100), OUTSIDE);
        due("hang(0, 0, 1, -1)", x.hang(0, 0, 1, -1), OUTSIDE);
        due("hang(0, 0, 1, 0)", x.hang(0, 0, 1, 0), NULL);
        x.rack(0, 0, 3);
        x.rack(1, 1, 3);
        x.rack(2, 2, 3);
        due("hang(0, 3, 1, 0)", x.hang(0, 3, 1, 0), INDEX);
        due("hang(0, -1, 1, 0)", x.hang(0, -1, 1, 0), INDEX);
        due("hang(1, 3, 2, 0)", x.hang(1, 3, 2, 0), INDEX);
        due("hang(1, 2, 2, 0)", x.hang(1, 2, 2, 0), STORE);
        due("hang(2, 2, 1, 0)", x.hang(2, 2, 1, 0), STORE);
        due("count(12)", x.count(12), 0);
        due("hang(1, 2, 1, 0)", x.hang(1, 2, 1, 0), 0);
        due("hang(2, 2, 2, 99)", x.hang(2, 2, 2, 99), 99);
        due("hang(0, 0, 1, 5)", x.hang(0, 0, 1, 5), 5);
        due("hang(0, 1, 2, 6)", x.hang(0, 1, 2, 6), 6);
        due("count(12)", x.count(12), 4);
        due("in another's place", x.hang(0, 0, 2, 7), 7);
        due("count(12)", x.count(12), 4);
        due("take(0, 0)", x.take(0, 0), 107);
    }

    private static void takes() {
        House x = new House();
        due("take(3, 0)", x.take(3, 0), UNKNOWN);
        due("take(-1, 0)", x.take(-1, 0), UNKNOWN);
        due("take(0, 9)", x.take(0, 9), NULL);
        x.rack(0, 0, 2);
        due("take(0, 2)", x.take(0, 2), INDEX);
        due("take(0, -1)", x.take(0, -1), INDEX);
        due("take(0, 1)", x.take(0, 1), EMPTY);
        x.hang(0, 0, 1, 99);
        x.hang(0, 1, 2, 0);
        due("take(0, 0)", x.take(0, 0), 99);
        due("take(0, 0)", x.take(0, 0), EMPTY);
        due("take(0, 1)", x.take(0, 1), 100);
        due("take(0, 1)", x.take(0, 1), EMPTY);
        due("count(12)", x.count(12), 0);
        x.hang(0, 1, 1, 0);
        due("take(0, 1)", x.take(0, 1), 0);
    }

    private static void likenesses() {
        House x = new House();
        due("likeness(0, 3)", x.likeness(0, 3), UNKNOWN);
        due("likeness(3, 0)", x.likeness(3, 0), UNKNOWN);
        due("likeness(-1, 0)", x.likeness(-1, 0), UNKNOWN);
        due("likeness(0, -1)", x.likeness(0, -1), UNKNOWN);
        due("likeness(0, 1)", x.likeness(0, 1), NULL);
        due("likeness(0, 0)", x.likeness(0, 0), NULL);
        x.rack(0, 0, 8);
        x.hang(0, 7, 2, 3);
        due("likeness(0, 1)", x.likeness(0, 1), NULL);
        due("it stays", x.count(12), 1);
        x.rack(1, 1, 3);
        x.hang(1, 1, 1, 4);
        x.hang(1, 2, 1, 5);
        due("likeness(0, 1)", x.likeness(0, 1), 2);
        due("hang(0, 3, 1, 1)", x.hang(0, 3, 1, 1), INDEX);
        due("hang(0, 2, 2, 1)", x.hang(0, 2, 2, 1), STORE);
        due("take(0, 0)", x.take(0, 0), EMPTY);
        due("take(0, 2)", x.take(0, 2), 5);
        due("the other one has its own", x.take(1, 2), 5);
        due("likeness(2, 0), missing till then", x.likeness(2, 0), 1);
        due("take(2, 1)", x.take(2, 1), 4);
        due("likeness(0, 0)", x.likeness(0, 0), 1);
        due("take(0, 1)", x.take(0, 1), 4);
        due("of none", x.likeness(1, 0), 0);
        x.rack(0, 0, 8);
        for (int i = 0; i < 8; i++) {
            x.hang(0, i, 1 + i % 2, 10 * i);
        }
        due("all places", x.likeness(1, 0), 8);
        for (int i = 0; i < 8; i++) {
            due("take(1, " + i + ")", x.take(1, i), i % 2 * 100 + 10 * i);
        }
        due("drop(0)", x.drop(0), 8);
        due("count(12)", x.count(12), 0);
    }

    private static void passes() {
        House x = new House();
        due("pass(3, 0)", x.pass(3, 0), UNKNOWN);
        due("pass(0, 3)", x.pass(0, 3), UNKNOWN);
        due("pass(-1, 0)", x.pass(-1, 0), UNKNOWN);
        due("pass(0, -1)", x.pass(0, -1), UNKNOWN);
        due("pass(0, 1)", x.pass(0, 1), NULL);
        x.rack(0, 0, 8);
        due("pass(0, 1)", x.pass(0, 1), NULL);
        due("pass(1, 0)", x.pass(1, 0), NULL);
        x.hang(0, 0, 1, 10);
        x.hang(0, 2, 1, 12);
        x.hang(0, 3, 2, 13);
        x.hang(0, 4, 1, 14);
        x.rack(1, 1, 8);
        x.hang(1, 0, 1, 50);
        x.hang(1, 1, 1, 51);
        x.hang(1, 4, 1, 54);
        due("to the blade", x.pass(0, 1), 2);
        due("take(1, 0)", x.take(1, 0), 10);
        due("take(1, 1)", x.take(1, 1), 51);
        due("take(1, 2)", x.take(1, 2), 12);
        due("take(1, 3)", x.take(1, 3), EMPTY);
        due("take(1, 4)", x.take(1, 4), 54);
        due("they stay where they were", x.count(12), 4);
        x.rack(2, 0, 4);
        due("as far as it goes", x.pass(0, 2), 3);
        due("take(2, 3)", x.take(2, 3), 113);
        due("to itself", x.pass(0, 0), 4);
        x.rack(2, 2, 8);
        due("at once", x.pass(0, 2), 0);
        due("nothing is hung", x.count(12), 4);
        x.rack(2, 0, 0);
        due("no places", x.pass(0, 2), 0);
        due("of none", x.pass(2, 0), 0);
        due("count(12)", x.count(12), 4);
    }

    private static void drops() {
        House x = new House();
        due("drop(3)", x.drop(3), UNKNOWN);
        due("drop(-1)", x.drop(-1), UNKNOWN);
        due("drop(0)", x.drop(0), NULL);
        x.rack(0, 0, 3);
        x.hang(0, 0, 1, 1);
        x.hang(0, 2, 2, 1);
        x.rack(1, 0, 3);
        x.hang(1, 2, 2, 1);
        due("drop(0)", x.drop(0), 2);
        due("drop(0)", x.drop(0), NULL);
        due("count(12)", x.count(12), 1);
        due("hang(0, 0, 1, 1)", x.hang(0, 0, 1, 1), NULL);
        due("take(0, 0)", x.take(0, 0), NULL);
        due("rack(0, 0, 3)", x.rack(0, 0, 3), 3);
        due("count(12)", x.count(12), 1);
        due("drop(0)", x.drop(0), 0);
    }

    private static void counts() {
        House x = told("tone 0 150 9;tone 0 50 9;put 0 0 0 9 9;put 0 0 0 9 18;put 0 0 0 9 40;put 1 0 0 9 0;put 1 0 0 1 127;put 2 1 0 5 9;shift 3 16;shift 2 - 16;shut 1;shut 3");
        x.shift(0, 0);
        x.shift(0, 0);
        x.shift(3, 0);
        x.shift(2, 0);
        x.rack(0, 0, 3);
        x.hang(0, 0, 1, 1);
        x.rack(1, 0, 3);
        x.hang(1, 2, 1, 1);
        x.write(1);
        int[] due = {2, 3, 2, 1, 0, 10, 14, 128 - 27 + 5, 2, 1, 1, 0, 2, 2, 0, 1, 1, 1, 100, 100, 100, 100};
        for (int what = 0; what <= 21; what++) {
            due("count(" + what + ")", x.count(what), due[what]);
        }
        x.shift(3, -16);
        due("count(21)", x.count(21), 84);
        due("count(22)", x.count(22), OUTSIDE);
        due("count(-1)", x.count(-1), OUTSIDE);
        due("count(least)", x.count(LEAST), OUTSIDE);
        x = told("tone 0 150 9;tone 0 50 9;put 0 0 0 1 90;put 0 1 0 1 80;put 1 0 0 1 100;put 1 1 0 1 70");
        due("the first of like ones", x.count(6), 70);
        x.gain(1, 1, 9);
        due("the greatest, above 0", x.count(6), 100);
        x.gain(0, 0, 10);
        due("the greatest, below 0", x.count(6), 80);
        due("silent", x.count(7), 124);
        x.gain(0, 0, 0);
        due("silent, as its gain is 0", x.count(7), 125);
        x.put(2, 1, 0, 1, 90);
        due("silent, as they end each other", x.count(7), 126);
        x.put(2, 1, 0, 1, 0);
        due("no gap ahead of it, one behind", x.count(10), 1);
        due("moments", x.count(6), 100);
        x.gain(2, 0, 16);
        due("the greatest is the first", x.count(6), 0);
        x.put(3, 0, 0, 1, 127);
        x.gain(3, 0, 15);
        due("of less", x.count(6), 0);
        x.put(3, 0, 0, 2, 126);
        x.gain(3, 0, 16);
        x.gain(2, 0, 8);
        due("the last but one", x.count(6), 126);
        x.cut(3, 127);
        x.gain(3, 0, 1);
        due("the last one", x.count(6), 127);
        x = told("tone 0 150 9;put 0 0 0 1 1;put 1 0 0 1 0;put 1 0 0 1 2;put 1 0 0 2 3");
        due("a gap of one ahead", x.count(8), 1);
        due("a gap of one between", x.count(9), 1);
    }

    public static void main(String[] args) {
        Runnable[] all = {
            PromisesTest::aNewObject, PromisesTest::writes, PromisesTest::erases,
            () -> { faultsOfForm(); faultsOfBounds(); faultsWithWhatThereIs(); },
            () -> { houses(); housesThatDoNothing(); housesForget(); },
            () -> { sounds(); bouncedSoundIsCut(); },
            PromisesTest::spansTold, PromisesTest::tones,
            () -> { puts(); putsRefused(); },
            PromisesTest::fades, PromisesTest::gains, PromisesTest::wipes, PromisesTest::cuts, PromisesTest::moves,
            PromisesTest::shifts, PromisesTest::shuts, PromisesTest::bounces,
            () -> { undoes(); undoesOfEach(); },
            PromisesTest::keeps, PromisesTest::backs,
            PromisesTest::heards,
            () -> { heardInTheirOrder(); smallAndGreatBits(); },
            PromisesTest::sums, PromisesTest::playeds, PromisesTest::coverings, PromisesTest::racks,
            PromisesTest::hangs, PromisesTest::takes, PromisesTest::likenesses, PromisesTest::passes,
            PromisesTest::drops, PromisesTest::counts,
        };
        for (int i = 0; i < all.length; i++) {
            promise = i + 1;
            all[i].run();
        }
        System.out.println(all.length + " promises, " + looks + " answers looked at, " + wrong + " not as due");
        if (wrong != 0) {
            System.exit(1);
        }
    }
}
