import java.util.ArrayList;
import java.util.List;
import java.util.function.Supplier;

// The document's sentences about THE TEXT (Terms, promises 2 to 5), each at its edges.
public final class TextSentencesTest extends Checks {
    private static final String[] WORDS = {"house", "tone", "put", "fade", "gain", "shift", "shut"};
    // A clause of each sort with the tokens that it has; put needs a sound of 40 floats.
    private static final String[] CLAUSES = {"house", "tone 1 2 3", "put 0 0 0 1 0", "fade 0 0 0 0", "gain 0 0 0", "shift 0 1", "shift 0 - 1", "shut 0"};

    private static House forty() {
        House x = new House();
        x.tone(1, 0, 40);
        return x;
    }

    private static House six() {
        House x = new House();
        for (int s = 0; s < 6; s++) x.tone(1, s, 64 - 7 * s);
        return x;
    }

    private static String repeated(String words, int times, String between) {
        StringBuilder all = new StringBuilder();
        for (int i = 0; i < times; i++) all.append(i == 0 ? "" : between).append(words);
        return all.toString();
    }

    private static void letters() {
        sentence("THE TEXT is a row of letters, 200 at most");
        House x = new House();
        String text = "tone 1 2 3" + " ".repeat(184) + ";shut0";
        for (int i = 0; i < 200; i++) due(x.write(text.charAt(i)), i + 1);
        due(x.write(' '), FULL);
        due(x.write('9'), FULL);
        due(x.count(17), 200);
        due(x.fault(), NONE);
        due(x.house(), 2);
        due(x.count(0), 1);
        due(x.count(5), 1);
        due(x.write(' '), 1);
        x = new House();
        write(x, "shut 0;" + " ".repeat(193));
        due(x.fault(), 200);
        due(x.house(), NOT);
        x = new House();
        write(x, " ".repeat(195) + "house");
        due(x.fault(), NONE);
        due(x.write('s'), FULL);
        due(x.house(), 1);
    }

    private static void writes() {
        sentence("A letter (its number, 0 .. 255) more of THE TEXT: how many it has. OUTSIDE; FULL.");
        House x = new House();
        for (int letter = 0; letter <= 199; letter++) due(x.write(letter), letter + 1);
        x = new House();
        for (int letter = 200; letter <= 255; letter++) due(x.write(letter), letter - 199);
        Supplier<House> some = () -> {
            House y = new House();
            write(y, "shut 1");
            return y;
        };
        Supplier<House> full = () -> {
            House y = new House();
            write(y, "shut 1" + " ".repeat(194));
            return y;
        };
        for (int letter : new int[] {LEAST, -256, -1, 256, 257, 65536 + 'a', MOST}) {
            refused(House::new, OUTSIDE, "write", letter);
            refused(some, OUTSIDE, "write", letter);
            refused(full, OUTSIDE, "write", letter);
        }
        for (int letter : new int[] {0, ' ', ';', 'a', 255}) refused(full, FULL, "write", letter);
    }

    private static void erases() {
        sentence("THE TEXT is empty: how many letters it had.");
        House x = new House();
        due(x.erase(), 0);
        due(x.write('x'), 1);
        due(x.erase(), 1);
        due(x.count(17), 0);
        due(x.erase(), 0);
        write(x, "x".repeat(200));
        due(x.write('x'), FULL);
        due(x.erase(), 200);
        due(x.fault(), 0);
        due(x.write('h'), 1);
        write(x, "ouse");
        due(x.fault(), NONE);
        // All but the letters stays.
        House y = new House();
        States.busy(y);
        String counts = Look.counts(y).replaceAll("^((\\d+ ){17})\\d+ ", "$10 ");
        due(y.erase(), 18);
        alike("behind erase()", Look.counts(y), counts);
        due(y.undo(1), 3);
        due(y.back(0), 6);
        due(y.take(1, 2), 6);
    }

    private static void clauses() {
        sentence("CLAUSES with ; between, 1 to 24 (an empty TEXT ends too soon; behind the 24th no ; can stand)");
        dueFault("", 0);
        refused(House::new, NOT, "house");
        dueFault(" ", 1);
        dueFault(";", 0);
        for (int n = 1; n <= 24; n++) {
            House x = new House();
            dueFault(x, repeated("shut 0", n, ";"), NONE);
            due(x.house(), n);
            due(x.count(17), 0);
            dueFault(repeated("shut 0", n, ";") + ";", n == 24 ? 167 : 7 * n);
            dueFault(repeated("shut 0", n, ";") + " ; ", n == 24 ? 168 : 7 * n + 2);
        }
        dueFault(repeated("shut 0", 25, ";"), 167);
        dueFault(repeated("shut0", 24, ";") + "  ;x", 145);
        dueFault(repeated("shut0", 24, ";") + "  ", NONE);
        dueFault(repeated("shut0", 24, ";") + " 0", 144);
        dueFault(repeated("shut 0", 23, ";") + ";shut 4", 166);
        dueFault("shut 0;;shut 1", 7);
        dueFault("shut 0,shut 1", 6);
        dueFault("shut 0 shut 1", 7);
        dueFault("shut 0:shut 1", 6);
    }

    private static void words() {
        sentence("(As written here, without points;");
        dueFault("house.", 5);
        dueFault("tone 1 1 1.", 10);
        dueFault("shut 0.;shut 1", 6);
        sentence("each is one of: house. tone A B N. put K S F M T. fade K I U V. gain K I G. shift K N. shut K.");
        for (String word : WORDS) {
            for (int n = 1; n < word.length(); n++) {
                dueFault(forty(), word.substring(0, n), 0);
                dueFault(forty(), word.substring(0, n) + " " + word.substring(n) + " 0 0 0 1 0", 0);
            }
            dueFault(forty(), word + "a", 0);
            dueFault(forty(), "z" + word, 0);
            dueFault(forty(), word.substring(0, 1).toUpperCase() + word.substring(1), 0);
            dueFault(forty(), "shut 0;" + word + "x", 7);
        }
        for (String word : new String[] {"wipe 0 0 1", "cut 0 1", "move 0 0 0", "bounce 0 1", "undo 0", "keep 0", "back 0", "rack 0 0 1", "erase", "write 1"}) {
            dueFault(forty(), word, 0);
            dueFault(forty(), "house; " + word, 7);
        }
        for (String clause : CLAUSES) tokensOf(clause);
    }

    // Each token less, more, or another: the fault is at the first one that cannot stand there.
    private static void tokensOf(String clause) {
        String[] tokens = clause.split(" ");
        dueFault(forty(), clause, NONE);
        String ahead = "";
        for (int i = 0; i < tokens.length; i++) {
            if (i > 0) {
                dueFault(forty(), ahead.strip(), ahead.length() - 1);
                dueFault(forty(), ahead + "  ", ahead.length() + 2);
                dueFault(forty(), ahead + ";shut 0", ahead.length());
                dueFault(forty(), ahead + "x", ahead.length());
                dueFault(forty(), ahead + ".", ahead.length());
                dueFault(forty(), ahead + "+1", ahead.length());
                if (!ahead.equals("shift 0 ")) dueFault(forty(), ahead + "-1", ahead.length());
                dueFault(forty(), ahead + "house", ahead.length());
            } else {
                dueFault(forty(), "1", 0);
                dueFault(forty(), "-", 0);
            }
            ahead += tokens[i] + " ";
        }
        dueFault(forty(), ahead + "1", ahead.length());
        dueFault(forty(), ahead + "-", ahead.length());
        dueFault(forty(), ahead + "shut", ahead.length());
        dueFault(forty(), ahead + ";", ahead.length() + 1);
        dueFault(forty(), ahead + "; shut 0", NONE);
    }

    // The number that stands for # may be least .. most; any other one of 0 to 999 is a fault at its place.
    private static void bounds(String text, int least, int most) {
        int place = text.indexOf('#');
        for (int n = 0; n <= 999; n++) {
            String number = Integer.toString(n);
            dueFault(forty(), text.replace("#", number), n >= least && n <= most ? NONE : place);
            if (n <= most + 1 && n < 100) {
                dueFault(forty(), text.replace("#", "0" + number), n >= least && n <= most ? NONE : place);
                dueFault(forty(), text.replace("#", "0".repeat(4 - number.length()) + number), place);
            }
        }
        dueFault(forty(), text.replace("#", "4294967296"), place);
        dueFault(forty(), text.replace("#", "4294967297"), place);
        dueFault(forty(), text.replace("#", "18446744073709551617"), place);
    }

    private static void numbers() {
        sentence("I 0 to 11, U, V 0 to 64, G 0 to 16, K 0 to 3");
        for (String text : new String[] {"put # 0 0 1 0", "fade # 0 0 0", "gain # 0 0", "shift # 0", "shift # - 0", "shut #"}) bounds(text, 0, 3);
        bounds("fade 0 # 0 0", 0, 11);
        bounds("gain 0 # 0", 0, 11);
        bounds("fade 0 0 # 0", 0, 64);
        bounds("fade 0 0 0 #", 0, 64);
        bounds("fade 0 0 64 #", 0, 64);
        bounds("gain 0 0 #", 0, 16);
        sentence("shift: SHIFT of TRACK K is N, a number, or - and a number (two TOKENS)");
        bounds("shift 0 #", 0, 16);
        bounds("shift 0 -#", 0, 16);
        bounds("shift 0 - #", 0, 16);
        bounds("shift 0-  #", 0, 16);
        dueFault("shift 0 --1", 9);
        dueFault("shift 0 - - 1", 10);
        dueFault("shift 0 -", 9);
        dueFault("shift 0 - ", 10);
        dueFault("shift 0 -;", 9);
        dueFault("shift 0 -x", 9);
        dueFault("shift -0 1", 6);
        dueFault("shift 0 1-", 9);
        dueFault("shift 0 1 1", 10);
        dueFault("shift 0 + 1", 8);
        sentence("A TONE of a, b (0 .. 200), n (1 .. 64)");
        bounds("tone # 0 1", 0, 200);
        bounds("tone 0 # 1", 0, 200);
        bounds("tone 0 0 #", 1, 64);
    }

    private static void puts() {
        sentence("put: on TRACK K M floats of SOUND S, told ahead, from F on, at T (what SOUND and MOMENTS allow)");
        bounds("put 0 # 0 1 0", 0, 0);
        bounds("put 0 0 # 1 0", 0, 39);
        bounds("put 0 0 0 # 0", 1, 40);
        bounds("put 0 0 39 # 0", 1, 1);
        bounds("put 0 0 10 # 0", 1, 30);
        bounds("put 0 0 0 1 #", 0, 127);
        bounds("put 0 0 0 40 #", 0, 88);
        bounds("tone 0 0 64;put 0 1 0 # 0", 1, 64);
        bounds("tone 0 0 64;put 0 1 0 64 #", 0, 64);
        bounds("tone 0 0 64;put 0 # 0 1 0", 0, 1);
        bounds("tone 0 0 1;put 0 1 # 1 0", 0, 0);
        bounds("house;tone 0 0 9;put 0 # 0 1 0", 0, 0);
        bounds("house;tone 0 0 9;put 0 0 0 # 0", 1, 9);
        dueFault("put 0 0 0 1 0", 6);
        dueFault("put 4 0 0 1 0", 4);
        dueFault("put 0 0 0 1 0;tone 1 1 1", 6);
        dueFault("tone 1 1 1;house;put 0 0 0 1 0", 23);
        dueFault(forty(), "house;put 0 0 0 1 0", 12);
        dueFault(forty(), "put 0 1 0 1 0;tone 1 1 1", 6);
        dueFault("tone 1 1 5;tone 1 1 9;tone 1 1 1;put 0 1 8 1 0;put 0 0 5 1 0", 55);
        for (int s = 0; s < 6; s++) {
            int length = 64 - 7 * s;
            dueFault(six(), "put 0 " + s + " " + (length - 1) + " 1 127", NONE);
            dueFault(six(), "put 0 " + s + " " + length + " 1 127", 8);
            dueFault(six(), "put 0 " + s + " 0 " + length + " " + (128 - length), NONE);
            dueFault(six(), "put 0 " + s + " 0 " + (length + 1) + " 0", 10);
            dueFault(six(), "put 0 " + s + " 0 " + length + " " + (129 - length), 13);
        }
        dueFault(six(), "put 0 6 0 1 0", 6);
        House x = told("tone 1 0 64;put 3 0 63 1 127;put 3 0 0 63 64;put 3 0 5 1 0");
        dueSpans(x, 3, "0 5 1 0 8 0 0|0 0 63 64 8 0 0|0 63 1 127 8 0 0");
    }

    private static void seventhTone() {
        sentence("tone: a SOUND more, a seventh cannot stand there (at its word)");
        for (int there = 0; there <= 6; there++) {
            for (int more = 1; more <= 7; more++) {
                House x = new House();
                for (int i = 0; i < there; i++) due(i % 2 == 0 ? x.tone(1, 1, 1) : x.bounce(0, 1), i);
                String text = repeated("tone 0 0 1", more, ";");
                boolean fits = there + more <= 6;
                dueFault(x, text, fits ? NONE : 11 * (6 - there));
                due(x.house(), fits ? more : NOT);
                due(x.count(0), fits ? there + more : there);
            }
        }
        dueFault(repeated("tone 0 0 1", 6, ";") + ";  tone 999 999 999", 68);
        dueFault(repeated("tone 0 0 1", 6, ";") + ";tone", 66);
        dueFault(repeated("tone 0 0 1", 6, ";") + ";house;tone 0 0 1", NONE);
        dueFault(repeated("tone 0 0 1", 6, ";") + ";put 0 5 0 1 0", NONE);
        dueFault(repeated("tone 0 0 1", 6, ";") + ";put 0 6 0 1 0", 72);
    }

    private static void everyLetter() {
        sentence("A FAULT is at the first TOKEN (a row of small letters, a row of digits, any other letter) that cannot stand there (a number out of its bounds, of more digits, also), or at the end, if it comes too soon.");
        for (int c = 0; c <= 255; c++) {
            boolean small = c >= 'a' && c <= 'z';
            boolean digit = c >= '0' && c <= '9';
            boolean blank = c == ' ';
            dueFault("house" + (char) c, blank ? NONE : small ? 0 : c == ';' ? 6 : 5);
            dueFault((char) c + "house", blank ? NONE : 0);
            dueFault("ho" + (char) c + "use", 0);
            dueFault("shut " + (char) c, c >= '0' && c <= '3' ? NONE : blank ? 6 : 5);
            dueFault("shut 0" + (char) c, blank || c >= '0' && c <= '3' ? NONE : digit ? 5 : c == ';' ? 7 : 6);
            dueFault("tone 1" + (char) c + "2 3", blank ? NONE : digit ? 10 : 6);
            dueFault("shut 0" + (char) c + "shut 1", c == ';' ? NONE : blank ? 7 : digit ? c <= '3' ? 7 : 5 : 6);
            dueFault("shift 0" + (char) c + "7", blank || c == '-' ? NONE : digit ? 6 : 7);
        }
        dueFault("tone 1 1 ", 9);
        dueFault("tone 1 1", 8);
        dueFault("tone 1 1  ;", 10);
        dueFault("tone 999 x", 5);
        dueFault("tone 1 x 999", 7);
    }

    private static void blanks() {
        sentence("small letters a .. z, numbers of 1 to 3 digits, blanks (32) may stand ahead of, between and behind TOKENS, none is needed but between two words, two numbers");
        dueFault("tone1 2 3;put0 0 0 1 0;fade0 0 0 0;gain0 0 0;shift0 1;shift0-1;shut0;house", NONE);
        dueFault("   tone   1   2   3   ;   put   0   0   0   1   0   ;   shift   0   -   1   ;   house   ", NONE);
        dueFault("househouse", 0);
        dueFault("house house", 6);
        dueFault("househouse;house", 0);
        dueFault("tone 12 3", 9);
        dueFault("tone 1 23", 9);
        dueFault("tone123", 7);
        dueFault("gain 0 12", 7);
        dueFault("gain 0 11", 9);
        dueFault("shut\t0", 4);
        dueFault("shut\n0", 4);
        dueFault("shut" + (char) 160 + "0", 4);
        dueFault("shut" + (char) 0 + "0", 4);
        dueFault("shut 000", NONE);
        dueFault("shut 0000", 5);
        dueFault("shut 003", NONE);
        dueFault("shut 004", 5);
    }

    private static void faults() {
        sentence("The place of the FAULT (the letter with which the TOKEN begins, or the length); NONE.");
        dueFault("house   houses", 8);
        dueFault("   houses", 3);
        dueFault("tone   201 1 1", 7);
        dueFault("tone 1 1 1 ;   ", 15);
        House x = new House();
        States.full(x);
        due(x.fault(), NONE);
        due(x.count(17), 200);
        // To look for it changes nothing, and it is looked for anew each time.
        refused(() -> {
            House y = new House();
            States.busy(y);
            return y;
        }, 16, "fault");
        x = new House();
        write(x, "put 0 0 0 1 0");
        due(x.fault(), 6);
        due(x.tone(1, 1, 1), 0);
        due(x.fault(), NONE);
        due(x.house(), 1);
        due(x.count(1), 1);
        x = new House();
        write(x, "tone 1 1 1");
        due(x.fault(), NONE);
        for (int i = 0; i < 6; i++) x.tone(1, 1, 1);
        due(x.fault(), 0);
        due(x.house(), NOT);
    }

    private static void houses() {
        sentence("THE TEXT's CLAUSES are done, and it is empty then: how many there were. NOT: it has a FAULT.");
        House x = new House();
        due(house(x, "shut 0"), 1);
        due(x.count(17), 0);
        due(x.house(), NOT);
        due(house(x, repeated("shut1", 24, ";")), 24);
        due(x.count(5), 3);
        // A fault in the last clause, at its end, or behind it: nothing at all is done, the text stays.
        for (String text : new String[] {"house;shut 3;shut 4", "house;shut", "house;", "house;shut 3 3", "house;tone 1 1 1;put 0 1 0 1 0", ";house"}) {
            refused(() -> {
                House y = new House();
                States.busy(y);
                y.erase();
                write(y, text);
                return y;
            }, NOT, "house");
        }
        refused(() -> {
            House y = new House();
            States.busy(y);
            y.erase();
            return y;
        }, NOT, "house");
        sentence("CLAUSES are done in their order.");
        x = told("tone 0 150 9;put 0 0 0 9 0;gain 0 0 3;gain 0 0 5;put 0 0 0 3 3;gain 0 2 7;fade 0 0 1 2;fade 0 0 2 1;shift 0 5;shift 0 - 3;shut 0;shut 0");
        dueSpans(x, 0, "0 0 3 0 5 2 1|0 0 3 3 8 0 0|0 6 3 6 7 0 0");
        due(x.count(18), 97);
        due(x.count(5), 1);
        x = told("tone 1 1 1;shut 0;shift 1 3;put 2 0 0 1 9;house;tone 2 2 2;put 3 0 0 2 9");
        due(x.count(0), 1);
        due(x.sound(0, 0, 0), 2);
        due(x.count(5), 0);
        due(x.count(19), 100);
        due(x.count(3), 0);
        dueSpans(x, 3, "0 0 2 9 8 0 0");
        x = told("gain 0 0 3;tone 1 1 9;put 0 0 0 9 0");
        dueSpans(x, 0, "0 0 9 0 8 0 0");
    }

    private static void allAsAtFirst() {
        sentence("house: all as at first");
        for (States.State state : States.ALL) {
            alike("house in state '" + state.name() + "'", Look.of(() -> {
                House x = new House();
                state.history().accept(x);
                house(x, "house");
                return x;
            }), Look.of(House::new));
        }
        sentence("what there was stays");
        House x = new House();
        States.busy(x);
        String[] were = new String[4];
        for (int k = 0; k < 4; k++) were[k] = Look.spans(x, k);
        due(house(x, "shut 2"), 1);
        for (int k = 0; k < 4; k++) dueSpans(x, k, were[k]);
        due(x.count(0), 3);
        due(x.count(5), 5);
        due(x.count(19), 84);
        due(x.count(20), 116);
        due(house(x, "tone 1 1 1;put 3 3 0 1 0;put 3 0 0 40 5"), 3);
        due(x.count(0), 4);
        dueSpans(x, 3, "3 0 1 0 8 0 0|0 0 40 5 8 0 0");
    }

    private static void fadesAndGains() {
        sentence("fade: IN of SPAN I is U, OUT V; gain: GAIN of SPAN I is G");
        for (int k = 0; k < 4; k++) {
            for (int i = 0; i < 3; i++) {
                House x = told("tone 1 0 9;put " + k + " 0 0 9 0;put " + k + " 0 0 9 20;put " + k + " 0 0 9 40;fade " + k + " " + i + " 2 7;gain " + k + " " + i + " 16");
                for (int j = 0; j < 3; j++) {
                    due(x.span(k, j, 4), i == j ? 16 : 8);
                    due(x.span(k, j, 5), i == j ? 2 : 0);
                    due(x.span(k, j, 6), i == j ? 7 : 0);
                }
                due(house(x, "fade " + k + " " + i + " 0 0;gain " + k + " " + i + " 0"), 2);
                due(x.span(k, i, 4) + x.span(k, i, 5) + x.span(k, i, 6), 0);
            }
        }
    }

    private static void nothingIsDone() {
        sentence("fade, gain: nothing is done, if there is no SPAN I then, or U and V are too much");
        String three = "tone 1 0 9;put 1 0 0 9 0;put 1 0 0 5 20;put 1 0 0 1 40;";
        String spans = "0 0 9 0 8 0 0|0 0 5 20 8 0 0|0 0 1 40 8 0 0";
        for (String text : new String[] {"fade 1 3 0 0", "fade 1 11 0 0", "gain 1 3 0", "gain 1 11 16", "fade 0 0 0 0", "gain 0 0 1", "gain 2 0 1", "gain 3 2 1",
            "fade 1 0 10 0", "fade 1 0 0 10", "fade 1 0 5 5", "fade 1 0 64 64", "fade 1 1 6 0", "fade 1 1 0 6", "fade 1 1 3 3", "fade 1 2 1 1", "fade 1 2 2 0"}) {
            House x = told(three + text);
            dueSpans(x, 1, spans);
            due(x.count(1) + x.count(3) + x.count(4), 0);
        }
        dueSpans(told(three + "fade 1 0 9 0"), 1, spans.replace("0 8 0 0|0 0 5", "0 8 9 0|0 0 5"));
        dueSpans(told(three + "fade 1 0 0 9"), 1, spans.replace("0 8 0 0|0 0 5", "0 8 0 9|0 0 5"));
        dueSpans(told(three + "fade 1 0 4 5"), 1, spans.replace("0 8 0 0|0 0 5", "0 8 4 5|0 0 5"));
        dueSpans(told(three + "fade 1 2 1 0"), 1, spans.replace("40 8 0 0", "40 8 1 0"));
        dueSpans(told(three + "fade 1 2 0 1"), 1, spans.replace("40 8 0 0", "40 8 0 1"));
        dueSpans(told(three + "gain 1 2 16"), 1, spans.replace("40 8 0 0", "40 16 0 0"));
        dueSpans(told(three + "gain 1 2 0"), 1, spans.replace("40 8 0 0", "40 0 0 0"));
        // A clause that does nothing counts, and those behind it are done.
        House x = new House();
        due(house(x, "gain 0 0 3;fade 3 11 64 64;shut 3"), 3);
        due(x.count(5), 8);
        House y = told("tone 1 0 64;put 0 0 0 64 64");
        due(house(y, "fade 0 0 64 0"), 1);
        dueSpans(y, 0, "0 0 64 64 8 64 0");
        due(house(y, "fade 0 0 0 64"), 1);
        dueSpans(y, 0, "0 0 64 64 8 0 64");
        due(house(y, "fade 0 0 64 1"), 1);
        dueSpans(y, 0, "0 0 64 64 8 0 64");
    }

    private static void twelfthAndThirteenth() {
        sentence("a put by which there would be more than 12 SPANS is not done");
        House x = new House();
        x.tone(1, 0, 64);
        for (int i = 0; i < 11; i++) x.put(2, 0, 0, 3, 4 * i);
        due(house(x, "put 2 0 0 1 127"), 1);
        due(x.count(3), 12);
        String twelve = Look.spans(x, 2);
        due(house(x, "put 2 0 0 1 100"), 1);
        dueSpans(x, 2, twelve);
        due(house(x, "put 2 0 0 1 1;put 2 0 0 1 0;shut 1"), 3);
        dueSpans(x, 2, twelve);
        due(x.count(5), 2);
        due(house(x, "put 2 0 9 1 127"), 1);
        due(x.span(2, 11, 1), 9);
        due(house(x, "put 2 0 1 3 0"), 1);
        due(x.span(2, 0, 1), 1);
        due(x.count(3), 12);
        // From 11, a put in the midst of a span would make 13.
        x = new House();
        x.tone(1, 0, 64);
        for (int i = 0; i < 11; i++) x.put(2, 0, 0, 3, 4 * i);
        due(house(x, "put 2 0 0 1 1"), 1);
        due(x.count(3), 11);
        due(house(x, "put 2 0 0 1 0"), 1);
        due(x.count(3), 12);
        // All 12 spans of a track can be told of.
        due(house(x, "gain 2 11 3;fade 2 11 1 2"), 2);
        due(x.span(2, 11, 4), 3);
        due(x.span(2, 11, 6), 2);
    }

    // A clause does what it says and nothing else, whatever stood at its place in an earlier text.
    private static void nothingElse() {
        sentence("CLAUSES are done in their order.");
        String[] some = {"house", "tone 0 0 9", "tone 3 1 2", "put 0 0 1 8 9", "put 3 1 40 2 126", "fade 0 0 4 5", "fade 3 11 64 64", "gain 0 0 16", "gain 3 11 0",
            "shift 0 1", "shift 3 - 16", "shut 0", "shut 3"};
        String begin = "tone 1 0 64;tone 5 5 64;put 0 0 0 64 0;put 1 0 0 64 0;put 2 0 0 64 0;put 3 0 0 64 0";
        for (String first : some) {
            for (String second : some) {
                String text = first.equals("house") ? "tone 1 0 64;" + second.replace("put 3 1", "put 3 0") : second;
                Model y = new Model();
                for (String one : new String[] {begin, first, text}) house(y, one);
                alike("behind '" + begin + "', '" + first + "', '" + text + "'", Look.of(() -> {
                    House x = told(begin);
                    house(x, first);
                    house(x, text);
                    return x;
                }), Look.of(() -> new Model(y)));
            }
        }
        House x = told("tone 1 0 64;put 0 0 0 64 0;put 1 0 0 64 0;put 2 0 0 64 0;put 3 0 0 64 0");
        for (int k = 0; k < 4; k++) {
            due(house(x, "shift " + k + " 3"), 1);
            due(house(x, "gain " + k + " 0 3"), 1);
            due(house(x, "fade " + k + " 0 3 3"), 1);
            due(x.count(5), 0);
            due(x.count(1 + k), 1);
        }
        due(house(x, "tone 0 0 1"), 1);
        due(x.count(1) + x.count(2) + x.count(3) + x.count(4), 4);
        for (int k = 0; k < 4; k++) {
            due(house(x, "shut " + k), 1);
            due(x.count(5), (2 << k) - 1);
            due(x.count(18 + k), 103);
        }
    }

    // The last of 200 letters is the last of a token of each sort.
    private static void toTheLastLetter() {
        sentence("or at the end, if it comes too soon");
        for (String clause : CLAUSES) {
            String[] tokens = clause.split(" ");
            String ahead = "";
            for (int i = 0; i < tokens.length; i++) {
                ahead += (i == 0 ? "" : " ") + tokens[i];
                House x = forty();
                dueFault(x, " ".repeat(200 - ahead.length()) + ahead, i == tokens.length - 1 ? NONE : 200);
                due(x.house(), i == tokens.length - 1 ? 1 : NOT);
            }
            House x = forty();
            dueFault(x, " ".repeat(199 - ahead.length()) + ahead + ";", 200);
            due(x.house(), NOT);
            // A longer text was there ahead of it: its letters are gone.
            x = forty();
            write(x, "shift 0 - 1;shift 0 - 1");
            x.erase();
            dueFault(x, "shift 0", 7);
            x.erase();
            dueFault(x, "shift 0 ", 8);
            x.erase();
            dueFault(x, "shift 0 -", 9);
            x.erase();
            dueFault(x, "shift 0 - 1", NONE);
        }
    }

    private static void allForgotten() {
        sentence("Behind them nothing is kept or can be undone; RACKS are all missing.");
        List<String> texts = new ArrayList<>(List.of("shut 3", "house", "tone 1 1 1", "gain 3 0 0", "shift 0 1", "tone 1 1 1;put 0 0 0 1 0", "put 1 0 0 1 0"));
        for (String text : texts) {
            House x = new House();
            States.busy(x);
            due(x.keep(1), 6);
            due(house(x, text) > 0 ? 1 : 0, 1);
            for (int k = 0; k < 4; k++) {
                due(x.count(13 + k), 0);
                due(x.undo(k), NOT);
            }
            due(x.back(0), NOT);
            due(x.back(1), NOT);
            for (int r = 0; r < 3; r++) due(x.drop(r), NULL);
            due(x.count(12), 0);
        }
        House x = told("tone 1 0 9;put 0 0 0 9 0;shift 0 3");
        due(x.undo(0), NOT);
        due(x.gain(0, 0, 1), 8);
        due(x.undo(0), 0);
        due(x.count(18), 103);
        due(x.undo(0), NOT);
    }

    private static void shuts() {
        sentence("shut: TRACK K is SHUT");
        for (int k = 0; k < 4; k++) {
            House x = new House();
            due(house(x, "shut " + k), 1);
            due(x.count(5), 1 << k);
            due(house(x, "shut " + k + ";shut " + k), 2);
            due(x.count(5), 1 << k);
            due(x.shut(k), 0);
        }
        sentence("shift: SHIFT of TRACK K is N");
        for (int k = 0; k < 4; k++) {
            for (int n = -16; n <= 16; n += 4) {
                House x = told("shift " + k + (n < 0 ? " - " : " ") + Math.abs(n));
                for (int j = 0; j < 4; j++) due(x.count(18 + j), j == k ? 100 + n : 100);
            }
        }
    }

    public static void main(String[] args) {
        letters();
        writes();
        erases();
        clauses();
        words();
        numbers();
        puts();
        seventhTone();
        everyLetter();
        blanks();
        faults();
        houses();
        allAsAtFirst();
        fadesAndGains();
        nothingIsDone();
        twelfthAndThirteenth();
        nothingElse();
        toTheLastLetter();
        allForgotten();
        shuts();
        end();
    }
}
