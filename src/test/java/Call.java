// One call of the face with its arguments, to be made on any object of it.
record Call(String name, int... args) {
    long on(Calls x) {
        switch (name) {
            case "write": return x.write(args[0]);
            case "erase": return x.erase();
            case "fault": return x.fault();
            case "house": return x.house();
            case "sound": return x.sound(args[0], args[1], args[2]);
            case "span": return x.span(args[0], args[1], args[2]);
            case "tone": return x.tone(args[0], args[1], args[2]);
            case "put": return x.put(args[0], args[1], args[2], args[3], args[4]);
            case "fade": return x.fade(args[0], args[1], args[2], args[3]);
            case "gain": return x.gain(args[0], args[1], args[2]);
            case "wipe": return x.wipe(args[0], args[1], args[2]);
            case "cut": return x.cut(args[0], args[1]);
            case "move": return x.move(args[0], args[1], args[2]);
            case "shift": return x.shift(args[0], args[1]);
            case "shut": return x.shut(args[0]);
            case "bounce": return x.bounce(args[0], args[1]);
            case "undo": return x.undo(args[0]);
            case "keep": return x.keep(args[0]);
            case "back": return x.back(args[0]);
            case "heard": return x.heard(args[0]);
            case "exact": return x.exact(args[0]);
            case "sum": return x.sum(args[0], args[1]);
            case "played": return x.played(args[0], args[1]);
            case "covers": return x.covers(args[0], args[1], args[2]);
            case "rack": return x.rack(args[0], args[1], args[2]);
            case "hang": return x.hang(args[0], args[1], args[2], args[3]);
            case "take": return x.take(args[0], args[1]);
            case "likeness": return x.likeness(args[0], args[1]);
            case "pass": return x.pass(args[0], args[1]);
            case "drop": return x.drop(args[0]);
            case "count": return x.count(args[0]);
            default: throw new IllegalArgumentException("no call " + name);
        }
    }

    @Override
    public String toString() {
        StringBuilder all = new StringBuilder(name).append('(');
        for (int i = 0; i < args.length; i++) all.append(i == 0 ? "" : ", ").append(args[i]);
        return all.append(')').toString();
    }
}
