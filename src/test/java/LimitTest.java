/** Promises 4 and 5: what is too much or too deep, and how it is counted (promise 6). */
public final class LimitTest {
    private static final String A = "flag a:num{default 1;off 1;}";

    public static void main(String[] args) {
        segmentsFlagsLayers();
        choicesAndNeeds();
        rules();
        offAndSet();
        splits();
        parts();
        partsWhereverTheyStand();
        longestRows();
        depth();
        depthOfRules();
        leastOfOneToken();
        limitsOfEachTextAnew();
        lastOfFullRows();
        Probe.finish();
    }

    private static String numbered(int count, String before, String behind) {
        StringBuilder all = new StringBuilder();
        for (int i = 0; i < count; i++) {
            all.append(before).append(i).append(behind);
        }
        return all.toString();
    }

    private static void segmentsFlagsLayers() {
        String segments = numbered(12, "segment s", " = true;\n");
        Probe.dueRight(segments, 0);
        Probe.due("segments", Probe.loaded(segments).x().count(0), 12);
        Probe.dueFault(segments + "^segment", 5);
        String flags = numbered(24, "flag f", ":bool{default true;off true;}\n");
        Probe.dueRight(flags, 24);
        Probe.due("flags", Probe.loaded(flags).x().count(1), 24);
        Probe.dueFault(flags + "^flag f0", 5);
        String layers = numbered(8, "layer l", " { }\n");
        Probe.dueRight(layers, 0);
        Probe.due("layers", Probe.loaded(layers).x().count(2), 8);
        Probe.dueFault(layers + "^layer l0", 5);
    }

    private static void choicesAndNeeds() {
        Probe.dueRight("flag a:choice(a,b,c,d,e,f,g,h){default a;off h;}", 1);
        Probe.dueFault("flag a:choice(a,b,c,d,e,f,g,h,^i", 5);
        Probe.dueFault("flag a:choice(a,b,c,d,e,f,g,h,^a", 3);
        Probe.dueFault("flag a:choice(a,b,c,d,e,f,g,h,^off", 2);
        String four = "flag b:bool{default true;off true;" + Probe.times(4, "needs a=1;");
        Probe.dueRight(A + four + "}", 2);
        Probe.dueFault(A + four + "^needs", 5);
        Probe.dueFault(A + four + "rule true -> true; ^needs", 2);
    }

    private static void rules() {
        String most = "flag b:bool{default true;off true;" + Probe.times(60, "rule true->true;") + "}"
                + "layer l{" + Probe.times(40, "rule b false->false;");
        Probe.dueRight(most + "}", 1);
        Probe.due("rules", Probe.loaded(most + "}").x().count(3), 100);
        Probe.dueFault(most + "^rule z", 5);
        Probe.dueFault(most + "} flag c:num{default 1;off 1; ^rule", 5);
        Probe.dueRight(most + "off b;}", 1);
        String ofOne = "flag b:bool{default true;off true;" + Probe.times(100, "rule true->true;");
        Probe.dueRight(ofOne + "}", 1);
        Probe.due("rules of one flag", Probe.loaded(ofOne + "}").x().flag(0, 3), 100);
        Probe.dueFault(ofOne + "^rule true->true;}", 5);
        String ofLayer = "flag b:bool{default true;off true;}layer l{" + Probe.times(100, "rule b true->true;");
        Probe.dueRight(ofLayer + "}", 1);
        Probe.dueFault(ofLayer + "^rule b true->true;}", 5);
    }

    private static void offAndSet() {
        String most = A + "layer l{" + Probe.times(20, "off a;") + Probe.times(19, "set a=1;") + "} layer m{set a=2;";
        Probe.dueRight(most + "}", 1);
        Probe.due("off and set", Probe.loaded(most + "}").x().count(4), 40);
        Probe.dueFault(most + "^off a", 5);
        Probe.dueFault(most + "^set a", 5);
        Probe.dueRight(most + "rule a true->1;}", 1);
        Probe.dueRight(A + "layer l{" + Probe.times(40, "off a;") + "}", 1);
        Probe.dueFault(A + "layer l{" + Probe.times(40, "off a;") + "^set a=1;}", 5);
        Probe.dueRight(A + "layer l{" + Probe.times(40, "set a=1;") + "}", 1);
        Probe.dueFault(A + "layer l{" + Probe.times(40, "set a=1;") + "^off a;}", 5);
        // The off of a flag is none of these.
        Probe.dueRight(most + "}flag b:num{default 1;off 1;}", 2);
    }

    private static void splits() {
        String eight = A + "layer l{set a=split k 's'(" + Probe.times(8, "1250:1,");
        Probe.dueRight(eight.substring(0, eight.length() - 1) + ");}", 1);
        Probe.dueFault(eight + "^1", 5);
        Probe.dueFault(eight + "^10001", 4);
        Probe.dueFault(eight + "^)", 2);
        String rule = "rule a true->roll 1 k'' 1 else 2;";
        String most = A + "layer l{" + Probe.times(99, rule) + "set a=split k''(10000:1);";
        Probe.dueRight(most + "}", 1);
        Probe.due("splits and rolls", Probe.loaded(most + "}").x().count(5), 100);
        Probe.dueFault(most + "set a=^roll 1", 5);
        Probe.dueFault(most + "set a=^split k", 5);
        Probe.dueRight(most + "set a=3;}", 1);
    }

    private static long partsOf(String expression) {
        return Probe.loaded("segment a = true; segment s = " + expression + ";").x().count(6) - 1;
    }

    private static void parts() {
        Probe.due("parts of true", partsOf("true"), 1);
        Probe.due("parts of in", partsOf("in a"), 1);
        Probe.due("parts of (( ))", partsOf("((k given))"), 1);
        Probe.due("parts of not", partsOf("not not false"), 3);
        Probe.due("parts of among", partsOf("k among (1, 2, 'x')"), 3);
        Probe.due("parts of or", partsOf("true or k is 1"), 3);
        Probe.due("parts of a row of or", partsOf("true or true or true"), 4);
        Probe.due("parts of a row of and", partsOf("true and true and true and true"), 5);
        Probe.due("parts of rows in rows", partsOf("true and true or true and (true or false)"), 9);
        // With 397 parts there are three more; behind its first or, and a row goes on without one.
        String most = "segment a = k among (1" + Probe.times(396, ",1") + ");";
        Probe.dueRight(most + "segment s = true or false;", 0);
        Probe.dueFault(most + "segment s = true and true and ^true;", 5);
        Probe.dueFault(most + "segment s = true or true or ^true;", 5);
        Probe.dueFault(most + "segment s = true or true ^and #", 5);
        Probe.dueFault(most + "segment s = (true and true) ^or true;", 5);
        Probe.dueFault(most + "segment s = not not not ^k is 1;", 5);
        Probe.dueFault(most + "segment s = not not not ^in z;", 5);
        Probe.dueFault(most + "segment s = not not not ^not true;", 5);
        Probe.dueFault(most + "segment s = not not not ^false;", 5);
        Probe.dueFault(most + "segment s = not not not ^is 1;", 2);
        Probe.dueFault(most + "segment s = k among (1, 2, 3, ^'4', 5);", 5);
        Probe.dueFault(most + "segment s = k among (1, 2, 3, ^);", 2);
        Probe.dueRight(most + "segment s = k among (1, 2, 3);", 0);
        Probe.due("parts", Probe.loaded(most + "segment s = k among (1, 2, 3);").x().count(6), 400);
    }

    private static void depth() {
        Probe.dueRight("segment s = " + Probe.times(20, "(") + "true" + Probe.times(20, ")") + ";", 0);
        Probe.dueRight("segment s = " + Probe.times(20, "not ") + "true;", 0);
        Probe.dueFault("segment s = " + Probe.times(20, "(") + "^(", 5);
        Probe.dueFault("segment s = " + Probe.times(20, "not ") + "^not", 5);
        Probe.dueFault("segment s = " + Probe.times(10, "not (") + "^not", 5);
        Probe.dueFault("segment s = " + Probe.times(10, "not (") + "^(", 5);
        String closed = "((not true) and not (true)) or ";
        Probe.dueRight("segment s = " + Probe.times(30, closed) + "true;", 0);
        Probe.dueRight("segment s = " + Probe.times(20, "(false or true and ") + "true" + Probe.times(20, ")") + ";", 0);
        Probe.due("deepest expression", Probe.loaded("segment s = " + Probe.times(20, "(false or true and ") + "true"
                + Probe.times(20, ")") + ";").x().isIn(0), 1);
    }

    private static void partsWhereverTheyStand() {
        String most = "segment s=k among(1" + Probe.times(99, ",1") + ");"
                + "flag a:num{default 1;off 1;rule k among(1" + Probe.times(99, ",1") + ")->1;rule k among(1" + Probe.times(99, ",1")
                + ")->1;}layer l{rule a k among(1" + Probe.times(98, ",1") + ")->1;";
        Probe.due("parts of all", Probe.loaded(most + "}").x().count(6), 399);
        Probe.dueRight(most + "rule a true->1;}", 1);
        Probe.dueFault(most + "rule a true->1;rule a ^true->1;}", 5);
        Probe.dueFault(most + "rule a not ^k given->1;}", 5);
        Probe.dueFault(most + "}flag b:num{default 1;off 1;rule true ^or true->1;}", 5);
        Probe.dueFault(most + "}segment t=k among(1,^1);", 5);
        // True and false as values are no parts.
        Probe.dueRight(most + "rule a true->1;}flag b:bool{default true;off false;}", 2);
    }

    private static void longestRows() {
        for (String joint : new String[] {" or ", " and "}) {
            String row = "segment s=true" + Probe.times(398, joint + "true");
            Probe.due("parts of the longest row", Probe.loaded(row + ";").x().count(6), 400);
            Probe.due("the longest row is true", Probe.loaded(row + ";").x().isIn(0), 1);
            Probe.dueFault(row + joint + "^true;", 5);
            Probe.dueFault(row + joint + "^;", 2);
            // Within ( ) there may still be something, but a row of its own would be one part more.
            Probe.dueFault("segment s=true" + Probe.times(397, joint + "true") + joint + "(true ^or true);", 5);
        }
        Probe.dueRight("segment s=k among(1" + Probe.times(399, ",1") + ");", 0);
        Probe.dueFault("segment s=k among(1" + Probe.times(399, ",1") + ",^1);", 5);
    }

    private static void depthOfRules() {
        String ofFlag = "flag b:num{default 1;off 1;rule ";
        String ofLayer = A + "layer l{rule a ";
        for (String before : new String[] {ofFlag, ofLayer, "segment s="}) {
            String behind = before.startsWith("segment") ? ";" : "->1;}";
            int flags = before.startsWith("segment") ? 0 : 1;
            Probe.dueRight(before + Probe.times(20, "(") + "true" + Probe.times(20, ")") + behind, flags);
            Probe.dueRight(before + Probe.times(20, "not ") + "true" + behind, flags);
            Probe.dueRight(before + Probe.times(10, "not(") + "true" + Probe.times(10, ")") + behind, flags);
            Probe.dueFault(before + Probe.times(20, "(") + "^(", 5);
            Probe.dueFault(before + Probe.times(20, "(") + "^not", 5);
            Probe.dueFault(before + Probe.times(20, "not ") + "^(", 5);
            Probe.dueFault(before + Probe.times(20, "not ") + "^not", 5);
            // What is closed stands open no more: 19, then one and one again.
            Probe.dueRight(before + Probe.times(19, "(") + "(true)or not true and(true)" + Probe.times(19, ")") + behind, flags);
            Probe.dueFault(before + Probe.times(19, "(") + "(true)or not ^not true", 5);
            Probe.dueFault(before + Probe.times(19, "(") + "not true and(^(true", 5);
            // The ( of among holds no expression.
            Probe.dueRight(before + Probe.times(20, "(") + "k among(1,2)" + Probe.times(20, ")") + behind, flags);
        }
    }

    /** Of one token the least: what cannot come there is 2, also where there would be too much of it. */
    private static void leastOfOneToken() {
        String rules = "flag b:bool{default true;off true;" + Probe.times(100, "rule true->true;") + "}";
        Probe.dueFault(rules + "^rule", 2);
        Probe.dueFault(rules + "flag c:num{default 1;^rule", 2);
        String offs = A + "layer l{" + Probe.times(40, "off a;") + "}";
        Probe.dueFault(offs + "^off a;", 2);
        Probe.dueFault(offs + "^set a=1;", 2);
        Probe.dueFault(offs + "layer m{^#", 1);
        String rolls = A + "layer l{" + Probe.times(100, "rule a true->roll 1 k'' 1 else 2;") + "}";
        Probe.dueFault(rolls + "flag b:num{default ^roll", 5);
        Probe.dueFault(rolls + "flag b:num{default ^split", 5);
        Probe.dueFault(rolls + "flag b:num{default 1;off ^roll", 2);
        Probe.dueFault(rolls + "flag b:num{default 1;off ^split", 2);
        String values = A + "layer l{set a=split k''(" + Probe.times(8, "1250:1,");
        Probe.dueFault(values + "^#", 1);
        Probe.dueFault(values + "^x", 2);
        Probe.dueFault(values + "^-1:1", 4);
        Probe.dueFault(values + "^10001:1", 4);
        Probe.dueFault(values + "^10000:1", 5);
        Probe.dueFault(values + "^0:1", 5);
        String choices = "flag a:choice(a,b,c,d,e,f,g,h,";
        Probe.dueFault(choices + "^#", 1);
        Probe.dueFault(choices + "^)", 2);
        Probe.dueFault(choices + "^h)", 3);
        Probe.dueFault(choices + "^i)", 5);
        String needs = A + "flag b:num{default 1;off 1;" + Probe.times(4, "needs a=1;");
        Probe.dueFault(needs + "^needs z=;", 5);
        Probe.dueFault(needs + "^a", 2);
        String deep = "segment s=" + Probe.times(20, "(");
        Probe.dueFault(deep + "^#", 1);
        Probe.dueFault(deep + "^)", 2);
        Probe.dueFault(deep + "k is ^not", 2);
        Probe.dueFault(deep + "true ^(", 2);
        String full = "segment s=k among(1" + Probe.times(399, ",1") + ");segment t=";
        Probe.dueFault(full + "^#", 1);
        Probe.dueFault(full + "^or", 2);
        Probe.dueFault(full + "(((^;", 2);
        Probe.dueFault(full + "^in z;", 5);
        Probe.dueFault(full + "^k;", 5);
    }

    /** What an earlier text had, or one with a fault, is not counted with the next one. */
    private static void limitsOfEachTextAnew() {
        String full = A + "layer l{" + Probe.times(38, "off a;") + "set a=1;}" + numbered(6, "segment s", "=true;")
                + "layer m{" + Probe.times(20, "rule a true->roll 1 k''1 else 2;") + "}";
        Probe probe = Probe.loaded(full);
        for (int i = 0; i < 5; i++) {
            probe.tape(full + (i % 2 == 0 ? "#" : ""));
            Probe.due("load number " + i, probe.x().load(), i % 2 == 0 ? -1 - full.length() : 1);
        }
        int[] counts = {6, 1, 2, 20, 39, 20, 26};
        for (int what = 0; what < counts.length; what++) {
            Probe.due("count(" + what + ")", probe.x().count(what), counts[what]);
        }
    }

    /** The last of as many as there may be can be asked for, the one behind it cannot. */
    private static void lastOfFullRows() {
        FlagLayers x = Probe.loaded(numbered(12, "segment s", "=k given;") + numbered(24, "flag f", ":num{default 1;off 2;}")
                + numbered(7, "layer l", "{}") + "layer l7{rule f23 true->split k''(10000:3);"
                + Probe.times(98, "rule f0 true->roll 1 k''1 else 2;") + "set f23=roll 10000 k''4 else 5;}").x();
        Probe.due("isIn(11)", x.isIn(11), 0);
        Probe.dueThrow("isIn(12)", Probe.INDEX, () -> x.isIn(12));
        Probe.due("value(23, 7)", x.value(23, 7), 3);
        Probe.due("why(1)", x.why(1), 7);
        Probe.dueThrow("value(24, 7)", Probe.INDEX, () -> x.value(24, 7));
        Probe.dueThrow("value(23, 8)", Probe.INDEX, () -> x.value(23, 8));
        Probe.due("flag(23, 4)", x.flag(23, 4), 2);
        Probe.dueThrow("flag(24, 4)", Probe.INDEX, () -> x.flag(24, 4));
        Probe.due("needs(23)", x.needs(23), 0);
        Probe.dueThrow("needs(24)", Probe.INDEX, () -> x.needs(24));
        Probe.due("order(23)", x.order(23), 23);
        Probe.dueThrow("order(24)", Probe.INDEX, () -> x.order(24));
        Probe.due("share(99, 4)", x.share(99, 4), 10000);
        Probe.dueThrow("share(100, 4)", Probe.INDEX, () -> x.share(100, 4));
        int[] last = {11, 23, 7};
        for (int kind = 0; kind < last.length; kind++) {
            int of = kind;
            Probe.due("bytes of the last name of " + kind, x.name(kind, last[kind], FlagLayers.NONE), kind == 2 ? 2 : 3);
            Probe.dueThrow("name behind the last of " + kind, Probe.INDEX, () -> x.name(of, last[of] + 1, FlagLayers.NONE));
        }
    }
}
