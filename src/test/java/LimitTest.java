/** Promises 4 and 5: what is too much or too deep, and how it is counted (promise 6). */
public final class LimitTest {
    private static final String A = "flag a:num{default 1;off 1;}";

    public static void main(String[] args) {
        segmentsFlagsLayers();
        choicesAndNeeds();
        rules();
        offAndSet();
        splits();
        parts();
        depth();
        Probe.finish();
    }

    private static String numbered(int count, String before, String behind) {
        StringBuilder all = new StringBuilder();
        for (int i = 0; i < count; i++) {
            all.append(before).append(i).append(behind);
        }
        return all.toString();
    }

    private static void segmentsFlagsLayers() {
        String segments = numbered(12, "segment s", " = true;\n");
        Probe.dueRight(segments, 0);
        Probe.due("segments", Probe.loaded(segments).x().count(0), 12);
        Probe.dueFault(segments + "^segment", 5);
        String flags = numbered(24, "flag f", ":bool{default true;off true;}\n");
        Probe.dueRight(flags, 24);
        Probe.due("flags", Probe.loaded(flags).x().count(1), 24);
        Probe.dueFault(flags + "^flag f0", 5);
        String layers = numbered(8, "layer l", " { }\n");
        Probe.dueRight(layers, 0);
        Probe.due("layers", Probe.loaded(layers).x().count(2), 8);
        Probe.dueFault(layers + "^layer l0", 5);
    }

    private static void choicesAndNeeds() {
        Probe.dueRight("flag a:choice(a,b,c,d,e,f,g,h){default a;off h;}", 1);
        Probe.dueFault("flag a:choice(a,b,c,d,e,f,g,h,^i", 5);
        Probe.dueFault("flag a:choice(a,b,c,d,e,f,g,h,^a", 3);
        Probe.dueFault("flag a:choice(a,b,c,d,e,f,g,h,^off", 2);
        String four = "flag b:bool{default true;off true;" + Probe.times(4, "needs a=1;");
        Probe.dueRight(A + four + "}", 2);
        Probe.dueFault(A + four + "^needs", 5);
        Probe.dueFault(A + four + "rule true -> true; ^needs", 2);
    }

    private static void rules() {
        String most = "flag b:bool{default true;off true;" + Probe.times(60, "rule true->true;") + "}"
                + "layer l{" + Probe.times(40, "rule b false->false;");
        Probe.dueRight(most + "}", 1);
        Probe.due("rules", Probe.loaded(most + "}").x().count(3), 100);
        Probe.dueFault(most + "^rule z", 5);
        Probe.dueFault(most + "} flag c:num{default 1;off 1; ^rule", 5);
        Probe.dueRight(most + "off b;}", 1);
    }

    private static void offAndSet() {
        String most = A + "layer l{" + Probe.times(20, "off a;") + Probe.times(19, "set a=1;") + "} layer m{set a=2;";
        Probe.dueRight(most + "}", 1);
        Probe.due("off and set", Probe.loaded(most + "}").x().count(4), 40);
        Probe.dueFault(most + "^off a", 5);
        Probe.dueFault(most + "^set a", 5);
        Probe.dueRight(most + "rule a true->1;}", 1);
    }

    private static void splits() {
        String eight = A + "layer l{set a=split k 's'(" + Probe.times(8, "1250:1,");
        Probe.dueRight(eight.substring(0, eight.length() - 1) + ");}", 1);
        Probe.dueFault(eight + "^1", 5);
        Probe.dueFault(eight + "^10001", 4);
        Probe.dueFault(eight + "^)", 2);
        String rule = "rule a true->roll 1 k'' 1 else 2;";
        String most = A + "layer l{" + Probe.times(99, rule) + "set a=split k''(10000:1);";
        Probe.dueRight(most + "}", 1);
        Probe.due("splits and rolls", Probe.loaded(most + "}").x().count(5), 100);
        Probe.dueFault(most + "set a=^roll 1", 5);
        Probe.dueFault(most + "set a=^split k", 5);
        Probe.dueRight(most + "set a=3;}", 1);
    }

    private static long partsOf(String expression) {
        return Probe.loaded("segment a = true; segment s = " + expression + ";").x().count(6) - 1;
    }

    private static void parts() {
        Probe.due("parts of true", partsOf("true"), 1);
        Probe.due("parts of in", partsOf("in a"), 1);
        Probe.due("parts of (( ))", partsOf("((k given))"), 1);
        Probe.due("parts of not", partsOf("not not false"), 3);
        Probe.due("parts of among", partsOf("k among (1, 2, 'x')"), 3);
        Probe.due("parts of or", partsOf("true or k is 1"), 3);
        Probe.due("parts of a row of or", partsOf("true or true or true"), 4);
        Probe.due("parts of a row of and", partsOf("true and true and true and true"), 5);
        Probe.due("parts of rows in rows", partsOf("true and true or true and (true or false)"), 9);
        // With 397 parts there are three more; behind its first or, and a row goes on without one.
        String most = "segment a = k among (1" + Probe.times(396, ",1") + ");";
        Probe.dueRight(most + "segment s = true or false;", 0);
        Probe.dueFault(most + "segment s = true and true and ^true;", 5);
        Probe.dueFault(most + "segment s = true or true or ^true;", 5);
        Probe.dueFault(most + "segment s = true or true ^and #", 5);
        Probe.dueFault(most + "segment s = (true and true) ^or true;", 5);
        Probe.dueFault(most + "segment s = not not not ^k is 1;", 5);
        Probe.dueFault(most + "segment s = not not not ^in z;", 5);
        Probe.dueFault(most + "segment s = not not not ^not true;", 5);
        Probe.dueFault(most + "segment s = not not not ^false;", 5);
        Probe.dueFault(most + "segment s = not not not ^is 1;", 2);
        Probe.dueFault(most + "segment s = k among (1, 2, 3, ^'4', 5);", 5);
        Probe.dueFault(most + "segment s = k among (1, 2, 3, ^);", 2);
        Probe.dueRight(most + "segment s = k among (1, 2, 3);", 0);
        Probe.due("parts", Probe.loaded(most + "segment s = k among (1, 2, 3);").x().count(6), 400);
    }

    private static void depth() {
        Probe.dueRight("segment s = " + Probe.times(20, "(") + "true" + Probe.times(20, ")") + ";", 0);
        Probe.dueRight("segment s = " + Probe.times(20, "not ") + "true;", 0);
        Probe.dueFault("segment s = " + Probe.times(20, "(") + "^(", 5);
        Probe.dueFault("segment s = " + Probe.times(20, "not ") + "^not", 5);
        Probe.dueFault("segment s = " + Probe.times(10, "not (") + "^not", 5);
        Probe.dueFault("segment s = " + Probe.times(10, "not (") + "^(", 5);
        String closed = "((not true) and not (true)) or ";
        Probe.dueRight("segment s = " + Probe.times(30, closed) + "true;", 0);
        Probe.dueRight("segment s = " + Probe.times(20, "(false or true and ") + "true" + Probe.times(20, ")") + ";", 0);
        Probe.due("deepest expression", Probe.loaded("segment s = " + Probe.times(20, "(false or true and ") + "true"
                + Probe.times(20, ")") + ";").x().isIn(0), 1);
    }
}
