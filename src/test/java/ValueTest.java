/** Promises 12, 13 and 14: value, why, isIn. */
public final class ValueTest {
    public static void main(String[] args) {
        tests();
        expressions();
        segments();
        places();
        serving();
        layers();
        needs();
        neededWorths();
        manyNeeds();
        eightLayers();
        layersTellInTheirOrder();
        whatIsKnownNow();
        whyOfLastRule();
        whyBeforeAny();
        wrongNumbers();
        Probe.finish();
    }

    private static void dueIn(String expression, String thing, int want) {
        Probe probe = Probe.loaded("segment s = " + expression + ";").knowing(thing);
        Probe.due(expression + " with " + thing, probe.x().isIn(0), want);
    }

    private static void tests() {
        String[] neverOfUnknown = {"k is 1", "k below 1", "k above 1", "k begins ''", "k ends ''", "k holds ''",
            "k among (1, 'a')", "k given"};
        for (String test : neverOfUnknown) {
            dueIn(test, "other = 1", 0);
            dueIn("not " + test, "other = 1", 1);
        }
        dueIn("k is 1", "k = 1", 1);
        dueIn("k is 1", "k = '1'", 0);
        dueIn("k is '1'", "k = 1", 0);
        dueIn("k is 'ab'", "k = 'ab'", 1);
        dueIn("k is 'ab'", "k = 'aB'", 0);
        dueIn("k is 010", "k = 10", 1);
        dueIn("k is 1", "k = 12", 0);
        dueIn("k is 12", "k = 1", 0);
        dueIn("k is 1", "k = -1", 0);
        dueIn("k is 'ab'", "k = 'abc'", 0);
        dueIn("k is 'ab'", "k = 'cab'", 0);
        dueIn("k is 'ab'", "k = 'a'", 0);
        dueIn("k is ''", "k = ''", 1);
        dueIn("k is ''", "k = 'a'", 0);
        dueIn("k is ''", "k = 0", 0);
        dueIn("k is 'k'", "K = 'k'", 0);
        dueIn("k is '0123456789abcdef'", "k = '0123456789abcdef'", 1);
        dueIn("k is '0123456789abcdef'", "k = '0123456789abcdeF'", 0);
        dueIn("k among (7)", "k = 7", 1);
        dueIn("k among (7)", "k = 8", 0);
        dueIn("k among ('7', 8)", "k = 7", 0);
        dueIn("k among (7, 7, '')", "k = ''", 1);
        dueIn("k among ('ab', 'cd')", "k = 'abcd'", 0);
        dueIn("k below 999999999", "k = 999999998", 1);
        dueIn("k below 999999999", "k = 999999999", 0);
        dueIn("k below -999999999", "k = -999999999", 0);
        dueIn("k above -999999999", "k = -999999999", 0);
        dueIn("k above -999999999", "k = 999999999", 1);
        dueIn("k above 0", "k = -0", 0);
        dueIn("k below 10", "k = 9", 1);
        dueIn("k above 9", "k = 10", 1);
        dueIn("k is -0", "k = 0", 1);
        dueIn("k among (1, 'b', 3)", "k = 1", 1);
        dueIn("k among (1, 'b', 3)", "k = 'b'", 1);
        dueIn("k among (1, 'b', 3)", "k = 3", 1);
        dueIn("k among (1, 'b', 3)", "k = '3'", 0);
        dueIn("k below 5", "k = 4", 1);
        dueIn("k below 5", "k = 5", 0);
        dueIn("k below 5", "k = -999999999", 1);
        dueIn("k below 5", "k = '4'", 0);
        dueIn("k above -5", "k = -4", 1);
        dueIn("k above -5", "k = -5", 0);
        dueIn("k above -5", "k = 'x'", 0);
        dueIn("k begins 'ab'", "k = 'abc'", 1);
        dueIn("k begins 'ab'", "k = 'ab'", 1);
        dueIn("k begins 'ab'", "k = 'a'", 0);
        dueIn("k begins 'ab'", "k = 'cab'", 0);
        dueIn("k begins 'ab'", "k = 'cb'", 0);
        dueIn("k begins 'ab'", "k = 'ac'", 0);
        dueIn("k begins ''", "k = 'a'", 1);
        dueIn("k begins 'a'", "k = ''", 0);
        dueIn("k ends 'ab'", "k = 'ab'", 1);
        dueIn("k ends 'ab'", "k = 'abab'", 1);
        dueIn("k ends 'ab'", "k = 'cb'", 0);
        dueIn("k ends 'a'", "k = ''", 0);
        dueIn("k ends ''", "k = 'a'", 1);
        dueIn("k holds 'ab'", "k = 'ab'", 1);
        dueIn("k holds 'ab'", "k = 'aab'", 1);
        dueIn("k holds 'ab'", "k = 'aba'", 1);
        dueIn("k holds 'ab'", "k = 'acb'", 0);
        dueIn("k holds 'ab'", "k = 'ba'", 0);
        dueIn("k holds 'a'", "k = ''", 0);
        dueIn("k holds '0123456789abcdef'", "k = '0123456789abcdef'", 1);
        dueIn("k holds '0123456789abcdef'", "k = '0123456789abcde'", 0);
        dueIn("k begins '1'", "k = 12", 0);
        dueIn("k ends 'bc'", "k = 'abc'", 1);
        dueIn("k ends 'bc'", "k = 'abcd'", 0);
        dueIn("k ends 'bc'", "k = 'c'", 0);
        dueIn("k ends '2'", "k = 12", 0);
        dueIn("k holds 'aab'", "k = 'aaab'", 1);
        dueIn("k holds 'aab'", "k = 'aaba'", 1);
        dueIn("k holds 'aab'", "k = 'aa'", 0);
        dueIn("k holds ''", "k = ''", 1);
        dueIn("k begins '' and k ends ''", "k = ''", 1);
        dueIn("k holds ''", "k = 0", 0);
        dueIn("k given", "k = ''", 1);
    }

    private static void expressions() {
        dueIn("true or true and false", "k = 1", 1);
        dueIn("(true or true) and false", "k = 1", 0);
        dueIn("not false and false", "k = 1", 0);
        dueIn("not (false and false)", "k = 1", 1);
        dueIn("not not not true", "k = 1", 0);
        dueIn("false or false or k is 1", "k = 1", 1);
        dueIn("true and true and k is 2", "k = 1", 0);
        dueIn("false and true or false and true or true and true", "k = 1", 1);
        dueIn("false or true or false", "k = 1", 1);
        dueIn("true or false or false", "k = 1", 1);
        dueIn("false or false or false", "k = 1", 0);
        dueIn("true and false and true", "k = 1", 0);
        dueIn("false and true and true", "k = 1", 0);
        dueIn("true and true and true", "k = 1", 1);
        dueIn("(false or true) and (true or false) and not (false or false)", "k = 1", 1);
        dueIn("not true or true", "k = 1", 1);
        dueIn("not (true or true)", "k = 1", 0);
    }

    private static void segments() {
        Probe probe = Probe.loaded("segment a = k is 1; segment b = not in a; segment c = in a or in b and k given;"
                + "flag f : num { default 0; off 9; rule in c and not in b -> 1; rule in c -> 2; }");
        int[][] want = {{0, 1, 0, 0}, {1, 0, 1, 1}, {0, 1, 1, 2}};
        String[] things = {"other = 1", "k = 1", "k = 2"};
        for (int i = 0; i < things.length; i++) {
            probe.knowing(things[i]);
            for (int s = 0; s < 3; s++) {
                Probe.due("isIn(" + s + ") with " + things[i], probe.x().isIn(s), want[i][s]);
            }
            Probe.due("value with " + things[i], probe.x().value(0, -1), want[i][3]);
        }
        for (int segment : new int[] {-1, 3, Integer.MIN_VALUE, Integer.MAX_VALUE}) {
            Probe.dueThrow("isIn(" + segment + ")", Probe.INDEX, () -> probe.x().isIn(segment));
        }
    }

    private static void places() {
        Probe probe = Probe.loaded("flag r : num { default split k 'zebra' (1:1, 0:2, 9999:3); off 0; }"
                + "flag q : num { default roll 5000 k 'z' 1 else 2; off 0; }");
        String[] things = {"k = 'a'", "k = 'user1'", "k = -17", "k = 0", "k = 123456789", "k = -999999999", "k = ''", "k = '0'"};
        int[] zebra = {5003, 1637, 8410, 8552, 7384, 1291, 3116, 8552};
        int[] z = {1339, 3531, 2822, 1564, 2489, 22, 2016, 1564};
        for (int i = 0; i < things.length; i++) {
            probe.knowing(things[i]);
            probe.dueValue(0, -1, 3, 0, -1, -1, zebra[i], -1);
            probe.dueValue(1, -1, 1, 0, -1, -1, z[i], -1);
        }
    }

    /** The place of 'z' and 'a' is 1339: shares that end just there, and just behind it. */
    private static void serving() {
        String text = "flag f : num { default 0; off 9;"
                + " rule n is 0 -> split k 'z' (1339:1, 8661:2);"
                + " rule n is 1 -> split k 'z' (1340:1, 8660:2);"
                + " rule n is 2 -> split k 'z' (1000:1, 339:2, 0:3, 1:4, 8660:5);"
                + " rule n is 3 -> roll 1339 k 'z' 1 else 2;"
                + " rule n is 4 -> roll 1340 k 'z' 1 else 2;"
                + " rule n is 5 -> roll 0 k 'z' 1 else 2;"
                + " rule n is 6 -> roll 10000 k 'z' 1 else 2; }";
        Probe probe = Probe.loaded(text).knowing("k = 'a'");
        int[] known = {2, 1, 4, 2, 1, 2, 1};
        int[] unknown = {2, 2, 5, 2, 2, 2, 2};
        for (int i = 0; i < known.length; i++) {
            probe.knowing("n = " + i);
            probe.dueValue(0, -1, known[i], 2, -1, i, 1339, -1);
        }
        probe.x().forget();
        for (int i = 0; i < unknown.length; i++) {
            probe.knowing("n = " + i);
            probe.dueValue(0, -1, unknown[i], 2, -1, i, -1, -1);
        }
        probe.knowing("n = 7");
        probe.dueValue(0, -1, 0, 0, -1, -1, -1, -1);
    }

    private static void layers() {
        Probe probe = Probe.loaded("flag a : num { default 1; off 2; rule k is 1 -> 3; rule k given -> 4; }"
                + "flag b : choice(x, y) { default x; off y; }"
                + "layer base { set a = 10; set a = 11; rule a k is 5 -> 12; rule b k is 5 -> y; rule a k above 4 -> 13; }"
                + "layer mid of base { rule a k is 6 -> 14; }"
                + "layer top of mid { set a = roll 10000 k 'z' 15 else 16; off b; rule a k is 7 -> 17; }"
                + "layer hard of top { set a = 18; rule a true -> 19; off a; set b = x; }"
                + "layer free { }");
        probe.dueValue(0, -1, 1, 0, -1, -1, -1, -1);
        probe.dueValue(0, 0, 10, 5, 0, -1, -1, -1);
        probe.dueValue(0, 1, 10, 5, 0, -1, -1, -1);
        probe.dueValue(0, 2, 16, 5, 2, -1, -1, -1);
        probe.dueValue(0, 3, 2, 3, 3, -1, -1, -1);
        probe.dueValue(1, 3, 0, 5, 3, -1, -1, -1);
        probe.dueValue(1, 2, 1, 3, 2, -1, -1, -1);
        probe.dueValue(1, 1, 0, 0, -1, -1, -1, -1);
        probe.dueValue(0, 4, 1, 0, -1, -1, -1, -1);
        probe.knowing("k = 1");
        probe.dueValue(0, -1, 3, 2, -1, 0, -1, -1);
        probe.dueValue(0, 4, 3, 2, -1, 0, -1, -1);
        probe.dueValue(0, 0, 10, 5, 0, -1, -1, -1);
        probe.knowing("k = 5");
        probe.dueValue(0, -1, 4, 2, -1, 1, -1, -1);
        probe.dueValue(0, 0, 12, 4, 0, 2, -1, -1);
        probe.dueValue(1, 1, 1, 4, 0, 3, -1, -1);
        probe.knowing("k = 6");
        probe.dueValue(0, 0, 13, 4, 0, 4, -1, -1);
        probe.dueValue(0, 1, 14, 4, 1, 5, -1, -1);
        probe.knowing("k = 7");
        probe.dueValue(0, 2, 17, 4, 2, 6, -1, -1);
        probe.dueValue(0, 3, 2, 3, 3, -1, -1, -1);
        probe.knowing("k = 'a'");
        probe.dueValue(0, 2, 15, 5, 2, -1, 1339, -1);
    }

    private static void needs() {
        Probe probe = Probe.loaded("flag top : num { default 1; off 0; needs mid = y; needs low = 5; rule true -> 2; }"
                + "flag mid : choice(x, y) { default y; off x; needs low = 5; }"
                + "flag low : num { default 5; off 6; rule k is 1 -> 7; }"
                + "layer a { set low = 8; } layer b of a { set mid = y; } layer c of b { set top = 9; } layer d { off low; }");
        probe.dueValue(0, -1, 2, 2, -1, 0, -1, -1);
        probe.dueValue(1, -1, 1, 0, -1, -1, -1, -1);
        probe.dueValue(0, 0, 0, 1, -1, -1, -1, 1);
        probe.dueValue(1, 0, 0, 1, -1, -1, -1, 2);
        probe.dueValue(0, 1, 0, 1, -1, -1, -1, 2);
        probe.dueValue(0, 2, 9, 5, 2, -1, -1, -1);
        probe.dueValue(0, 3, 0, 1, -1, -1, -1, 1);
        probe.knowing("k = 1");
        probe.dueValue(0, -1, 0, 1, -1, -1, -1, 1);
        probe.dueValue(2, -1, 7, 2, -1, 1, -1, -1);
    }

    /** Twenty-four flags, each needing the next one four times: none may be looked at 4^23 times. */
    private static void manyNeeds() {
        StringBuilder text = new StringBuilder();
        for (int i = 0; i < 24; i++) {
            text.append("flag f").append(i).append(":bool{default true;off false;");
            if (i < 23) {
                text.append(Probe.times(4, "needs f" + (i + 1) + "=true;"));
            } else {
                text.append("rule k given->false;");
            }
            text.append("}");
        }
        Probe probe = Probe.loaded(text.toString());
        probe.dueValue(0, -1, 1, 0, -1, -1, -1, -1);
        Probe.due("needs(0)", probe.x().needs(0), 0xfffffe);
        Probe.due("order(0)", probe.x().order(0), 23);
        probe.knowing("k = 1");
        probe.dueValue(0, -1, 0, 1, -1, -1, -1, 1);
    }

    private static void whyBeforeAny() {
        Probe probe = Probe.loaded("flag a : bool { default true; off false; }");
        for (int what = 0; what < 5; what++) {
            Probe.due("why(" + what + ") before any", probe.x().why(what), -1);
        }
        Probe.dueThrow("value(1, -1)", Probe.INDEX, () -> probe.x().value(1, -1));
        Probe.due("why(0) behind a value that threw", probe.x().why(0), -1);
        probe.dueValue(0, -1, 1, 0, -1, -1, -1, -1);
        Probe.dueThrow("value(0, 0)", Probe.INDEX, () -> probe.x().value(0, 0));
        Probe.due("why(0) stays", probe.x().why(0), 0);
        probe.x().forget();
        probe.knowing("k = 1");
        Probe.due("why(0) stays", probe.x().why(0), 0);
        probe.tape("#");
        probe.x().load();
        Probe.due("why(0) stays behind a fault", probe.x().why(0), 0);
        probe.tape("flag a : bool { default true; off false; }");
        probe.x().load();
        Probe.due("why(0) behind a right load", probe.x().why(0), -1);
        for (int what : new int[] {-1, 5, Integer.MIN_VALUE, Integer.MAX_VALUE}) {
            Probe.dueThrow("why(" + what + ")", Probe.INDEX, () -> probe.x().why(what));
        }
    }

    private static void wrongNumbers() {
        FlagLayers x = Probe.loaded("flag a : bool { default true; off false; } layer l { }").x();
        int[][] wrong = {{-1, -1}, {1, -1}, {0, -2}, {0, 1}, {Integer.MAX_VALUE, 0}, {Integer.MIN_VALUE, 0},
            {0, Integer.MAX_VALUE}, {0, Integer.MIN_VALUE}, {32, 0}};
        for (int[] w : wrong) {
            Probe.dueThrow("value(" + w[0] + ", " + w[1] + ")", Probe.INDEX, () -> x.value(w[0], w[1]));
        }
    }

    /** A flag that is needed may be worth what is needed by its off, too; it is all or nothing, in order. */
    private static void neededWorths() {
        Probe probe = Probe.loaded("flag top : bool { default true; off false; needs mid = 6; }"
                + "flag mid : num { default 5; off 6; needs low = x; rule k is 2 -> 6; }"
                + "flag low : choice(w, x) { default w; off w; rule k given -> x; }"
                + "flag never : bool { default true; off false; needs low = w; needs low = x; needs mid = 5; }");
        probe.dueValue(1, -1, 6, 1, -1, -1, -1, 2);
        probe.dueValue(0, -1, 1, 0, -1, -1, -1, -1);
        probe.dueValue(3, -1, 0, 1, -1, -1, -1, 2);
        probe.knowing("k = 1");
        probe.dueValue(1, -1, 5, 0, -1, -1, -1, -1);
        probe.dueValue(0, -1, 0, 1, -1, -1, -1, 1);
        probe.dueValue(3, -1, 0, 1, -1, -1, -1, 2);
        probe.knowing("k = 2");
        probe.dueValue(1, -1, 6, 2, -1, 0, -1, -1);
        probe.dueValue(0, -1, 1, 0, -1, -1, -1, -1);
        // Of four needs the last one is looked at, too.
        Probe four = Probe.loaded("flag a:num{default 1;off 0;needs b=1;needs c=1;needs d=1;needs e=1;}"
                + "flag b:num{default 1;off 0;}flag c:num{default 1;off 0;}flag d:num{default 1;off 0;}flag e:num{default 1;off 0;}"
                + "layer l{set e=2;}layer m of l{set c=2;}layer n{off b;off e;}");
        four.dueValue(0, -1, 1, 0, -1, -1, -1, -1);
        four.dueValue(0, 0, 0, 1, -1, -1, -1, 4);
        four.dueValue(0, 1, 0, 1, -1, -1, -1, 2);
        four.dueValue(0, 2, 0, 1, -1, -1, -1, 1);
    }

    /** Eight layers, each of the one before it: the last one is reached through all of them. */
    private static void eightLayers() {
        StringBuilder text = new StringBuilder("flag a : num { default 1; off 2; } flag b : num { default 3; off 4; }");
        text.append("layer l0 { set a = 10; rule b k is 1 -> 11; }");
        for (int i = 1; i < 8; i++) {
            text.append("layer l").append(i).append(" of l").append(i - 1).append(" { rule a k is ").append(i + 10).append(" -> ")
                    .append(i).append("; }");
        }
        Probe probe = Probe.loaded(text.toString());
        probe.dueValue(0, 7, 10, 5, 0, -1, -1, -1);
        probe.dueValue(1, 7, 3, 0, -1, -1, -1, -1);
        probe.knowing("k = 1");
        probe.dueValue(1, 7, 11, 4, 0, 0, -1, -1);
        probe.knowing("k = 14");
        probe.dueValue(0, 7, 4, 4, 4, 4, -1, -1);
        probe.dueValue(0, 4, 4, 4, 4, 4, -1, -1);
        probe.dueValue(0, 3, 10, 5, 0, -1, -1, -1);
        probe.dueValue(0, -1, 1, 0, -1, -1, -1, -1);
    }

    /** In one layer off comes before rules and these before set, wherever they stand; the layer before the one it is of. */
    private static void layersTellInTheirOrder() {
        Probe probe = Probe.loaded("flag a : num { default 1; off 2; } flag b : num { default 3; off 4; } flag c : num { default 5; off 6; }"
                + "layer base { off a; off c; off b; }"
                + "layer up of base { set b = 7; set b = 8; rule b k is 1 -> 9; rule b k given -> 10; rule c k is 2 -> 11; }"
                + "layer two { off a; off b; off a; }");
        probe.dueValue(0, 0, 2, 3, 0, -1, -1, -1);
        probe.dueValue(1, 0, 4, 3, 0, -1, -1, -1);
        probe.dueValue(2, 0, 6, 3, 0, -1, -1, -1);
        probe.dueValue(0, 1, 2, 3, 0, -1, -1, -1);
        probe.dueValue(1, 1, 7, 5, 1, -1, -1, -1);
        probe.dueValue(2, 1, 6, 3, 0, -1, -1, -1);
        probe.dueValue(0, 2, 2, 3, 2, -1, -1, -1);
        probe.dueValue(1, 2, 4, 3, 2, -1, -1, -1);
        probe.dueValue(2, 2, 5, 0, -1, -1, -1, -1);
        probe.knowing("k = 1");
        probe.dueValue(1, 1, 9, 4, 1, 0, -1, -1);
        probe.knowing("k = 2");
        probe.dueValue(1, 1, 10, 4, 1, 1, -1, -1);
        probe.dueValue(2, 1, 11, 4, 1, 2, -1, -1);
    }

    /** value() goes by what is known when it is asked, though nothing else was asked in between. */
    private static void whatIsKnownNow() {
        Probe probe = Probe.loaded("segment s = k is 1; segment t = in s; flag a : num { default 0; off 9; rule in t -> 1; }");
        probe.dueValue(0, -1, 0, 0, -1, -1, -1, -1);
        probe.knowing("k = 1");
        probe.dueValue(0, -1, 1, 2, -1, 0, -1, -1);
        probe.knowing("k = 2");
        probe.dueValue(0, -1, 0, 0, -1, -1, -1, -1);
        probe.knowing("k = 1");
        Probe.due("isIn(1)", probe.x().isIn(1), 1);
        probe.x().forget();
        probe.dueValue(0, -1, 0, 0, -1, -1, -1, -1);
        Probe.due("isIn(1) of nobody", probe.x().isIn(1), 0);
        // Another text goes by what is known, too.
        probe.knowing("k = 1");
        probe.tape("segment u = true; segment v = k is 2; flag b : num { default 5; off 9; rule in v -> 6; rule in u -> 7; }");
        probe.x().load();
        probe.dueValue(0, -1, 7, 2, -1, 1, -1, -1);
    }

    private static void whyOfLastRule() {
        Probe probe = Probe.loaded("flag a:num{default 1;off 0;" + Probe.times(60, "rule false->2;") + "}flag b:num{default 1;off 0;"
                + "rule k is 1->3;}layer l{" + Probe.times(38, "rule a false->4;") + "rule a true->5;}");
        probe.dueValue(0, 0, 5, 4, 0, 99, -1, -1);
        probe.dueValue(1, 0, 1, 0, -1, -1, -1, -1);
        probe.knowing("k = 1");
        probe.dueValue(1, 0, 3, 2, -1, 60, -1, -1);
        probe.dueValue(0, -1, 1, 0, -1, -1, -1, -1);
    }
}
