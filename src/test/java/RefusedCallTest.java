/** All promises: a call that is refused, or whose text has a fault, changes nothing but what the document says. */
public final class RefusedCallTest {
    private static final String TEXT = "segment s = k given; segment t = in s and k is 1;"
            + "flag a : bool { default roll 3000 k 'a' true else false; off false; needs b = 1; rule in t -> true; }"
            + "flag b : num { default 1; off -1; rule k is 2 -> split k '' (5000:1, 5000:2); }"
            + "layer l { off a; set b = 7; } layer m of l { rule b k is 3 -> 8; }";

    public static void main(String[] args) {
        refusedFeed();
        refusedEnd();
        faultyLoad();
        rightLoad();
        refusedKnow();
        refusedKnowOfNinth();
        refusedFind();
        refusedQuestions();
        questionsChangeNothing();
        nothingInNewObject();
        calls512();
        Probe.finish();
    }

    private static Probe made() {
        Probe probe = Probe.loaded(TEXT).knowing("k = 3", "m = 'x'");
        probe.dueValue(1, 1, 8, 4, 1, 2, -1, -1);
        return probe;
    }

    /** All that can be asked without a change: counts, names, flags, reasons, segments, needs, order, shares. */
    private static String state(FlagLayers x) {
        StringBuilder all = new StringBuilder();
        for (int what = 0; what < 8; what++) {
            all.append(x.count(what)).append(' ');
        }
        for (int kind = 0; kind < 3; kind++) {
            for (int i = 0; i < x.count(kind); i++) {
                all.append((char) x.name(kind, i, 0)).append(x.name(kind, i, FlagLayers.NONE)).append(' ');
            }
        }
        for (int i = 0; i < x.count(1); i++) {
            for (int what = 0; what < 5; what++) {
                all.append(x.flag(i, what)).append(' ');
            }
            all.append(x.needs(i)).append(' ').append(x.order(i)).append(' ');
        }
        for (int what = 0; what < 5; what++) {
            all.append(x.why(what)).append(' ');
        }
        for (int i = 0; i < x.count(0); i++) {
            all.append(x.isIn(i)).append(' ');
        }
        for (int i = 0; i < x.count(5); i++) {
            all.append(x.share(i, 1)).append(' ');
        }
        return all.toString();
    }

    private static void dueState(String call, FlagLayers x, String want) {
        String got = state(x);
        Probe.due(call + " leaves all as it was: " + got + "is due as " + want, got.equals(want) ? 1 : 0, 1);
    }

    private static void refusedFeed() {
        for (int length : new int[] {5981, 5990, 5999, 6000}) {
            Probe probe = new Probe();
            probe.tape("k = 1" + Probe.times(length - 5, " "));
            Probe.dueThrow("feed behind " + length + " bytes", Probe.STATE, () -> probe.x().feed(-1, -1, -1, -1, -1));
            Probe.dueThrow("the tape is no longer", Probe.ARGUMENT, () -> end(probe.x(), length + 1));
            Probe.due("know of what stays", probe.x().know(), 1);
            Probe.due("feed when it is used up", probe.x().feed(0, 0, 0, 0, 0), 20);
        }
    }

    private static long end(FlagLayers x, int n) {
        x.end(n);
        return 0;
    }

    private static void refusedEnd() {
        for (int n : new int[] {-1, 6, Integer.MIN_VALUE, Integer.MAX_VALUE}) {
            Probe probe = made();
            String before = state(probe.x());
            probe.tape("n = 1");
            Probe.dueThrow("end(" + n + ")", Probe.ARGUMENT, () -> end(probe.x(), n));
            dueState("end(" + n + ")", probe.x(), before);
            Probe.due("know of what stays", probe.x().know(), 1);
        }
    }

    private static void faultyLoad() {
        String[] faulty = {"#", "flag", "segment s = in z;", "layer l { off z; }", TEXT + "layer l", TEXT + "flag z : bool",
            "flag z:bool{default roll 10001", "flag z:bool{default true;off true;needs y=1;}",
            "flag z:bool{default true;off true;needs y=1;}flag y:bool{default true;off true;}",
            "flag z:bool{default true;off true;needs y=true;}flag y:bool{default true;off true;needs z=true;}",
            Probe.times(9, "layer l{}"), "segment s=" + Probe.times(21, "("),
            "flag z:bool{default true;off true;}" + Probe.times(2, "layer m{off z;set z=split k''(10000:true);rule z true->true;}")};
        int[] kinds = {1, 2, 3, 3, 3, 2, 4, 3, 2, 6, 3, 5, 3};
        for (int i = 0; i < faulty.length; i++) {
            Probe probe = made();
            String before = state(probe.x());
            probe.tape(faulty[i]);
            Probe.due("load of " + faulty[i] + " has a fault", probe.x().load() < 0 ? 1 : 0, 1);
            Probe.due("the fault of " + faulty[i], probe.x().fault(), kinds[i]);
            dueState("load of " + faulty[i], probe.x(), before);
            Probe.due("load uses a faulty text up", probe.x().feed(0, 0, 0, 0, 0), 20);
            probe.dueValue(1, 1, 8, 4, 1, 2, -1, -1);
            probe.dueValue(0, 0, 0, 3, 0, -1, -1, -1);
        }
    }

    private static void rightLoad() {
        Probe probe = made();
        probe.tape("flag z:num{default 4;off 5;}");
        Probe.due("load in place of what there was", probe.x().load(), 1);
        int[] counts = {0, 1, 0, 0, 0, 0, 0, 2};
        for (int what = 0; what < counts.length; what++) {
            Probe.due("count(" + what + ") of it", probe.x().count(what), counts[what]);
        }
        for (int what = 0; what < 5; what++) {
            Probe.due("why(" + what + ") before any value of it", probe.x().why(what), FlagLayers.NONE);
        }
        probe.dueValue(0, -1, 4, 0, -1, -1, -1, -1);
        Probe.dueThrow("a layer that there was", Probe.INDEX, () -> probe.x().value(0, 0));
        Probe.due("load of a used up tape", probe.x().load(), 0);
        Probe.due("why(0) behind it", probe.x().why(0), FlagLayers.NONE);
        Probe.due("what is known stays", probe.x().forget(), 2);
    }

    private static void refusedKnow() {
        for (String thing : new String[] {"", "k", "k =", "k = true", "k = 4 4", "flag = 4", "k = '", "4 = k", "k = 1234567890"}) {
            Probe probe = made();
            probe.tape("#");
            probe.x().load();
            String before = state(probe.x());
            probe.tape(thing);
            Probe.dueThrow("know " + thing, Probe.ARGUMENT, () -> probe.x().know());
            dueState("know " + thing, probe.x(), before);
            Probe.due("fault stays behind know " + thing, probe.x().fault(), 1);
            Probe.due("the tape is used up by " + thing, probe.x().feed(0, 0, 0, 0, 0), 20);
            probe.dueValue(1, 1, 8, 4, 1, 2, -1, -1);
        }
    }

    private static void refusedKnowOfNinth() {
        StringBuilder text = new StringBuilder();
        Probe probe = Probe.loaded(segmentsOfEight(text));
        for (int i = 0; i < 8; i++) {
            Probe.due("things known", probe.x().count(7), i);
            probe.knowing("k" + i + " = " + i);
        }
        String before = state(probe.x());
        probe.tape("k8 = 8");
        Probe.dueThrow("know a ninth thing", Probe.STATE, () -> probe.x().know());
        Probe.due("the tape is used up", probe.x().feed(0, 0, 0, 0, 0), 20);
        dueState("know a ninth thing", probe.x(), before);
        for (int i = 0; i < 9; i++) {
            Probe.due("k" + i + " is known", probe.x().isIn(i), i < 8 ? 1 : 0);
        }
        // Not a right thing, so that it is not asked whether there is room.
        probe.tape("k8 = given");
        Probe.dueThrow("know a wrong ninth thing", Probe.ARGUMENT, () -> probe.x().know());
        probe.tape("not = 8");
        Probe.dueThrow("know a ninth thing without a NAME", Probe.ARGUMENT, () -> probe.x().know());
        probe.knowing("k7 = 8");
        Probe.due("k7 has another thing", probe.x().isIn(7), 0);
        Probe.due("there are eight still", probe.x().forget(), 8);
        probe.knowing("k8 = 8");
        Probe.due("k8 is known", probe.x().isIn(8), 1);
        Probe.due("k0 is not", probe.x().isIn(0), 0);
    }

    private static String segmentsOfEight(StringBuilder text) {
        for (int i = 0; i < 9; i++) {
            text.append("segment s").append(i).append(" = k").append(i).append(" is ").append(i).append(";");
        }
        return text.toString();
    }

    private static void refusedFind() {
        for (int kind : new int[] {-1, 3, Integer.MIN_VALUE, Integer.MAX_VALUE}) {
            Probe probe = made();
            String before = state(probe.x());
            probe.tape("m");
            Probe.dueThrow("find(" + kind + ")", Probe.INDEX, () -> probe.x().find(kind));
            dueState("find(" + kind + ")", probe.x(), before);
            Probe.due("feed behind the tape that stays", probe.x().feed(0, 0, 0, 0, 0), 21);
            probe.x().end(1);
            Probe.due("find of the tape that stays", probe.x().find(2), 1);
            Probe.due("find that found uses the tape up", probe.x().find(2), FlagLayers.NONE);
        }
    }

    private static void refusedQuestions() {
        int[] wrong = {Integer.MIN_VALUE, -2, 24, 100, Integer.MAX_VALUE};
        for (int w : wrong) {
            Probe probe = made();
            FlagLayers x = probe.x();
            String before = state(x);
            probe.tape("n = 1");
            Probe.dueThrow("count(" + w + ")", Probe.INDEX, () -> x.count(w));
            Probe.dueThrow("name(" + w + ", 0, 0)", Probe.INDEX, () -> x.name(w, 0, 0));
            Probe.dueThrow("name(0, " + w + ", 0)", Probe.INDEX, () -> x.name(0, w, 0));
            Probe.dueThrow("name(0, 0, " + w + ")", Probe.INDEX, () -> x.name(0, 0, w));
            Probe.dueThrow("flag(" + w + ", 0)", Probe.INDEX, () -> x.flag(w, 0));
            Probe.dueThrow("flag(0, " + w + ")", Probe.INDEX, () -> x.flag(0, w));
            Probe.dueThrow("value(" + w + ", 0)", Probe.INDEX, () -> x.value(w, 0));
            Probe.dueThrow("value(0, " + w + ")", Probe.INDEX, () -> x.value(0, w));
            Probe.dueThrow("value(" + w + ", " + w + ")", Probe.INDEX, () -> x.value(w, w));
            Probe.dueThrow("why(" + w + ")", Probe.INDEX, () -> x.why(w));
            Probe.dueThrow("isIn(" + w + ")", Probe.INDEX, () -> x.isIn(w));
            Probe.dueThrow("needs(" + w + ")", Probe.INDEX, () -> x.needs(w));
            Probe.dueThrow("order(" + w + ")", Probe.INDEX, () -> x.order(w));
            Probe.dueThrow("share(" + w + ", " + w + ")", Probe.INDEX, () -> x.share(w, w));
            dueState("questions with " + w, x, before);
            Probe.due("the tape stays behind them", x.know(), 1);
        }
    }

    /** value() alone changes what why() answers; nothing else that is asked changes anything. */
    private static void questionsChangeNothing() {
        Probe probe = made();
        String before = state(probe.x());
        dueState("asking", probe.x(), before);
        probe.find(1, "a");
        dueState("find", probe.x(), before);
        probe.x().fault();
        probe.x().feed(0, 0, 0, 0, 0);
        dueState("feed", probe.x(), before);
        probe.dueValue(0, -1, 0, 0, -1, -1, 8204, -1);
    }

    private static void nothingInNewObject() {
        FlagLayers x = new FlagLayers();
        for (int kind = 0; kind < 3; kind++) {
            int k = kind;
            Probe.dueThrow("name(" + kind + ", 0, NONE)", Probe.INDEX, () -> x.name(k, 0, FlagLayers.NONE));
            Probe.due("find(" + kind + ") of an empty tape", x.find(kind), FlagLayers.NONE);
        }
        Probe.dueThrow("flag(0, 0)", Probe.INDEX, () -> x.flag(0, 0));
        Probe.dueThrow("value(0, NONE)", Probe.INDEX, () -> x.value(0, FlagLayers.NONE));
        Probe.dueThrow("isIn(0)", Probe.INDEX, () -> x.isIn(0));
        Probe.dueThrow("needs(0)", Probe.INDEX, () -> x.needs(0));
        Probe.dueThrow("order(0)", Probe.INDEX, () -> x.order(0));
        Probe.dueThrow("share(0, 0)", Probe.INDEX, () -> x.share(0, 0));
        Probe.dueThrow("know of an empty tape", Probe.ARGUMENT, () -> x.know());
        Probe.due("load of an empty tape", x.load(), 0);
        Probe.due("fault of it", x.fault(), 0);
    }

    /** An object has 512 calls: two texts of half the tape, and questions until the last call. */
    private static void calls512() {
        FlagLayers x = new FlagLayers();
        for (int text = 0; text < 2; text++) {
            for (int i = 1; i <= 200; i++) {
                Probe.due("feed", x.feed(0x73656720, 0x20202020, 0x20202020, 0x20202020, 0x20202020), 20L * i);
            }
            Probe.due("load of a NAME", x.load(), -1);
        }
        for (int call = 403; call <= 512; call++) {
            Probe.due("call " + call, x.fault(), 2);
        }
    }
}
