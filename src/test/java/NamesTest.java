/** Promises 9, 10 and 11: find, name, flag. */
public final class NamesTest {
    private static final String TEXT = "segment s0 = true; segment both = true;"
            + "flag both : bool { default true; off true; needs n = 3; rule true -> true; rule true -> false; }"
            + "flag n : num { default 1; off -7; }"
            + "flag abcdefghijklmnop : choice(both, n, z) { default z; off n; needs n = 1; needs n = 1; }"
            + "flag off_ : bool { default true; off false; }"
            + "layer n { rule n true -> 3; } layer both of n { }";

    public static void main(String[] args) {
        finding();
        findingWhatIsCut();
        naming();
        eachByteOfEachName();
        flags();
        fullFlag();
        Probe.finish();
    }

    private static void finding() {
        Probe probe = Probe.loaded(TEXT);
        Probe.due("segment both", probe.find(0, "both"), 1);
        Probe.due("flag both", probe.find(1, "both"), 0);
        Probe.due("layer both", probe.find(2, "both"), 1);
        Probe.due("flag of sixteen bytes", probe.find(1, "abcdefghijklmnop"), 2);
        for (String none : new String[] {"", "bot", "both ", " both", "both\0", "Both", "s0", "flag", "z", "b\u00ffth"}) {
            Probe.due("flag " + none, probe.find(1, none), FlagLayers.NONE);
        }
        Probe.due("a tape longer than a name", probe.find(0, Probe.times(300, "both")), FlagLayers.NONE);
        Probe.due("find uses the tape up", probe.x().feed(0, 0, 0, 0, 0), 20);
        for (int kind : new int[] {-1, 3, Integer.MIN_VALUE, Integer.MAX_VALUE}) {
            probe.tape("both");
            Probe.dueThrow("find(" + kind + ")", Probe.INDEX, () -> probe.x().find(kind));
            Probe.due("the tape stays", probe.x().find(0), 1);
        }
        Probe.due("find in nothing", new Probe().find(0, ""), FlagLayers.NONE);
    }

    private static void naming() {
        Probe probe = Probe.loaded(TEXT);
        FlagLayers x = probe.x();
        Probe.due("bytes of segment 0", x.name(0, 0, FlagLayers.NONE), 2);
        Probe.due("bytes of flag 2", x.name(1, 2, FlagLayers.NONE), 16);
        Probe.due("bytes of layer 1", x.name(2, 1, FlagLayers.NONE), 4);
        Probe.due("byte 1 of segment 0", x.name(0, 0, 1), '0');
        Probe.due("byte 15 of flag 2", x.name(1, 2, 15), 'p');
        Probe.due("byte 3 of flag 3", x.name(1, 3, 3), '_');
        Probe.due("byte 0 of layer 1", x.name(2, 1, 0), 'b');
        int[][] wrong = {{-1, 0, 0}, {3, 0, 0}, {0, -1, 0}, {0, 2, 0}, {1, 4, -1}, {2, 2, -1}, {0, 0, 2}, {0, 0, -2},
            {1, 2, 16}, {1, Integer.MAX_VALUE, 0}, {0, 0, Integer.MIN_VALUE}, {0, 0, Integer.MAX_VALUE}};
        for (int[] w : wrong) {
            Probe.dueThrow("name(" + w[0] + ", " + w[1] + ", " + w[2] + ")", Probe.INDEX, () -> x.name(w[0], w[1], w[2]));
        }
        Probe.dueThrow("name of nothing", Probe.INDEX, () -> new FlagLayers().name(0, 0, -1));
    }

    private static void flags() {
        FlagLayers x = Probe.loaded(TEXT).x();
        int[][] want = {{0, 0, 1, 2, 1}, {1, 0, 0, 0, -7}, {2, 3, 2, 0, 1}, {0, 0, 0, 0, 0}};
        for (int i = 0; i < want.length; i++) {
            for (int what = 0; what < 5; what++) {
                Probe.due("flag(" + i + ", " + what + ")", x.flag(i, what), want[i][what]);
            }
        }
        int[][] wrong = {{-1, 0}, {4, 0}, {0, -1}, {0, 5}, {Integer.MAX_VALUE, 0}, {0, Integer.MIN_VALUE}};
        for (int[] w : wrong) {
            Probe.dueThrow("flag(" + w[0] + ", " + w[1] + ")", Probe.INDEX, () -> x.flag(w[0], w[1]));
        }
    }

    /** The tape is the NAME, all of it and nothing behind its end. */
    private static void findingWhatIsCut() {
        Probe probe = Probe.loaded(TEXT);
        probe.tape("both_and_more");
        probe.x().end(4);
        Probe.due("find of what was cut to a NAME", probe.x().find(1), 0);
        probe.tape("both");
        probe.x().end(3);
        Probe.due("find of a NAME that was cut", probe.x().find(1), FlagLayers.NONE);
        Probe.due("find of sixteen bytes and one", probe.find(1, "abcdefghijklmnopq"), FlagLayers.NONE);
        Probe.due("find of fifteen of sixteen bytes", probe.find(1, "abcdefghijklmno"), FlagLayers.NONE);
        Probe.due("find of a name in ' '", probe.find(1, "'both'"), FlagLayers.NONE);
        Probe.due("find of a full tape", probe.find(1, "both" + Probe.times(5996, " ")), FlagLayers.NONE);
    }

    private static void eachByteOfEachName() {
        FlagLayers x = Probe.loaded(TEXT).x();
        String[][] names = {{"s0", "both"}, {"both", "n", "abcdefghijklmnop", "off_"}, {"n", "both"}};
        for (int kind = 0; kind < names.length; kind++) {
            for (int i = 0; i < names[kind].length; i++) {
                dueName(x, kind, i, names[kind][i]);
            }
        }
    }

    private static void dueName(FlagLayers x, int kind, int i, String name) {
        Probe.due("bytes of " + name, x.name(kind, i, FlagLayers.NONE), name.length());
        for (int k = 0; k < name.length(); k++) {
            Probe.due("byte " + k + " of " + name, x.name(kind, i, k), name.charAt(k));
        }
        Probe.dueThrow("byte behind " + name, Probe.INDEX, () -> x.name(kind, i, name.length()));
        Probe.dueThrow("byte -2 of " + name, Probe.INDEX, () -> x.name(kind, i, -2));
    }

    private static void fullFlag() {
        FlagLayers x = Probe.loaded("flag b:num{default 1;off -999999999;}flag a:choice(a,b,c,d,e,f,g,h){default a;off h;"
                + Probe.times(4, "needs b=1;") + Probe.times(100, "rule true->a;") + "}flag c:choice(one){default one;off one;}").x();
        int[][] want = {{1, 0, 0, 0, -999999999}, {2, 8, 4, 100, 7}, {2, 1, 0, 0, 0}};
        for (int i = 0; i < want.length; i++) {
            for (int what = 0; what < 5; what++) {
                Probe.due("flag(" + i + ", " + what + ")", x.flag(i, what), want[i][what]);
            }
        }
        Probe.dueThrow("flag(0, 5)", Probe.INDEX, () -> x.flag(0, 5));
        Probe.dueThrow("flag(3, 0)", Probe.INDEX, () -> x.flag(3, 0));
        // The rules that a layer has for a flag are not its own.
        Probe.due("flag(0, 3)", Probe.loaded("flag a:num{default 1;off 1;}layer l{rule a true->1;}").x().flag(0, 3), 0);
    }
}
