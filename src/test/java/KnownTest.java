/** Promises 6, 7 and 8: count, know, forget. */
public final class KnownTest {
    public static void main(String[] args) {
        counts();
        knowing();
        wrongThings();
        eightThings();
        Probe.finish();
    }

    private static void counts() {
        Probe probe = Probe.loaded("segment s = k given; segment t = in s or true;"
                + "flag a : bool { default roll 1 k 's' true else false; off true; rule not in t -> true; }"
                + "flag b : num { default 1; off 2; needs a = true; rule k among (1, 2) -> split k '' (10000:1); }"
                + "layer l { off a; off b; set a = true; rule a true -> true; }").knowing("k = 1", "m = ''");
        int[] want = {2, 2, 1, 3, 3, 2, 9, 2};
        for (int what = 0; what < want.length; what++) {
            Probe.due("count(" + what + ")", probe.x().count(what), want[what]);
        }
        for (int what : new int[] {-1, 8, Integer.MIN_VALUE, Integer.MAX_VALUE}) {
            Probe.dueThrow("count(" + what + ")", Probe.INDEX, () -> probe.x().count(what));
        }
    }

    private static void knowing() {
        Probe probe = Probe.loaded("segment n = k is 7; segment t = k is '7'; segment g = k given; segment l = K_9 is -5;");
        dueIn(probe, 0, 0, 0, 0);
        probe.knowing("k=7");
        dueIn(probe, 1, 0, 1, 0);
        probe.knowing("\t k \r\n = '7' ");
        Probe.due("known in place of another", probe.x().count(7), 1);
        dueIn(probe, 0, 1, 1, 0);
        probe.knowing("k = 007", "K_9 = -005");
        dueIn(probe, 1, 0, 1, 1);
        Probe.due("forget", probe.x().forget(), 2);
        Probe.due("forget again", probe.x().forget(), 0);
        Probe.due("known after forget", probe.x().count(7), 0);
        dueIn(probe, 0, 0, 0, 0);
        probe.knowing("k = 7");
        probe.tape("");
        probe.x().load();
        Probe.due("load leaves what is known", probe.x().count(7), 1);
    }

    private static void dueIn(Probe probe, int... want) {
        for (int i = 0; i < want.length; i++) {
            Probe.due("isIn(" + i + ")", probe.x().isIn(i), want[i]);
        }
    }

    private static void wrongThings() {
        Probe probe = new Probe();
        for (String thing : new String[] {"", "k", "k =", "k = ;", "k = 7 7", "k = 7;", "k 7", "= 7", "7 = 7", "'k' = 7", "k = v",
                "k = true", "k : 7", "k = 7 #", "k = 12a", "k = 1234567890", "k = 'abcdefghijklmnopq'", "k = 'a", "k = 'a''",
                "abcdefghijklmnopq = 7", "k = - 7", "true = 7", "given = 7", "flag = 'x'", "#", "k = 7\0"}) {
            probe.tape(thing);
            Probe.dueThrow("know " + thing, Probe.ARGUMENT, () -> probe.x().know());
            Probe.due("the tape is used up", probe.x().feed(0, 0, 0, 0, 0), 20);
        }
        Probe.due("known of wrong things", probe.x().count(7), 0);
        probe.knowing("abcdefghijklmnop = 'abcdefghijklmnop'", "k = -123456789", "Flag = ''");
        Probe.due("the tape is used up", probe.x().feed(0, 0, 0, 0, 0), 20);
    }

    private static void eightThings() {
        Probe probe = new Probe();
        for (int i = 0; i < 8; i++) {
            probe.knowing("k" + i + " = " + i);
        }
        probe.tape("k8 = 8");
        Probe.dueThrow("know a ninth thing", Probe.STATE, () -> probe.x().know());
        Probe.due("the tape is used up", probe.x().feed(0, 0, 0, 0, 0), 20);
        probe.tape("k8 = ");
        Probe.dueThrow("know a wrong ninth thing", Probe.ARGUMENT, () -> probe.x().know());
        probe.knowing("k0 = 'x'", "k7 = 'y'");
        Probe.due("known", probe.x().count(7), 8);
        Probe.due("forget eight", probe.x().forget(), 8);
        probe.knowing("k8 = 8");
        Probe.due("known after forget", probe.x().count(7), 1);
    }
}
