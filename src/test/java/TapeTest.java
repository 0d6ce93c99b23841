/** Promises 1 to 3: a new object, feed, end. */
public final class TapeTest {
    public static void main(String[] args) {
        newObject();
        feeding();
        fullTape();
        cutting();
        orderOfBytes();
        emptyTape();
        usedUp();
        Probe.finish();
    }

    private static void newObject() {
        FlagLayers x = new FlagLayers();
        for (int what = 0; what < 8; what++) {
            Probe.due("count of a new object", x.count(what), 0);
        }
        Probe.due("fault of a new object", x.fault(), 0);
        Probe.due("forget of a new object", x.forget(), 0);
        for (int what = 0; what < 5; what++) {
            Probe.due("why of a new object", x.why(what), FlagLayers.NONE);
        }
        Probe.dueThrow("end(1) of a new object", Probe.ARGUMENT, () -> {
            x.end(1);
            return 0;
        });
        Probe.dueThrow("value of a new object", Probe.INDEX, () -> x.value(0, -1));
        Probe.due("load of an empty tape", x.load(), 0);
        Probe.due("NONE", FlagLayers.NONE, -1);
    }

    private static void feeding() {
        FlagLayers x = new FlagLayers();
        Probe.due("feed", x.feed(0x73656720, 0x3d207472, 0x75653b20, 0x20202020, 0x20202020), 20);
        Probe.due("feed", x.feed(0, 0, 0, 0, 0), 40);
        x.end(0);
        // "k = 'abcdefghijklmn'" in twenty bytes, the highest of each number first.
        x.feed(0x6b203d20, 0x27616263, 0x64656667, 0x68696a6b, 0x6c6d6e27);
        Probe.due("know of twenty bytes", x.know(), 1);
        Probe.due("feed behind what know used up", x.feed(-1, -1, -1, -1, -1), 20);
    }

    private static void fullTape() {
        FlagLayers x = new FlagLayers();
        for (int i = 1; i <= 300; i++) {
            Probe.due("feed number " + i, x.feed(0x20202020, 0x20202020, 0x20202020, 0x20202020, 0x20202020), 20L * i);
        }
        Probe.dueThrow("feed of a full tape", Probe.STATE, () -> x.feed(0, 0, 0, 0, 0));
        x.end(5981);
        Probe.dueThrow("feed of 5981 bytes", Probe.STATE, () -> x.feed(0, 0, 0, 0, 0));
        x.end(5980);
        Probe.due("feed of 5980 bytes", x.feed(0x20202020, 0x20202020, 0x20202020, 0x20202020, 0x20202023), 6000);
        Probe.due("load of a full tape", x.load(), -6000);
        Probe.due("its fault", x.fault(), 1);
    }

    private static void cutting() {
        FlagLayers x = new FlagLayers();
        x.feed(0x61626364, 0, 0, 0, 0);
        dueNoEnd(x, -1);
        dueNoEnd(x, 21);
        dueNoEnd(x, Integer.MIN_VALUE);
        dueNoEnd(x, Integer.MAX_VALUE);
        x.end(20);
        x.end(3);
        dueNoEnd(x, 4);
        Probe.due("feed behind a cut", x.feed(0, 0, 0, 0, 0), 23);
        x.end(0);
        dueNoEnd(x, 1);
        Probe.due("load of what is cut off", x.load(), 0);
    }

    private static void dueNoEnd(FlagLayers x, int n) {
        Probe.dueThrow("end(" + n + ")", Probe.ARGUMENT, () -> {
            x.end(n);
            return 0;
        });
    }

    /** Each number's highest byte first, the numbers in their order, behind what the tape had. */
    private static void orderOfBytes() {
        FlagLayers x = Probe.loaded("segment s = k is 'abcdefghijklmn'; segment abcdefghijklmnop = true;").x();
        x.feed(0x6b203d20, 0x27616263, 0x64656667, 0x68696a6b, 0x6c6d6e27);
        x.know();
        Probe.due("isIn of what was fed", x.isIn(0), 1);
        x.feed(0x61626364, 0x65666768, 0x696a6b6c, 0x6d6e6f70, 0x71727374);
        x.end(16);
        Probe.due("find of the first sixteen bytes", x.find(0), 1);
        x.feed(0x61626364, 0x65666768, 0x78787878, 0, 0);
        x.end(8);
        x.feed(0x696a6b6c, 0x6d6e6f70, 0, 0, 0);
        x.end(16);
        Probe.due("find of bytes of two feeds", x.find(0), 1);
        for (int high : new int[] {-1, Integer.MIN_VALUE, 0x80808080, 0x7fffffff, 0}) {
            Probe.due("feed of " + high, x.feed(high, high, high, high, high), 20);
            Probe.due("load of " + high, x.load(), -1);
            Probe.due("fault of " + high, x.fault(), 1);
        }
    }

    private static void emptyTape() {
        FlagLayers x = new FlagLayers();
        x.end(0);
        dueNoEnd(x, 1);
        dueNoEnd(x, -1);
        dueNoEnd(x, 20);
        Probe.due("find of an empty tape", x.find(1), FlagLayers.NONE);
        Probe.dueThrow("know of an empty tape", Probe.ARGUMENT, () -> x.know());
        Probe.due("load of an empty tape", x.load(), 0);
        Probe.due("feed to an empty tape", x.feed(0, 0, 0, 0, 0), 20);
        x.end(20);
        x.end(20);
        dueNoEnd(x, 21);
        x.end(1);
        dueNoEnd(x, 2);
        Probe.due("feed behind one byte", x.feed(0, 0, 0, 0, 0), 21);
    }

    /** What reads the tape uses it up, whatever it answers. */
    private static void usedUp() {
        FlagLayers x = new FlagLayers();
        String[] texts = {"", "flag", "segment s = true;", "k = 1", "k"};
        for (String text : texts) {
            for (int call = 0; call < 5; call++) {
                Probe probe = new Probe();
                probe.tape(text + Probe.times(40, " "));
                int which = call;
                try {
                    read(probe.x(), which);
                } catch (IllegalArgumentException refused) {
                    Probe.due("only know refuses " + text, which, 1);
                }
                dueNoEnd(probe.x(), 1);
                Probe.due("feed behind what was used up", probe.x().feed(0, 0, 0, 0, 0), 20);
            }
        }
        // A full tape that is used up has room for another one.
        for (int i = 0; i < 300; i++) {
            x.feed(0x20202020, 0x20202020, 0x20202020, 0x20202020, 0x20202020);
        }
        Probe.due("load of a full tape of blanks", x.load(), 0);
        Probe.due("feed behind it", x.feed(0, 0, 0, 0, 0), 20);
    }

    private static void read(FlagLayers x, int which) {
        switch (which) {
            case 0:
                x.load();
                break;
            case 1:
                x.know();
                break;
            default:
                x.find(which - 2);
        }
    }
}
