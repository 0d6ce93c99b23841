import java.util.Random;

/** All promises: no call throws what the document does not name for it, whatever comes. */
public final class RandomCallsTest {
    private static final String[] PIECES = ("flag bool num choice default off needs rule layer of set segment split roll else in"
            + " not or and true false is below above begins ends holds among given { } ( ) ; , : = -> a b k s l 'a' '' 1 -1 5000"
            + " 10000 10001 # - _ ' 12a").split(" ");
    private static final String RIGHT = "segment s = k is 1 or not (k given); "
            + "flag a : bool { default roll 5000 k 'a' true else false; off false; needs b = 1; rule in s -> true; } "
            + "flag b : num { default 1; off -1; rule k among (1, 'a') and true -> split k '' (5000:1, 5000:2); } "
            + "layer l { off a; set b = 1; rule b true -> 5; } layer k of l { } ";

    private final Random random = new Random(20261115L);
    private final Probe probe = new Probe();

    public static void main(String[] args) {
        for (int i = 0; i < 240; i++) {
            new RandomCallsTest(i).callAll();
        }
        Probe.finish();
    }

    private RandomCallsTest(int seed) {
        random.setSeed(seed);
    }

    private void callAll() {
        for (int i = 0; i < 100; i++) {
            int which = random.nextInt(18);
            try {
                call(which);
            } catch (IllegalStateException e) {
                dueNamed(e, which == 0 || which == 5);
            } catch (IllegalArgumentException e) {
                dueNamed(e, which == 1 || which == 5);
            } catch (IndexOutOfBoundsException e) {
                dueNamed(e, which == 4 || which >= 7 && which <= 15);
            } catch (RuntimeException e) {
                dueNamed(e, false);
            }
        }
    }

    /** What the class throws itself is thrown in one of its own lines, not in the machine or the library. */
    private static void dueNamed(RuntimeException thrown, boolean isNamed) {
        boolean isOwn = thrown.getStackTrace().length > 0
                && thrown.getStackTrace()[0].getClassName().startsWith("FlagLayers")
                && thrown.getClass().getSuperclass() == RuntimeException.class;
        Probe.due(thrown + " is named by the document", isNamed && isOwn ? 1 : 0, 1);
    }

    private int small() {
        return random.nextInt(20) == 0 ? random.nextInt() : random.nextInt(5) - 2;
    }

    private void call(int which) {
        FlagLayers x = probe.x();
        switch (which) {
            case 0: x.feed(random.nextInt(), random.nextInt(), random.nextInt(), random.nextInt(), random.nextInt()); break;
            case 1: x.end(small()); break;
            case 2: x.load(); break;
            case 3: x.fault(); break;
            case 4: x.count(small()); break;
            case 5: x.know(); break;
            case 6: x.forget(); break;
            case 7: x.find(small()); break;
            case 8: x.name(small(), small(), small()); break;
            case 9: x.flag(small(), small()); break;
            case 10: x.value(small(), small()); break;
            case 11: x.why(small()); break;
            case 12: x.isIn(small()); break;
            case 13: x.needs(small()); break;
            case 14: x.order(small()); break;
            case 15: x.share(small(), small()); break;
            case 16: probe.tape("k = " + PIECES[random.nextInt(PIECES.length)]); break;
            default: loadMixedText();
        }
    }

    private void loadMixedText() {
        StringBuilder text = new StringBuilder(RIGHT);
        int changes = random.nextInt(3);
        for (int i = 0; i < changes; i++) {
            int at = random.nextInt(text.length());
            String piece = " " + PIECES[random.nextInt(PIECES.length)] + " ";
            text.replace(at, Math.min(text.length(), at + random.nextInt(4)), piece);
        }
        probe.tape(text.toString());
        int answer = probe.x().load();
        Probe.due("a load is right or has a fault", answer < 0 ? 1 : 0, probe.x().fault() != 0 ? 1 : 0);
    }
}
