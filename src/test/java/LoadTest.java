/** Promises 4 and 5: load and fault, with the tokens, the grammar and the names. */
public final class LoadTest {
    private static final String A = "flag a : bool { default true; off false; ";
    private static final String B = "flag b : num { default 1; off 0; } ";
    private static final String C = "flag c : choice(x, y) { default x; off y; } ";

    public static void main(String[] args) {
        rightTexts();
        tokens();
        misplaced();
        names();
        shares();
        needs();
        rings();
        longRings();
        knownNamesAreAny();
        faultOfLatestLoad();
        firstFromTheLeft();
        whatThereWasStays();
        Probe.finish();
    }

    private static void rightTexts() {
        Probe.dueRight("", 0);
        Probe.dueRight(" \t\r\n", 0);
        Probe.dueRight("segment s=true;segment t=in s;", 0);
        Probe.dueRight("flag a:bool{default true;off false;}layer l{}layer m of l{off a;}", 1);
        Probe.dueRight(A + "}" + B + C, 3);
        Probe.dueRight(A + "rule x is'a'or x is-5->true;}", 1);
        Probe.dueRight(A + "rule x among(1,'b',-3)and not(x given)->split x''(10000:true);}", 1);
        Probe.dueRight(A + "rule x below 1 or x above 2 or x begins '' or x ends 'a' or x holds 'b' -> false; }", 1);
        Probe.dueRight(B + "layer l { rule b true -> roll 0 k 's' -999999999 else 999999999; set b = -0; }", 1);
        Probe.dueRight("flag a : choice(a, l, s) { default a; off s; } segment a = true; layer a { off a; }", 1);
    }

    private static void tokens() {
        for (String bad : new String[] {"#", "_", "_a", ">", "-", "- 1", "--1", "-a", "\"", "\0", "\u0080", "\u00ff", "\u000b",
                "abcdefghijklmnopq", "1234567890", "-1234567890", "12a", "1_", "0x1", "'", "'abc", "'a\n'", "'a\u007f'",
                "'a\u0080'", "'abcdefghijklmnopq'"}) {
            Probe.dueFault(A + "rule k is ^" + bad, 1);
            Probe.dueFault("^" + bad + " flag", 1);
        }
        Probe.dueRight(A + "rule abcdefghijklmnop is 'ABCDEFGHIJKLMNOP' or Z9_ is 123456789 or k is -123456789 -> true; }", 1);
        Probe.dueRight(A + "rule k is ' ~!\"{}()->' -> true; }", 1);
        Probe.dueFault(A + "rule k is 5^'a' -> true; }", 2);
        Probe.dueFault(A + "rule k is 5^-3 -> true; }", 2);
    }

    private static void misplaced() {
        Probe.dueFault("^a", 2);
        Probe.dueFault("^;", 2);
        Probe.dueFault("^default", 2);
        Probe.dueFault("segment s true;".replace("true", "^true"), 2);
        Probe.dueFault("segment s = ^;", 2);
        Probe.dueFault("segment s = true^", 2);
        Probe.dueFault("segment s = true \n^", 2);
        Probe.dueFault("segment s = true ^-> true;", 2);
        Probe.dueFault("segment s = (true^;", 2);
        Probe.dueFault("segment s = true^);", 2);
        Probe.dueFault("segment s = true or ^or true;", 2);
        Probe.dueFault("segment s = not ^and true;", 2);
        Probe.dueFault("segment s = k is ^true;", 2);
        Probe.dueFault("segment s = k ^= 3;", 2);
        Probe.dueFault("segment s = k above ^'3';", 2);
        Probe.dueFault("segment s = k holds ^3;", 2);
        Probe.dueFault("segment s = k among ^3;", 2);
        Probe.dueFault("segment s = k among (3, ^);", 2);
        Probe.dueFault("segment s = k among (3 ^4);", 2);
        Probe.dueFault("segment s = in ^in;", 2);
        Probe.dueFault("segment s = k^;", 2);
        Probe.dueFault("segment s = (k^) or true;", 2);
        Probe.dueFault("segment s = k ^or true;", 2);
        Probe.dueFault("segment s = k ^k;", 2);
        Probe.dueFault("segment s = k among (^);", 2);
        Probe.dueFault("segment s = k below ^k;", 2);
        Probe.dueFault("segment s = k begins ^5;", 2);
        Probe.dueFault("segment s = k ends ^-5;", 2);
        Probe.dueFault("segment s = ^'k' is 1;", 2);
        Probe.dueFault("segment s = ^1 is 1;", 2);
        Probe.dueFault("flag a : choice(^) { default a; off a; }", 2);
        Probe.dueFault("flag a : choice(x ^y)", 2);
        Probe.dueFault("flag a : choice(x, ^true)", 2);
        Probe.dueFault(A + "rule true -> true; ^needs b = true; }", 2);
        Probe.dueFault(A + "^default true; }", 2);
        Probe.dueFault(A + "needs b = ^'x'; }", 2);
        Probe.dueFault(A + "needs b = ^off; }", 2);
        Probe.dueFault(A + "needs b ^true; }", 2);
        Probe.dueFault("flag a : bool { default ^x; off false; }", 2);
        Probe.dueFault("flag a : num { default 1; off ^false; }", 2);
        Probe.dueFault("flag a : choice(x) { default ^a; off x; }", 2);
        Probe.dueFault("flag a : choice(x) { default ^0; off x; }", 2);
        Probe.dueFault("flag a : choice(x) { default ^true; off x; }", 2);
        Probe.dueFault("flag a : bool { default true; off ^roll 1 k 's' true else false; }", 2);
        Probe.dueFault(B + "layer l { ^default b = 1; }", 2);
        Probe.dueFault(B + "layer l { ^b ; }", 2);
        Probe.dueFault(B + "layer l { ^b true -> 1; }", 2);
        Probe.dueFault(B + "layer l { ^needs b = 1; }", 2);
        Probe.dueFault(B + "layer l { set b ^1; }", 2);
        Probe.dueFault(B + "layer l { rule b true -> 1; } layer m { rule b ^-> 1; }", 2);
        Probe.dueFault(B + "layer l { off b ^= 1; }", 2);
        Probe.dueFault(B + "layer l { set b = 1;^", 2);
        Probe.dueFault(C + "layer l { rule c true -> ^z; }", 2);
        Probe.dueFault(C + "layer l of ^of { }", 2);
        Probe.dueFault(C + "layer l { rule c true -> roll 1 k 's' x ^y; }", 2);
        Probe.dueFault(C + "layer l { rule c true -> roll ^k 's' x else y; }", 2);
        Probe.dueFault(C + "layer l { rule c true -> split ^'s' k (10000:x); }", 2);
        Probe.dueFault(C + "layer l { rule c true -> split k 's' (10000 ^x); }", 2);
        Probe.dueFault(C + "layer l { rule c true -> split k 's' ^10000:x; }", 2);
        Probe.dueFault(C + "layer l { rule c true -> split k 's' (9999:x^; }", 2);
        for (String word : ("flag bool num choice default off needs rule layer of set segment split roll else in not or"
                + " and true false is below above begins ends holds among given").split(" ")) {
            Probe.dueFault("flag ^" + word + " : bool", 2);
            Probe.dueFault("segment ^" + word + " = true;", 2);
            Probe.dueRight("segment " + word + "s = true; segment x" + word + " = true;", 0);
        }
    }

    private static void names() {
        Probe.dueFault("segment s = true; segment ^s = true;", 3);
        Probe.dueFault("segment s = in ^s;", 3);
        Probe.dueFault("segment s = in ^t; segment t = true;", 3);
        Probe.dueFault(A + "} flag ^a : bool", 3);
        Probe.dueFault("flag f : choice(x, y, ^x)", 3);
        Probe.dueFault("layer l { } layer ^l { }", 3);
        Probe.dueFault("layer l of ^l { }", 3);
        Probe.dueFault("layer l of ^m { } layer m { }", 3);
        Probe.dueFault("layer l { off ^b; } " + B, 3);
        Probe.dueFault("layer l { set ^b = 1; } " + B, 3);
        Probe.dueFault("layer l { rule ^b true -> 1; } " + B, 3);
        Probe.dueRight("segment s = true; segment S = true;", 0);
        // The names of segments, flags, layers and the choices of each flag are apart from each other.
        Probe.dueRight("segment x = true; flag x : choice(x, y) { default x; off y; } flag y : choice(y, x) { default x; off y; }"
                + " layer x { set x = x; set y = y; } layer y of x { }", 2);
        Probe.dueFault(B + "segment s = in ^b;", 3);
        Probe.dueFault(B + "layer l of ^b { }", 3);
        Probe.dueFault("segment s = true; layer l { off ^s; }", 3);
        Probe.dueFault("segment s = true; layer m { } " + A + "needs ^s = true; }", 3);
        Probe.dueFault("layer m { } " + A + "needs ^m = true; }", 3);
        Probe.dueFault(C + "flag d : choice(z) { default ^x; off z; }", 2);
        // Told a second time, though the first one is of another kind or value.
        Probe.dueFault(B + "flag ^b : bool", 3);
        Probe.dueFault("segment s = true; segment t = true; segment ^s = false;", 3);
        Probe.dueFault("layer l { } layer m of l { } layer ^l of m { }", 3);
    }

    private static void shares() {
        Probe.dueFault(B + "layer l { set b = roll ^10001 k 's' 1 else 2; }", 4);
        Probe.dueFault(B + "layer l { set b = roll ^-1 k 's' 1 else 2; }", 4);
        Probe.dueFault(B + "layer l { set b = split k 's' (^10001:1); }", 4);
        Probe.dueFault(B + "layer l { set b = split k 's' (5000:1, ^-1:2); }", 4);
        Probe.dueFault(B + "layer l { set b = split k 's' (5000:1, 4999:2^); }", 4);
        Probe.dueFault(B + "layer l { set b = split k 's' (10000:1, 10000:2^); }", 4);
        Probe.dueFault(B + "layer l { set b = split k 's' (0:1^); }", 4);
        Probe.dueFault(B + "layer l { set b = split k 's' (10000:1, 10000:2^;", 2);
        Probe.dueRight(B + "layer l { set b = split k 's' (0:1, 10000:2, 0:3); set b = roll 10000 k 's' 1 else 2; }", 1);
    }

    private static void needs() {
        Probe.dueFault(A + "needs ^z = true; }", 3);
        Probe.dueFault(A + "needs ^a = true; }", 3);
        Probe.dueFault(A + "needs b = ^true; } " + B, 2);
        Probe.dueFault(A + "needs b = ^x; } " + B, 2);
        Probe.dueFault(A + "needs c = ^z; } " + C, 2);
        Probe.dueFault(A + "needs c = ^1; } " + C, 2);
        Probe.dueFault(C + A + "needs c = ^true; }", 2);
        Probe.dueFault(A + "needs b = ^true; needs z = 1; } " + B, 2);
        Probe.dueFault(A + "needs ^z = 1; needs b = true; } " + B, 3);
        Probe.dueRight(A + "needs b = 7; needs c = y; needs b = 8; } " + B + C, 3);
        // A fault of the text itself comes before those of needs, wherever it is.
        Probe.dueFault(A + "needs z = true; } ^;", 2);
        Probe.dueFault(A + "needs z = true; } flag ^a", 3);
        Probe.dueFault(A + "needs z = true; ^", 2);
        // The flag itself, whatever the value; and an unknown flag before its value.
        Probe.dueFault(A + "needs ^a = 5; }", 3);
        Probe.dueFault(A + "needs ^z = x; }", 3);
        // In the order of the text, flag by flag.
        Probe.dueFault(A + "needs b = 1; needs c = ^z; } " + B + "flag d : bool { default true; off true; needs y = 1; } " + C, 2);
        Probe.dueFault(A + "needs b = 1; } " + B + C + "flag d : bool { default true; off true; needs ^y = 1; needs b = x; }", 3);
        Probe.dueRight(B + C + A + "needs b = -999999999; needs c = x; }", 3);
        Probe.dueRight(A + "needs d = false; } flag d : bool { default true; off true; }", 2);
        Probe.dueFault(A + "needs d = ^1; } flag d : bool { default true; off true; }", 2);
        Probe.dueFault(A + "needs d = ^x; } flag d : bool { default true; off true; }", 2);
    }

    private static void rings() {
        String on = " : bool { default true; off false; needs ";
        Probe.dueFault("flag a" + on + "^b = true; } flag b" + on + "a = true; }", 6);
        Probe.dueFault("flag a" + on + "b = true; } flag b" + on + "^c = true; } flag c" + on + "b = true; }", 6);
        Probe.dueFault("flag a" + on + "^b = true; } flag b" + on + "c = true; } flag c" + on + "a = true; }", 6);
        Probe.dueFault(B + "flag a" + on + "b = 1; needs ^d = true; } flag d" + on + "b = 1; needs a = true; }", 6);
        // All needs are looked at before any ring.
        Probe.dueFault("flag a" + on + "b = true; } flag b" + on + "a = true; needs ^z = 1; }", 3);
        Probe.dueRight("flag a" + on + "b = 1; needs d = true; } flag d" + on + "b = 2; } " + B, 3);
    }

    private static void firstFromTheLeft() {
        Probe.dueFault("^a #", 2);
        Probe.dueFault("segment s = in ^z #", 3);
        Probe.dueFault("segment s = in ^# ; #", 1);
        Probe.dueFault(B + "layer l { set b = roll ^10001 #", 4);
        Probe.dueFault("layer ^layer_that_is_long", 1);
    }

    private static void whatThereWasStays() {
        Probe probe = Probe.loaded(A + "} " + B);
        probe.dueValue(1, -1, 1, 0, -1, -1, -1, -1);
        probe.tape("flag z : bool { default true; off false; } flag y");
        Probe.due("load with a fault", probe.x().load(), -50);
        Probe.due("its fault", probe.x().fault(), 2);
        Probe.due("flags that stay", probe.x().count(1), 2);
        Probe.due("why stays", probe.x().why(0), 0);
        Probe.due("load uses the tape up", probe.x().feed(0, 0, 0, 0, 0), 20);
        probe.tape("flag z : bool { default true; off false; }");
        Probe.due("load in place of what there was", probe.x().load(), 1);
        Probe.due("fault of the latest load", probe.x().fault(), 0);
        Probe.due("its only flag", probe.find(1, "z"), 0);
        Probe.due("no other flag", probe.find(1, "a"), -1);
        Probe.due("why is gone", probe.x().why(0), -1);
        Probe.due("load uses up a right text, too", probe.x().load(), 0);
        Probe.due("an empty text has no flags", probe.x().count(1), 0);
    }

    private static String chain(int count, String last) {
        StringBuilder text = new StringBuilder();
        for (int i = 0; i < count; i++) {
            text.append("flag f").append(i).append(":bool{default true;off false;");
            text.append(i < count - 1 ? "needs f" + (i + 1) + "=true;" : last).append("}");
        }
        return text.toString();
    }

    private static void longRings() {
        Probe.dueRight(chain(24, ""), 24);
        Probe.dueFault(chain(24, "needs f0=true;").replaceFirst("needs f1=", "needs ^f1="), 6);
        Probe.dueFault(chain(24, "needs f5=true;").replaceFirst("needs f6=", "needs ^f6="), 6);
        Probe.dueFault(chain(24, "needs f22=true;").replaceFirst("needs f23=", "needs ^f23="), 6);
        Probe.dueFault(chain(24, "needs ^f23=true;"), 3);
        String on = " : bool { default true; off false; needs ";
        // Two rings: the first needs of the text that is in one.
        Probe.dueFault("flag a" + on + "b = true; needs ^d = true; } flag b : bool { default true; off true; } flag c" + on
                + "d = true; } flag d" + on + "c = true; needs a = true; }", 6);
        Probe.dueFault("flag a" + on + "^b = true; } flag b" + on + "a = true; } flag c" + on + "d = true; } flag d" + on + "c = true; }",
                6);
        // Many ways to the same flag are no ring.
        Probe.dueRight("flag a" + on + "b = true; needs c = true; needs d = true; } flag b" + on + "c = true; needs d = true; }"
                + "flag c" + on + "d = true; } flag d : bool { default true; off false; }", 4);
    }

    /** Before a test, behind split and behind the NUMBER of roll any NAME may stand, told or not. */
    private static void knownNamesAreAny() {
        Probe.dueRight("segment s = s is 1 or t given;", 0);
        Probe.dueRight("flag a : bool { default roll 5 a '' true else false; off true; rule b given -> split zz '' (10000:true); }", 1);
    }

    private static void faultOfLatestLoad() {
        Probe probe = new Probe();
        String[] texts = {"", "#", "", "flag", "segment s = in s;", "segment s = true;", B + "layer l { set b = roll 10001",
            "flag a : what", "segment s = " + Probe.times(21, "not "), B};
        int[] kinds = {0, 1, 0, 2, 3, 0, 4, 2, 5, 0};
        Probe.due("fault before any load", probe.x().fault(), 0);
        for (int i = 0; i < texts.length; i++) {
            probe.tape(texts[i]);
            Probe.due("fault while the text is on the tape", probe.x().fault(), i == 0 ? 0 : kinds[i - 1]);
            probe.x().load();
            Probe.due("fault of " + texts[i], probe.x().fault(), kinds[i]);
            probe.x().forget();
            probe.find(0, "s");
            Probe.due("fault asked again", probe.x().fault(), kinds[i]);
        }
    }
}
