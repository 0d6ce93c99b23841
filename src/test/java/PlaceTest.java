/** What is KNOWN, promises 12, 13 and 17: the PLACE and what is served by it. */
public final class PlaceTest {
    public static void main(String[] args) {
        placesOfManyThings();
        placesThatWouldBeNegative();
        saltAndThingAreApart();
        digitsOfNumbers();
        firstAndLastPlace();
        sharesAreWhatIsServed();
        Probe.finish();
    }

    private static void duePlace(String salt, String known, String bytes) {
        int place = Probe.placeOf(salt, bytes);
        Probe probe = Probe.loaded("flag f:num{default roll " + place + " k '" + salt + "' 1 else 2;off 0;"
                + "rule n given->roll " + (place + 1) + " k '" + salt + "' 3 else 4;}").knowing("k = " + known);
        probe.dueValue(0, -1, 2, 0, -1, -1, place, -1);
        probe.knowing("n = 0");
        probe.dueValue(0, -1, 3, 2, -1, 0, place, -1);
    }

    private static void placesOfManyThings() {
        for (int i = 0; i < 100; i++) {
            duePlace("salt" + i % 7, "'user" + i + "'", "user" + i);
            duePlace("", Integer.toString(i * 7919 - 300000), Integer.toString(i * 7919 - 300000));
        }
        duePlace("", "''", "");
        duePlace("0123456789abcdef", "'fedcba9876543210'", "fedcba9876543210");
        duePlace(" ~", "' ~'", " ~");
        duePlace("", "999999999", "999999999");
        duePlace("", "-999999999", "-999999999");
    }

    /** h has no sign: for half of all things it would be below 0, and so would be the rest of a division. */
    private static void placesThatWouldBeNegative() {
        int met = 0;
        for (int i = 0; i < 1000 && met < 20; i++) {
            if (Probe.mixed("s", "u" + i) < 0) {
                duePlace("s", "'u" + i + "'", "u" + i);
                met++;
            }
        }
        Probe.due("things whose h has its highest bit", met, 20);
    }

    private static void saltAndThingAreApart() {
        Probe probe = Probe.loaded("flag f:num{default roll 0 k 'ab' 1 else 2;off 0;}flag g:num{default roll 0 k 'a' 1 else 2;off 0;}");
        probe.knowing("k = 'c'");
        probe.x().value(0, -1);
        Probe.due("place of ab and c", probe.x().why(3), Probe.placeOf("ab", "c"));
        probe.knowing("k = 'bc'");
        probe.x().value(1, -1);
        Probe.due("place of a and bc", probe.x().why(3), Probe.placeOf("a", "bc"));
        Probe.due("they are not the same", Probe.placeOf("ab", "c") == Probe.placeOf("a", "bc") ? 1 : 0, 0);
    }

    /** A NUMBER is what it is worth, however many zeros stand before it. */
    private static void digitsOfNumbers() {
        duePlace("z", "7", "7");
        duePlace("z", "-7", "-7");
        duePlace("z", "'-7'", "-7");
        duePlace("z", "007", "7");
        duePlace("z", "-007", "-7");
        duePlace("z", "0", "0");
        duePlace("z", "-0", "0");
        duePlace("z", "'007'", "007");
    }

    private static String thingAt(int place) {
        for (int i = 0; i < 1000000; i++) {
            if (Probe.placeOf("s", "u" + i) == place) {
                return "u" + i;
            }
        }
        return "";
    }

    private static void firstAndLastPlace() {
        Probe probe = Probe.loaded("flag f:num{default 0;off 0;"
                + "rule n is 0->roll 0 k 's' 1 else 2;"
                + "rule n is 1->roll 1 k 's' 1 else 2;"
                + "rule n is 2->roll 9999 k 's' 1 else 2;"
                + "rule n is 3->roll 10000 k 's' 1 else 2;"
                + "rule n is 4->split k 's'(0:1,1:2,9998:3,1:4,0:5);"
                + "rule n is 5->split k 's'(10000:1,0:2);"
                + "rule n is 6->split k 's'(0:1,10000:2);"
                + "rule n is 7->split k 's'(9999:1,1:2);"
                + "rule n is 8->split k 's'(10000:9);}");
        int[] places = {0, 1, 9998, 9999};
        int[][] served = {{2, 1, 1, 1, 2, 1, 2, 1, 9}, {2, 2, 1, 1, 3, 1, 2, 1, 9}, {2, 2, 1, 1, 3, 1, 2, 1, 9},
            {2, 2, 2, 1, 4, 1, 2, 2, 9}};
        for (int p = 0; p < places.length; p++) {
            probe.knowing("k = '" + thingAt(places[p]) + "'");
            dueServed(probe, served[p], places[p]);
        }
        probe.x().forget();
        dueServed(probe, new int[] {2, 2, 2, 2, 5, 2, 2, 2, 9}, FlagLayers.NONE);
    }

    private static void dueServed(Probe probe, int[] served, int place) {
        for (int n = 0; n < served.length; n++) {
            probe.knowing("n = " + n);
            Probe.due("value at " + place + " with n = " + n, probe.x().value(0, -1), served[n]);
            Probe.due("its place", probe.x().why(3), place);
        }
    }

    /** share() is how many of all places valueAt() would serve: counted over things, one at each of some places. */
    private static void sharesAreWhatIsServed() {
        Probe probe = Probe.loaded("flag f:num{default split k 's'(2500:1,2500:2,0:3,2500:1,2500:4);off 0;}");
        int[] want = {0, 5000, 2500, 0, 2500, 0};
        for (int value = 0; value < want.length; value++) {
            Probe.due("share(0, " + value + ")", probe.x().share(0, value), want[value]);
        }
        int[] edges = {0, 1, 2499, 1, 2500, 2, 4999, 2, 5000, 1, 7499, 1, 7500, 4, 9999, 4};
        for (int i = 0; i < edges.length; i += 2) {
            probe.knowing("k = '" + thingAt(edges[i]) + "'");
            probe.dueValue(0, -1, edges[i + 1], 0, -1, -1, edges[i], -1);
        }
    }
}
