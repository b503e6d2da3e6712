import java.lang.reflect.Method;
import java.util.ArrayList;
import java.util.List;
import java.util.function.Consumer;

/**
 * Every sentence of the document that names a boundary case, each with a test of its own: at the last value that is
 * still taken, at the first that is not, and at the least and the greatest int.
 */
public final class StreetWalkerBounds {
    private static final int NONE = -1;
    private static final int FULL = -2;
    private static final int LEAST = Integer.MIN_VALUE;
    private static final int GREATEST = Integer.MAX_VALUE;
    private static final int GREATEST_CALLS = 512;

    // The first on either side, the outermost, and those that a shift by 32 or a cut to 8 or 16 bits would let in.
    private static final int[] NO_CORNERS = {-1, 6, LEAST, GREATEST, 31, 32, 37, -32, -27, 256, 65536, LEAST + 5};
    private static final int[] NO_NUMBERS = {-1, 10, LEAST, GREATEST, 31, 32, 41, -32, -23, 256, 65536, LEAST + 9};
    private static final int[] NO_LENGTHS = {-1, 21, LEAST, GREATEST, 22, 32, 256, 276, 65536, -20, LEAST + 20};

    private static final int[] EMPTY = {};
    private static final int[] TRIANGLE = {0, 1, 3, 1, 2, 4, 2, 0, 5};
    private static final int[] APART = {0, 1, 3, 1, 2, 4, 4, 5, 6};
    private static final int[] NINE = {
        0, 1, 1, 1, 2, 2, 2, 3, 3, 3, 4, 4, 4, 5, 5, 5, 0, 6, 0, 2, 7, 2, 4, 8, 4, 0, 9};
    private static final int[] TEN = {
        0, 1, 1, 1, 2, 2, 2, 3, 3, 3, 4, 4, 4, 5, 5, 5, 0, 6, 0, 2, 7, 2, 4, 8, 4, 0, 9, 0, 3, 10};
    // A ring of long streets with a path of short ones: the best set is the path, five streets, and none has more.
    private static final int[] LONGEST_WALK = {
        0, 1, 20, 1, 2, 20, 2, 3, 20, 3, 4, 20, 4, 0, 20, 0, 1, 1, 1, 2, 1, 2, 3, 1, 3, 4, 1, 4, 5, 1};

    private static int wrong = 0;

    /** A town under test: each call is made with the answer that is due. */
    private static final class Town {
        private final String test;
        private final StreetWalker x = new StreetWalker();
        private int calls = 0;

        /** Each three numbers are a street: its corners and its length. */
        Town(String test, int... streets) {
            this.test = test;
            for (int i = 0; i < streets.length; i += 3) {
                build(streets[i], streets[i + 1], streets[i + 2], i / 3);
            }
        }

        private void due(String call, Object got, Object want) {
            calls++;
            if (!got.equals(want)) {
                complain(call + " answered " + got + ", due is " + want);
            }
            if (calls > GREATEST_CALLS) {
                complain(call + " is call " + calls + ", whose answer is free");
            }
        }

        private void complain(String what) {
            wrong++;
            System.out.println(test + ": " + what);
        }

        void build(int a, int b, int length, int want) {
            due("build(" + a + ", " + b + ", " + length + ")", x.build(a, b, length), want);
        }

        void close(int s, boolean want) {
            due("close(" + s + ")", x.close(s), want);
        }

        void setLength(int s, int length, boolean want) {
            due("setLength(" + s + ", " + length + ")", x.setLength(s, length), want);
        }

        void streets(int want) {
            due("streets()", x.streets(), want);
        }

        void odd(int want) {
            due("odd()", x.odd(), want);
        }

        void connected(boolean want) {
            due("connected()", x.connected(), want);
        }

        void extra(int want) {
            due("extra()", x.extra(), want);
        }

        void bestSet(int want) {
            due("bestSet()", x.bestSet(), want);
        }

        void extraWith(int s, int want) {
            due("extraWith(" + s + ")", x.extraWith(s), want);
        }

        void extraWithout(int s, int want) {
            due("extraWithout(" + s + ")", x.extraWithout(s), want);
        }

        void way(int a, int b, int want) {
            due("way(" + a + ", " + b + ")", x.way(a, b), want);
        }

        void walkLength(int want) {
            due("walkLength()", x.walkLength(), want);
        }

        void walkAt(int c, int k, int want) {
            due("walkAt(" + c + ", " + k + ")", x.walkAt(c, k), want);
        }

        void walk(int c, int... streets) {
            for (int k = 0; k < streets.length; k++) {
                walkAt(c, k, streets[k]);
            }
            walkAt(c, streets.length, NONE);
        }

        /** What every question answers: all that can be seen of the town without changing it. */
        List<String> look() {
            List<String> seen = new ArrayList<>();
            seen.add("streets() " + x.streets());
            seen.add("odd() " + x.odd());
            seen.add("connected() " + x.connected());
            seen.add("extra() " + x.extra());
            seen.add("bestSet() " + x.bestSet());
            seen.add("walkLength() " + x.walkLength());
            for (int s = 0; s < 10; s++) {
                seen.add("extraWith(" + s + ") " + x.extraWith(s));
                seen.add("extraWithout(" + s + ") " + x.extraWithout(s));
            }
            for (int a = 0; a < 6; a++) {
                for (int b = 0; b < 6; b++) {
                    seen.add("way(" + a + ", " + b + ") " + x.way(a, b));
                }
                for (int k = 0; k < 16; k++) {
                    seen.add("walkAt(" + a + ", " + k + ") " + x.walkAt(a, k));
                }
            }
            calls += seen.size();
            return seen;
        }

        /** Looks, builds one street more, which shows what a free number still holds, and looks again. */
        List<String> lookTwice() {
            List<String> seen = look();
            seen.add("build(5, 1, 7) " + x.build(5, 1, 7));
            calls++;
            seen.addAll(look());
            return seen;
        }
    }

    /** Puts the calls to a town, and asks that it then looks as a town looks that was spared them. */
    private static void changesNothing(String test, int[] streets, int closed, Consumer<Town> calls) {
        Town spared = new Town(test, streets);
        Town asked = new Town(test, streets);
        if (closed != NONE) {
            spared.close(closed, true);
            asked.close(closed, true);
        }
        calls.accept(asked);
        List<String> want = spared.lookTwice();
        List<String> got = asked.lookTwice();
        for (int i = 0; i < want.size(); i++) {
            if (!got.get(i).equals(want.get(i))) {
                asked.complain("then " + got.get(i) + ", due is " + want.get(i));
            }
        }
        if (asked.calls > GREATEST_CALLS) {
            asked.complain("has " + asked.calls + " calls");
        }
    }

    /** As above in an empty town, towns with free numbers, and a full one; NONE: no street closed before. */
    private static void changesNothingAnywhere(String test, Consumer<Town> calls) {
        changesNothing(test + ", no streets", EMPTY, NONE, calls);
        changesNothing(test + ", triangle", TRIANGLE, NONE, calls);
        changesNothing(test + ", not connected", APART, NONE, calls);
        changesNothing(test + ", street 0 closed", TEN, 0, calls);
        changesNothing(test + ", street 9 closed", TEN, 9, calls);
        changesNothing(test + ", ten streets", TEN, NONE, calls);
        changesNothing(test + ", longest walk", LONGEST_WALK, NONE, calls);
    }

    // What it is

    /** Makes calls up to the one before the last, changing the town and asking it, and leaves it as TEN is. */
    private static Town nearlyUsedUp(String test) {
        Town town = new Town(test, TEN);
        while (town.calls + 4 < GREATEST_CALLS) {
            town.close(9, true);
            town.build(0, 3, 10, 9);
            town.walkAt(0, 0, 0);
        }
        while (town.calls + 1 < GREATEST_CALLS) {
            town.streets(1023);
        }
        return town;
    }

    private static void call512IsStillAnswered() {
        String test = "What it is, call 512";
        nearlyUsedUp(test).build(0, 1, 1, FULL);
        nearlyUsedUp(test).build(0, 0, 1, NONE);
        nearlyUsedUp(test).close(9, true);
        nearlyUsedUp(test).setLength(9, 20, true);
        nearlyUsedUp(test).streets(1023);
        nearlyUsedUp(test).odd(1 + 8);
        nearlyUsedUp(test).connected(true);
        nearlyUsedUp(test).extra(6);
        nearlyUsedUp(test).bestSet(1 + 2 + 4);
        nearlyUsedUp(test).extraWith(9, 10);
        nearlyUsedUp(test).extraWithout(9, 6);
        nearlyUsedUp(test).way(0, 3, 6);
        nearlyUsedUp(test).walkLength(55 + 6);
        nearlyUsedUp(test).walkAt(0, 0, 0);
    }

    private static void objectsAreApart() {
        Town one = new Town("What it is, two objects", TRIANGLE);
        Town other = new Town("What it is, two objects");
        other.streets(0);
        other.build(3, 4, 20, 0);
        one.streets(7);
        one.way(3, 4, NONE);
        one.way(0, 1, 3);
        other.way(0, 1, NONE);
    }

    // Terms

    private static void streetsAreGoneAlongBothWays() {
        Town town = new Town("Terms, both ways", 5, 0, 20);
        town.way(0, 5, 20);
        town.way(5, 0, 20);
        town.walk(0, 0, 0);
        town.walk(5, 0, 0);
    }

    private static void tenStreetsJoinTwoCorners() {
        Town town = new Town("Terms, ten streets between two corners");
        for (int s = 0; s < 10; s++) {
            town.build(s % 2 * 5, 5 - s % 2 * 5, 20 - s, s);
        }
        town.odd(0);
        town.extra(0);
        town.bestSet(0);
        town.way(0, 5, 11);
        town.walkLength(155);
        town.walk(0, 0, 1, 2, 3, 4, 5, 6, 7, 8, 9);
        town.close(9, true);
        town.odd(1 + 32);
        town.bestSet(256);
        town.walk(5, 0, 1, 2, 3, 4, 5, 6, 7, 8, 8);
    }

    private static void bestSetIsDecidedAtTheFirstDigit() {
        Town town = new Town("Terms, tie at digit 0", 0, 1, 4, 0, 1, 4, 0, 1, 20);
        town.bestSet(2);
        town.setLength(0, 3, true);
        town.bestSet(1);
        town.setLength(0, 5, true);
        town.bestSet(2);
    }

    private static void bestSetIsDecidedAtTheLastDigits() {
        // Nine streets between corners 0 and 1, and one dead end, so that the last two of the nine are 8 and 9.
        Town town = new Town("Terms, tie at digits 8 and 9", 1, 2, 7);
        for (int s = 1; s < 10; s++) {
            town.build(0, 1, s < 8 ? 20 : 4, s);
        }
        town.bestSet(1 + 512);
        town.setLength(8, 3, true);
        town.bestSet(1 + 256);
        town.setLength(8, 5, true);
        town.bestSet(1 + 512);
    }

    private static void bestSetOfLengthZeroHasNoRing() {
        Town town = new Town("Terms, all lengths 0");
        for (int s = 0; s < 10; s++) {
            town.build(TEN[3 * s], TEN[3 * s + 1], 0, s);
        }
        town.extra(0);
        // Corner 0 and corner 3 are odd: street 9 joins them, and its row 0000000001 is the least of all.
        town.bestSet(512);
        town.close(0, true);
        town.close(9, true);
        town.extra(0);
        // Corners 0 and 1 are odd: only street 1 ends at corner 1; then 0000000 with 7 and 8, without 2 .. 6.
        town.odd(1 + 2);
        town.bestSet(2 + 128 + 256);
    }

    // Promise 1

    private static void newTownHasNoStreets() {
        Town town = new Town("1, no streets");
        town.streets(0);
        town.odd(0);
        town.connected(true);
        town.extra(0);
        town.bestSet(0);
        town.walkLength(0);
        for (int s = 0; s < 10; s++) {
            town.close(s, false);
            town.setLength(s, 1, false);
            town.extraWith(s, NONE);
            town.extraWithout(s, NONE);
        }
        for (int a = 0; a < 6; a++) {
            for (int b = 0; b < 6; b++) {
                town.way(a, b, a == b ? 0 : NONE);
            }
            town.walkAt(a, 0, NONE);
        }
        town.build(0, 5, 0, 0);
    }

    // Promise 2

    private static void buildRefusesEqualCorners() {
        Town town = new Town("2, a = b");
        for (int c = 0; c < 6; c++) {
            town.build(c, c, 1, NONE);
        }
        for (int c : NO_CORNERS) {
            town.build(c, c, 1, NONE);
        }
        town.streets(0);
        for (int c = 0; c < 5; c++) {
            town.build(c, c + 1, 1, c);
        }
        for (int c = 0; c < 5; c++) {
            town.build(c + 1, c, 1, 5 + c);
        }
    }

    private static void buildRefusesFirstCorner() {
        Town town = new Town("2, a not 0 .. 5");
        for (int c : NO_CORNERS) {
            town.build(c, 0, 1, NONE);
            town.build(c, 5, 1, NONE);
        }
        town.streets(0);
        town.build(0, 3, 1, 0);
        town.build(5, 3, 2, 1);
        town.odd(1 + 32);
        town.way(0, 5, 3);
    }

    private static void buildRefusesSecondCorner() {
        Town town = new Town("2, b not 0 .. 5");
        for (int c : NO_CORNERS) {
            town.build(0, c, 1, NONE);
            town.build(5, c, 1, NONE);
        }
        town.streets(0);
        town.build(3, 0, 1, 0);
        town.build(3, 5, 2, 1);
        town.odd(1 + 32);
        town.way(0, 5, 3);
    }

    private static void buildRefusesLength() {
        Town town = new Town("2, length not 0 .. 20");
        for (int length : NO_LENGTHS) {
            town.build(0, 1, length, NONE);
        }
        town.streets(0);
        town.build(0, 1, 0, 0);
        town.build(1, 2, 20, 1);
        town.build(2, 3, 1, 2);
        town.build(3, 4, 19, 3);
        town.way(0, 1, 0);
        town.way(1, 2, 20);
        town.way(2, 3, 1);
        town.way(3, 4, 19);
    }

    private static void buildRefusesSeveralAtOnce() {
        Town town = new Town("2, all wrong at once");
        town.build(-1, 6, 21, NONE);
        town.build(6, -1, -1, NONE);
        town.build(LEAST, GREATEST, LEAST, NONE);
        town.build(GREATEST, LEAST, GREATEST, NONE);
        town.build(LEAST, LEAST, LEAST, NONE);
        town.build(GREATEST, GREATEST, GREATEST, NONE);
        town.streets(0);
    }

    private static void buildIsFullAtTen() {
        Town town = new Town("2, ten streets", NINE);
        town.streets(511);
        town.build(0, 3, 10, 9);
        town.streets(1023);
        town.build(0, 1, 0, FULL);
        town.build(5, 4, 20, FULL);
        town.build(0, 5, 20, FULL);
        town.streets(1023);
        town.close(4, true);
        town.build(3, 4, 4, 4);
        town.build(3, 4, 4, FULL);
    }

    private static void buildTakesTheLeastFreeNumber() {
        Town town = new Town("2, least number", TEN);
        town.close(9, true);
        town.build(0, 1, 1, 9);
        town.close(0, true);
        town.build(0, 1, 1, 0);
        town.close(9, true);
        town.close(0, true);
        town.close(5, true);
        town.build(0, 1, 1, 0);
        town.build(0, 1, 1, 5);
        town.build(0, 1, 1, 9);
        town.build(0, 1, 1, FULL);
    }

    private static void allTenCloseAndBuildAgain() {
        Town town = new Town("2, all closed and built again", TEN);
        for (int s = 9; s >= 0; s--) {
            town.close(s, true);
        }
        town.streets(0);
        for (int s = 0; s < 10; s++) {
            town.build(4, 5, s, s);
        }
        town.build(4, 5, 1, FULL);
        town.odd(0);
        town.way(4, 5, 0);
        town.way(0, 1, NONE);
    }

    private static void refusedBuildChangesNothing() {
        changesNothingAnywhere("2, NONE changes nothing", town -> {
            for (int c = 0; c < 6; c++) {
                town.build(c, c, 1, NONE);
            }
            for (int c : NO_CORNERS) {
                town.build(c, 0, 1, NONE);
                town.build(5, c, 1, NONE);
            }
            for (int length : NO_LENGTHS) {
                town.build(0, 1, length, NONE);
            }
        });
    }

    private static void buildWhenFullChangesNothing() {
        changesNothing("2, FULL changes nothing", TEN, NONE, town -> {
            town.build(0, 1, 0, FULL);
            town.build(5, 4, 20, FULL);
            town.build(0, 5, 0, FULL);
        });
    }

    // Promise 3

    private static void closeRefusesNumbersOutside() {
        Town town = new Town("3, no number", TEN);
        for (int s : NO_NUMBERS) {
            town.close(s, false);
        }
        town.streets(1023);
        town.close(9, true);
        town.streets(511);
        town.close(0, true);
        town.streets(510);
    }

    private static void closeRefusesWhereNoStreetIs() {
        Town town = new Town("3, no street s", TRIANGLE);
        for (int s = 3; s < 10; s++) {
            town.close(s, false);
        }
        town.streets(7);
        town.close(2, true);
        town.close(2, false);
        town.close(0, true);
        town.close(0, false);
        town.streets(2);
        town.close(1, true);
        town.close(1, false);
        town.streets(0);
        town.connected(true);
        town.walkLength(0);
    }

    private static void refusedCloseChangesNothing() {
        changesNothingAnywhere("3, false changes nothing", town -> {
            for (int s : NO_NUMBERS) {
                town.close(s, false);
            }
        });
        changesNothing("3, false at free numbers changes nothing", TRIANGLE, 1, town -> {
            town.close(1, false);
            for (int s = 3; s < 10; s++) {
                town.close(s, false);
            }
        });
        changesNothing("3, false at number 9 changes nothing", NINE, NONE, town -> town.close(9, false));
    }

    private static void closedForGood() {
        Town town = new Town("3, for good", TRIANGLE);
        town.close(1, true);
        town.setLength(1, 1, false);
        town.extraWith(1, NONE);
        town.extraWithout(1, NONE);
        town.way(1, 2, 8);
        // A new street with the number of the old one has nothing of it.
        town.build(3, 4, 9, 1);
        town.way(1, 2, 8);
        town.way(3, 4, 9);
        town.odd(2 + 4 + 8 + 16);
    }

    // Promise 4

    private static void setLengthRefusesNumbersOutside() {
        Town town = new Town("4, no number", TEN);
        for (int s : NO_NUMBERS) {
            town.setLength(s, 0, false);
        }
        town.walkLength(61);
        town.setLength(9, 0, true);
        town.way(0, 3, 0);
        town.setLength(0, 0, true);
        town.way(0, 1, 0);
    }

    private static void setLengthRefusesWhereNoStreetIs() {
        Town town = new Town("4, no street s", TRIANGLE);
        for (int s = 3; s < 10; s++) {
            town.setLength(s, 0, false);
        }
        town.setLength(2, 20, true);
        town.close(2, true);
        town.setLength(2, 0, false);
        town.build(0, 2, 6, 2);
        town.way(0, 2, 6);
    }

    private static void setLengthRefusesLength() {
        Town town = new Town("4, length not 0 .. 20", 0, 1, 3, 1, 2, 4);
        for (int length : NO_LENGTHS) {
            town.setLength(0, length, false);
            town.setLength(1, length, false);
        }
        town.way(0, 1, 3);
        town.way(1, 2, 4);
        town.setLength(0, 0, true);
        town.setLength(1, 20, true);
        town.way(0, 1, 0);
        town.way(1, 2, 20);
        town.setLength(0, 20, true);
        town.setLength(1, 0, true);
        town.way(0, 1, 20);
        town.way(1, 2, 0);
        town.setLength(1, 0, true);
        town.way(0, 2, 20);
    }

    private static void setLengthRefusesBothAtOnce() {
        Town town = new Town("4, both wrong", TRIANGLE);
        town.setLength(-1, -1, false);
        town.setLength(10, 21, false);
        town.setLength(3, 21, false);
        town.setLength(LEAST, GREATEST, false);
        town.setLength(GREATEST, LEAST, false);
        town.walkLength(12);
    }

    private static void refusedSetLengthChangesNothing() {
        changesNothingAnywhere("4, false at a wrong length changes nothing", town -> {
            for (int length : NO_LENGTHS) {
                town.setLength(0, length, false);
                town.setLength(9, length, false);
            }
        });
        changesNothingAnywhere("4, false at no number changes nothing", town -> {
            for (int s : NO_NUMBERS) {
                town.setLength(s, 0, false);
            }
        });
        changesNothing("4, false at free numbers changes nothing", TRIANGLE, 1, town -> {
            town.setLength(1, 0, false);
            for (int s = 3; s < 10; s++) {
                town.setLength(s, 20, false);
            }
        });
    }

    // Promise 5

    private static void streetsFromNoneToTen() {
        Town town = new Town("5, none to ten");
        town.streets(0);
        for (int s = 0; s < 10; s++) {
            town.build(0, 5, 0, s);
            town.streets((1 << s + 1) - 1);
        }
        for (int s = 0; s < 9; s++) {
            town.close(s, true);
        }
        town.streets(512);
        town.close(9, true);
        town.streets(0);
    }

    // Promise 6

    private static void oddFromNoneToAll() {
        new Town("6, no streets").odd(0);
        new Town("6, corners 0 and 5", 0, 5, 0).odd(1 + 32);
        new Town("6, no odd corner", TRIANGLE).odd(0);
        new Town("6, all corners", 0, 1, 0, 2, 3, 0, 4, 5, 0).odd(63);
        Town town = new Town("6, one to ten at a corner");
        for (int s = 0; s < 10; s++) {
            town.build(4, 5, 1, s);
            town.odd(s % 2 == 0 ? 16 + 32 : 0);
        }
    }

    // Promise 7

    private static void connectedWithoutStreets() {
        Town town = new Town("7, no streets");
        town.connected(true);
        town.build(4, 5, 1, 0);
        town.connected(true);
        town.close(0, true);
        town.connected(true);
    }

    private static void connectedCountsNoCornerWithoutStreets() {
        new Town("7, corners 0 and 1 only", 0, 1, 0).connected(true);
        new Town("7, corners 4 and 5 only", 4, 5, 0).connected(true);
        new Town("7, all but corner 0", 1, 2, 0, 2, 3, 0, 3, 4, 0, 4, 5, 0).connected(true);
        new Town("7, all but corner 5", 0, 1, 0, 1, 2, 0, 2, 3, 0, 3, 4, 0).connected(true);
    }

    private static void connectedNeedsTheLastStreet() {
        Town town = new Town("7, five streets join six corners", 0, 3, 1, 3, 1, 1, 2, 4, 1, 4, 5, 1);
        town.connected(false);
        town.build(5, 0, 0, 4);
        town.connected(true);
        town.close(4, true);
        town.connected(false);
        new Town("7, corner 5 apart", 0, 1, 1, 1, 2, 1, 4, 5, 1).connected(false);
        new Town("7, three parts", 0, 5, 1, 1, 4, 1, 2, 3, 1).connected(false);
    }

    private static void connectedAlongTheLongestPath() {
        int[][] orders = {{0, 1, 2, 3, 4, 5}, {5, 4, 3, 2, 1, 0}, {0, 5, 1, 4, 2, 3}, {3, 0, 4, 1, 5, 2}};
        for (int[] order : orders) {
            Town forth = new Town("7, path");
            Town back = new Town("7, path back");
            for (int i = 0; i < 5; i++) {
                forth.build(order[i], order[i + 1], 20, i);
                back.build(order[4 - i], order[5 - i], 20, i);
            }
            forth.connected(true);
            back.connected(true);
            forth.way(order[0], order[5], 100);
            back.way(order[0], order[5], 100);
        }
    }

    // Promises 8 and 9

    /** All streets together are an extra set in every town, so the NONE of these promises is never due. */
    private static void thereIsAlwaysAnExtraSet() {
        Town none = new Town("8 and 9, no streets");
        none.extra(0);
        none.bestSet(0);
        Town tree = new Town("8 and 9, only all streets together", 0, 1, 20, 1, 2, 20, 2, 3, 20, 3, 4, 20, 4, 5, 20);
        tree.odd(1 + 32);
        tree.extra(100);
        tree.bestSet(31);
        Town apart = new Town("8 and 9, not connected", APART);
        apart.extra(13);
        apart.bestSet(7);
        Town zero = new Town("8 and 9, length 0", 0, 5, 0);
        zero.extra(0);
        zero.bestSet(1);
        Town ten = new Town("8 and 9, ten streets", TEN);
        ten.extra(6);
        ten.bestSet(7);
    }

    private static void bestSetHasFirstAndLastStreet() {
        Town town = new Town("9, bits 0 and 9", 0, 1, 1);
        for (int s = 1; s < 9; s++) {
            town.build(2, 3, 9, s);
        }
        town.build(4, 5, 1, 9);
        town.bestSet(1 + 512);
        town.extra(2);
    }

    // Promises 10 and 11

    private static void extraWithRefusesNumbersOutside() {
        Town town = new Town("10, no number", TEN);
        for (int s : NO_NUMBERS) {
            town.extraWith(s, NONE);
        }
        town.extraWith(0, 6);
        town.extraWith(9, 10);
    }

    private static void extraWithRefusesWhereNoStreetIs() {
        Town town = new Town("10, no street s", TRIANGLE);
        for (int s = 3; s < 10; s++) {
            town.extraWith(s, NONE);
        }
        town.extraWith(2, 12);
        town.close(2, true);
        town.extraWith(2, NONE);
        town.extraWith(1, 7);
        new Town("10, no streets").extraWith(0, NONE);
    }

    /** All streets together contain each street, so with a street s there is always such a set. */
    private static void extraWithIsThereForEveryStreet() {
        Town even = new Town("10, two alike", 0, 1, 20, 0, 1, 20);
        even.extraWith(0, 40);
        even.extraWith(1, 40);
        Town zero = new Town("10, length 0", 0, 1, 0);
        zero.extraWith(0, 0);
        Town ring = new Town("10, ring of six", 0, 1, 20, 1, 2, 20, 2, 3, 20, 3, 4, 20, 4, 5, 20, 5, 0, 20);
        ring.extraWith(0, 120);
        ring.extraWith(5, 120);
    }

    private static void extraWithoutRefusesNumbersOutside() {
        Town town = new Town("11, no number", TEN);
        for (int s : NO_NUMBERS) {
            town.extraWithout(s, NONE);
        }
        town.extraWithout(0, 10);
        town.extraWithout(9, 6);
    }

    private static void extraWithoutRefusesWhereNoStreetIs() {
        Town town = new Town("11, no street s", TRIANGLE);
        for (int s = 3; s < 10; s++) {
            town.extraWithout(s, NONE);
        }
        town.extraWithout(2, 0);
        town.close(2, true);
        town.extraWithout(2, NONE);
        new Town("11, no streets").extraWithout(0, NONE);
    }

    private static void extraWithoutIsNoneWhenEverySetContainsTheStreet() {
        Town town = new Town("11, there is none", 0, 1, 0);
        town.extraWithout(0, NONE);
        town.build(1, 0, 20, 1);
        town.extraWithout(0, 0);
        town.close(1, true);
        town.extraWithout(0, NONE);
        // Street 0 alone joins two rings, so it is at two odd corners and no set goes around it.
        Town bridge = new Town("11, bridge", 0, 3, 1, 0, 1, 1, 1, 2, 1, 2, 0, 1, 3, 4, 1, 4, 5, 1, 5, 3, 1);
        bridge.extraWithout(0, NONE);
        for (int s = 1; s < 7; s++) {
            bridge.extraWithout(s, 1);
        }
        // A second street between the rings makes corners 1 and 4 odd too: streets 1 and 4 then do without the bridge.
        bridge.build(1, 4, 20, 7);
        bridge.extraWithout(0, 2);
        bridge.close(7, true);
        bridge.extraWithout(0, NONE);
    }

    // Promise 12

    private static void wayIsZeroAtEqualCorners() {
        Town none = new Town("12, a = b, no streets");
        Town ten = new Town("12, a = b, ten streets", TEN);
        for (int c = 0; c < 6; c++) {
            none.way(c, c, 0);
            ten.way(c, c, 0);
        }
        for (int c : NO_CORNERS) {
            none.way(c, c, NONE);
            ten.way(c, c, NONE);
        }
    }

    private static void wayRefusesFirstCorner() {
        Town town = new Town("12, a not 0 .. 5", TEN);
        for (int c : NO_CORNERS) {
            town.way(c, 0, NONE);
            town.way(c, 5, NONE);
        }
        town.way(0, 3, 6);
        town.way(5, 3, 9);
    }

    private static void wayRefusesSecondCorner() {
        Town town = new Town("12, b not 0 .. 5", TEN);
        for (int c : NO_CORNERS) {
            town.way(0, c, NONE);
            town.way(5, c, NONE);
        }
        town.way(3, 0, 6);
        town.way(3, 5, 9);
    }

    private static void wayRefusesBothCorners() {
        Town town = new Town("12, both not 0 .. 5", TEN);
        for (int a : NO_CORNERS) {
            for (int b : NO_CORNERS) {
                town.way(a, b, NONE);
            }
        }
    }

    private static void noWay() {
        Town town = new Town("12, no way", 0, 1, 0, 4, 5, 20);
        town.way(0, 1, 0);
        town.way(5, 4, 20);
        town.way(0, 4, NONE);
        town.way(5, 1, NONE);
        town.way(0, 2, NONE);
        town.way(3, 5, NONE);
        town.way(2, 3, NONE);
        town.build(1, 4, 0, 2);
        town.way(0, 4, 0);
        town.way(5, 1, 20);
        town.close(2, true);
        town.way(0, 4, NONE);
    }

    private static void waysOfLeastAndGreatestLength() {
        Town town = new Town("12, five streets of 20", 5, 3, 20, 3, 1, 20, 1, 0, 20, 0, 2, 20, 2, 4, 20);
        town.way(5, 4, 100);
        town.way(4, 5, 100);
        for (int s = 0; s < 5; s++) {
            town.setLength(s, 0, true);
        }
        town.way(5, 4, 0);
        town.build(5, 4, 0, 5);
        town.way(4, 5, 0);
    }

    // Promise 13

    private static void walkLengthWithoutStreets() {
        Town town = new Town("13, no streets");
        town.walkLength(0);
        town.build(0, 5, 0, 0);
        town.walkLength(0);
        town.setLength(0, 20, true);
        town.walkLength(40);
        town.close(0, true);
        town.walkLength(0);
    }

    private static void walkLengthWhenNotConnected() {
        Town town = new Town("13, not connected", APART);
        town.walkLength(NONE);
        town.build(2, 4, 0, 3);
        town.walkLength(26);
        town.close(3, true);
        town.walkLength(NONE);
        town.close(2, true);
        town.walkLength(14);
        new Town("13, even but not connected", 0, 1, 0, 0, 1, 0, 4, 5, 0, 4, 5, 0).walkLength(NONE);
    }

    private static void walkLengthOfTenLongStreets() {
        Town town = new Town("13, ten streets of 20");
        int[] ends = {0, 1, 0, 1, 0, 1, 1, 2, 1, 2, 1, 2, 2, 3, 2, 3, 2, 3, 3, 4};
        for (int s = 0; s < 10; s++) {
            town.build(ends[2 * s], ends[2 * s + 1], 20, s);
        }
        town.extra(80);
        town.bestSet(4 + 32 + 256 + 512);
        town.walkLength(280);
    }

    // Promise 14

    private static void walkAtRefusesCornersOutside() {
        Town town = new Town("14, c not 0 .. 5", TEN);
        for (int c : NO_CORNERS) {
            town.walkAt(c, 0, NONE);
            town.walkAt(c, 12, NONE);
            town.walkAt(c, 13, NONE);
        }
        town.walkAt(LEAST, LEAST, NONE);
        town.walkAt(GREATEST, GREATEST, NONE);
        town.walkAt(0, 0, 0);
        town.walkAt(5, 0, 4);
    }

    private static void walkAtWhereNoStreetEnds() {
        Town town = new Town("14, no street ends at c", 1, 2, 3, 2, 4, 4);
        for (int c : new int[] {0, 3, 5}) {
            for (int k : new int[] {-1, 0, 3, 4, LEAST, GREATEST}) {
                town.walkAt(c, k, NONE);
            }
        }
        town.walk(1, 0, 1, 1, 0);
        town.walk(2, 0, 0, 1, 1);
        town.walk(4, 1, 0, 0, 1);
        town.build(4, 5, 0, 2);
        town.walk(5, 2, 1, 0, 0, 1, 2);
        town.close(2, true);
        town.walkAt(5, 0, NONE);
    }

    private static void walkAtWithoutStreets() {
        Town town = new Town("14, no streets");
        for (int c = 0; c < 6; c++) {
            for (int k : new int[] {-1, 0, 1, LEAST, GREATEST}) {
                town.walkAt(c, k, NONE);
            }
        }
        town.build(0, 5, 0, 0);
        town.walk(0, 0, 0);
        town.walk(5, 0, 0);
        town.close(0, true);
        town.walkAt(0, 0, NONE);
        town.walkAt(5, 0, NONE);
    }

    private static void walkAtWhenNotConnected() {
        Town town = new Town("14, walkLength() is NONE", APART);
        for (int c = 0; c < 6; c++) {
            for (int k : new int[] {-1, 0, 1, 5, 6, LEAST, GREATEST}) {
                town.walkAt(c, k, NONE);
            }
        }
        town.close(2, true);
        town.walk(0, 0, 1, 1, 0);
        town.walkAt(4, 0, NONE);
        town.build(5, 4, 0, 2);
        town.walkAt(0, 0, NONE);
        // Even at every corner and still not connected.
        Town even = new Town("14, even but not connected", 0, 1, 1, 0, 1, 1, 4, 5, 1, 4, 5, 1);
        even.walkAt(0, 0, NONE);
        even.walkAt(0, 1, NONE);
        even.walkAt(5, 0, NONE);
    }

    private static void walkAtRefusesPlacesOutside() {
        int[] outside = {-1, LEAST, GREATEST, 20, 32, 256, 65536, -32, LEAST + 1};
        Town triangle = new Town("14, k outside a walk of 3", TRIANGLE);
        Town ten = new Town("14, k outside a walk of 13", TEN);
        for (int c = 0; c < 6; c++) {
            for (int k : outside) {
                triangle.walkAt(c, k, NONE);
                ten.walkAt(c, k, NONE);
            }
        }
        triangle.walk(0, 0, 1, 2);
        ten.walk(0, 0, 0, 5, 4, 3, 2, 1, 1, 2, 9, 6, 7, 8);
    }

    private static void shortestAndLongestWalk() {
        new Town("14, one street", 0, 1, 20).walk(0, 0, 0);
        new Town("14, two streets", 0, 1, 20, 0, 1, 20).walk(1, 0, 1);
        Town town = new Town("14, a walk of 15", LONGEST_WALK);
        town.bestSet(32 + 64 + 128 + 256 + 512);
        town.walkLength(110);
        // Once the ring is walked, to turn back on the path before its end would cut off the rest.
        town.walk(0, 0, 1, 2, 3, 4, 5, 6, 7, 8, 9, 9, 8, 7, 6, 5);
        town.walk(5, 9, 3, 2, 1, 0, 4, 8, 7, 6, 5, 5, 6, 7, 8, 9);
    }

    private static void walkGetsShorterAndLonger() {
        Town town = new Town("14, the last k follows the town", TRIANGLE);
        town.walkAt(0, 2, 2);
        town.walkAt(0, 3, NONE);
        town.close(2, true);
        town.walkAt(0, 3, 0);
        town.walkAt(0, 4, NONE);
        town.close(1, true);
        town.walkAt(0, 1, 0);
        town.walkAt(0, 2, NONE);
    }

    // Promise 15

    private static void noneIsTestedBeforeFull() {
        Town town = new Town("15, NONE before FULL", TEN);
        for (int c = 0; c < 6; c++) {
            town.build(c, c, 1, NONE);
        }
        for (int c : NO_CORNERS) {
            town.build(c, 0, 1, NONE);
            town.build(5, c, 1, NONE);
            town.build(c, c, 1, NONE);
        }
        for (int length : NO_LENGTHS) {
            town.build(0, 5, length, NONE);
        }
        town.build(LEAST, GREATEST, LEAST, NONE);
        for (int c = 0; c < 5; c++) {
            town.build(c, 5, 0, FULL);
            town.build(5, c, 20, FULL);
        }
        town.streets(1023);
    }

    private static void atNineStreetsNothingIsFull() {
        Town town = new Town("15, nine streets", NINE);
        town.build(0, 0, 1, NONE);
        town.build(-1, 0, 1, NONE);
        town.build(0, 6, 1, NONE);
        town.build(0, 1, 21, NONE);
        town.build(0, 1, 20, 9);
        town.build(0, 1, 21, NONE);
        town.build(0, 1, 20, FULL);
    }

    // All promises

    private static void askingChangesNothing() {
        changesNothingAnywhere("5 to 14, asking changes nothing", town -> {
            town.x.streets();
            town.x.odd();
            town.x.connected();
            town.x.extra();
            town.x.bestSet();
            town.x.walkLength();
            for (int s : new int[] {-1, 0, 9, 10, LEAST, GREATEST}) {
                town.x.extraWith(s);
                town.x.extraWithout(s);
                town.x.way(s, 0);
                town.x.way(0, s);
                town.x.walkAt(s, 0);
                town.x.walkAt(0, s);
            }
            town.x.way(5, 0);
            town.x.walkAt(5, 14);
            town.calls += 6 + 36 + 2;
        });
    }

    /** Runs every method here that takes nothing and answers nothing, so that no test can be forgotten in a list. */
    public static void main(String[] args) throws ReflectiveOperationException {
        int tests = 0;
        for (Method method : StreetWalkerBounds.class.getDeclaredMethods()) {
            if (method.getParameterCount() == 0 && method.getReturnType() == void.class) {
                method.invoke(null);
                tests++;
            }
        }
        System.out.println(tests + " tests: " + (wrong == 0 ? "all answers are as due" : wrong + " answers are not as due"));
        if (wrong != 0 || tests == 0) {
            System.exit(1);
        }
    }
}
