import java.io.IOException;
import java.nio.file.Files;
import java.nio.file.Path;
import java.util.ArrayList;
import java.util.List;

/**
 * The document sentence by sentence: each sentence of "Terms" and of the promises has a test of its own, with ordinary
 * inputs, the edges that it names, and wrong inputs. Fails also when the document has a sentence without a test.
 */
public final class StreetWalkerPromises {
    private static final int NONE = -1;
    private static final int FULL = -2;
    private static final int[] WRONG_CORNERS = {-1, 6, 7, 31, 32, 38, -32, Integer.MIN_VALUE, Integer.MAX_VALUE};
    private static final int[] WRONG_STREETS = {-1, 10, 11, 31, 32, 33, -32, Integer.MIN_VALUE, Integer.MAX_VALUE};
    private static final int[] WRONG_LENGTHS = {-1, 21, 256, Integer.MIN_VALUE, Integer.MAX_VALUE};

    // Towns: each three numbers are a street, its corners and its length.
    private static final int[] TRIANGLE = {0, 1, 1, 1, 2, 2, 2, 0, 3};
    private static final int[] BOW = {0, 1, 1, 1, 0, 1, 0, 2, 1, 2, 0, 1};
    private static final int[] LOLLIPOP = {0, 1, 1, 1, 2, 1, 2, 3, 1, 3, 1, 1};
    private static final int[] STAR = {0, 1, 20, 0, 2, 20, 0, 3, 20, 0, 4, 20, 0, 5, 20};
    private static final int[] PATH = {0, 1, 3, 1, 2, 4, 2, 3, 5, 3, 4, 6, 4, 5, 7};
    private static final int[] PATH_FROM_ITS_END = {4, 5, 1, 3, 4, 1, 2, 3, 1, 1, 2, 1, 0, 1, 1};
    private static final int[] APART = {0, 1, 2, 0, 1, 2, 0, 1, 2, 2, 3, 1};
    private static final int[] RINGS_APART = {0, 1, 1, 0, 1, 1, 4, 5, 1, 4, 5, 1};
    private static final int[] SQUARE = {0, 1, 3, 1, 2, 4, 2, 3, 5, 3, 0, 6, 0, 2, 7, 3, 4, 2};
    private static final int[] TEN = {
        0, 1, 1, 1, 2, 2, 2, 3, 3, 3, 4, 4, 4, 5, 5, 5, 0, 6, 0, 2, 7, 2, 4, 8, 4, 0, 9, 0, 3, 10};
    private static final int[][] TOWNS = {
        {}, TRIANGLE, BOW, LOLLIPOP, STAR, PATH, PATH_FROM_ITS_END, APART, RINGS_APART, SQUARE, TEN};

    private static final List<String> tested = new ArrayList<>();
    private static String sentence = "";
    private static int wrong = 0;

    private static void due(String call, Object got, Object want) {
        if (!got.equals(want)) {
            complain(call + " answered " + got + ", due is " + want);
        }
    }

    private static void complain(String what) {
        wrong++;
        System.out.println(sentence + "\n    " + what);
    }

    private static StreetWalker town(int... streets) {
        StreetWalker x = new StreetWalker();
        for (int i = 0; i < streets.length; i += 3) {
            due("build of a town", x.build(streets[i], streets[i + 1], streets[i + 2]), i / 3);
        }
        return x;
    }

    private static boolean endsAt(int[] streets, int s, int c) {
        return streets[3 * s] == c || streets[3 * s + 1] == c;
    }

    /** How many streets end at a corner when those of the set count once more. */
    private static int countAt(int[] streets, int c, int set) {
        int count = 0;
        for (int s = 0; s < streets.length / 3; s++) {
            count += endsAt(streets, s, c) ? 1 + (set >> s & 1) : 0;
        }
        return count;
    }

    private static boolean isExtraSet(int[] streets, int set) {
        for (int c = 0; c < 6; c++) {
            if (countAt(streets, c, set) % 2 != 0) {
                return false;
            }
        }
        return set >= 0 && set < 1 << streets.length / 3;
    }

    private static int lengthOf(int[] streets, int set) {
        int sum = 0;
        for (int s = 0; s < streets.length / 3; s++) {
            sum += (set >> s & 1) * streets[3 * s + 2];
        }
        return sum;
    }

    /** The least length of the extra sets that have all streets of needed and none of refused, or NONE. */
    private static int leastExtra(int[] streets, int needed, int refused) {
        int least = NONE;
        for (int set = 0; set < 1 << streets.length / 3; set++) {
            boolean fits = (set & needed) == needed && (set & refused) == 0 && isExtraSet(streets, set);
            if (fits && (least == NONE || lengthOf(streets, set) < least)) {
                least = lengthOf(streets, set);
            }
        }
        return least;
    }

    private static void dueWalk(StreetWalker x, int c, int... streets) {
        for (int k = 0; k < streets.length; k++) {
            due("walkAt(" + c + ", " + k + ")", x.walkAt(c, k), streets[k]);
        }
        due("walkAt(" + c + ", after the last)", x.walkAt(c, streets.length), NONE);
    }

    // Terms

    private static void cornersAndStreetNumbers() {
        StreetWalker x = new StreetWalker();
        for (int s = 0; s < 10; s++) {
            due("build number " + s, x.build(s % 6, (s + 1) % 6, 1), s);
        }
        due("streets()", x.streets(), 1023);
        due("build of an eleventh", x.build(0, 1, 1), FULL);
        due("close(9)", x.close(9), true);
        due("close(10)", x.close(10), false);
        due("build(5, 6, 1)", x.build(5, 6, 1), NONE);
        due("build(-1, 0, 1)", x.build(-1, 0, 1), NONE);
    }

    private static void streetsJoinTwoCorners() {
        for (int a = 0; a < 6; a++) {
            for (int b = 0; b < 6; b++) {
                int length = 3 * a + b;
                StreetWalker x = new StreetWalker();
                due("build(" + a + ", " + b + ", " + length + ")", x.build(a, b, length), a == b ? NONE : 0);
                due("way(" + a + ", " + b + ")", x.way(a, b), a == b ? 0 : length);
            }
        }
        due("way of length 0", town(2, 4, 0).way(2, 4), 0);
        due("way of length 20", town(2, 4, 20).way(2, 4), 20);
        StreetWalker several = town(0, 1, 5, 1, 0, 5, 0, 1, 4);
        due("streets() of several between two corners", several.streets(), 7);
        due("odd() of several between two corners", several.odd(), 3);
        due("walkLength() of several between two corners", several.walkLength(), 5 + 5 + 4 + 4);
    }

    private static void streetsGoBothWays() {
        for (int[] streets : TOWNS) {
            StreetWalker x = town(streets);
            for (int a = 0; a < 6; a++) {
                for (int b = 0; b < a; b++) {
                    due("way(" + a + ", " + b + ")", x.way(a, b), x.way(b, a));
                }
            }
        }
        StreetWalker single = town(4, 2, 6);
        due("way(4, 2)", single.way(4, 2), 6);
        due("way(2, 4)", single.way(2, 4), 6);
        dueWalk(single, 2, 0, 0);
        dueWalk(single, 4, 0, 0);
    }

    private static void extraSetsEvenOutEveryCorner() {
        for (int[] streets : TOWNS) {
            StreetWalker x = town(streets);
            due("bestSet() is an extra set", isExtraSet(streets, x.bestSet()), true);
            due("extra()", x.extra(), leastExtra(streets, 0, 0));
            for (int s = 0; s < streets.length / 3; s++) {
                due("extraWith(" + s + ")", x.extraWith(s), leastExtra(streets, 1 << s, 0));
                due("extraWithout(" + s + ")", x.extraWithout(s), leastExtra(streets, 0, 1 << s));
            }
        }
    }

    private static void lengthOfASetIsItsSum() {
        StreetWalker path = town(PATH);
        due("extra()", path.extra(), 3 + 4 + 5 + 6 + 7);
        path.setLength(1, 0);
        due("extra() with a length 0", path.extra(), 3 + 5 + 6 + 7);
        path.setLength(1, 20);
        due("extra() with a length 20", path.extra(), 3 + 20 + 5 + 6 + 7);
        path.close(4);
        due("extra() without street 4", path.extra(), 3 + 20 + 5 + 6);
        due("extra() of the set of no streets", town(TRIANGLE).extra(), 0);
        due("extra() of the longest set", town(STAR).extra(), 100);
    }

    private static void connectedIsFromEveryCornerToEveryOther() {
        due("no streets", new StreetWalker().connected(), true);
        due("one street, off corner 0", town(3, 5, 1).connected(), true);
        due("two apart", town(0, 1, 1, 2, 3, 1).connected(), false);
        due("two rings apart", town(RINGS_APART).connected(), false);
        due("three apart", town(0, 1, 1, 2, 3, 1, 4, 5, 1).connected(), false);
        due("a street of length 0 joins", town(0, 1, 1, 2, 3, 1, 3, 1, 0).connected(), true);
        due("a path", town(PATH).connected(), true);
        due("a path built from its end", town(PATH_FROM_ITS_END).connected(), true);
        due("a path built in no order", town(2, 3, 1, 0, 1, 1, 4, 5, 1, 1, 2, 1, 3, 4, 1).connected(), true);
        due("a star", town(STAR).connected(), true);
    }

    private static void bestSetIsTheLeastRow() {
        due("the later of two alike", town(0, 1, 4, 0, 1, 4, 0, 1, 20).bestSet(), 2);
        due("the last of three alike", town(0, 1, 4, 0, 1, 4, 0, 1, 4).bestSet(), 4);
        // Street 0 alone and streets 1 and 2 together, both of length 4: the row 0110 is less than 1000.
        StreetWalker x = town(0, 1, 4, 0, 2, 2, 2, 1, 2, 0, 1, 20);
        due("two streets against one", x.bestSet(), 2 + 4);
        x.setLength(0, 3);
        due("the length comes before the row", x.bestSet(), 1);
        x.setLength(0, 4);
        x.setLength(3, 4);
        due("the row 0001", x.bestSet(), 8);
        // Street 1 alone against streets 0 and 2: the row 0100 is less than 1010.
        due("the first digit decides", town(0, 2, 2, 0, 1, 4, 2, 1, 2, 0, 1, 20).bestSet(), 2);
        due("no street of length 0 too many", town(0, 1, 0, 1, 2, 0, 2, 0, 0).bestSet(), 0);
    }

    /** Whether the answers of walkAt from c are a walk, by the words of the sentence alone. */
    private static void dueIsWalk(int[] streets, StreetWalker x, int c) {
        int count = streets.length / 3;
        int[] left = new int[count];
        int size = 0;
        for (int s = 0; s < count; s++) {
            left[s] = 1 + (x.bestSet() >> s & 1);
            size += left[s];
        }
        int here = c;
        for (int k = 0; k < size; k++) {
            int s = x.walkAt(c, k);
            if (s < 0 || s >= count || left[s] == 0 || !endsAt(streets, s, here)) {
                complain("walkAt(" + c + ", " + k + ") answered " + s + ", which can't be next at corner " + here);
                return;
            }
            left[s]--;
            here = streets[3 * s] + streets[3 * s + 1] - here;
        }
        due("the corner where the walk from " + c + " ends", here, c);
        due("walkAt(" + c + ", after the last)", x.walkAt(c, size), NONE);
    }

    private static void walksGoAlongEveryStreet() {
        for (int[] streets : TOWNS) {
            StreetWalker x = town(streets);
            for (int c = 0; c < 6; c++) {
                if (x.connected() && countAt(streets, c, 0) > 0) {
                    dueIsWalk(streets, x, c);
                }
            }
        }
    }

    // Promises 1 to 4

    private static void newObject() {
        StreetWalker x = new StreetWalker();
        due("streets()", x.streets(), 0);
        due("odd()", x.odd(), 0);
        due("connected()", x.connected(), true);
        due("extra()", x.extra(), 0);
        due("bestSet()", x.bestSet(), 0);
        due("walkLength()", x.walkLength(), 0);
        for (int s = 0; s < 10; s++) {
            due("close(" + s + ")", x.close(s), false);
            due("setLength(" + s + ", 1)", x.setLength(s, 1), false);
            due("extraWith(" + s + ")", x.extraWith(s), NONE);
            due("extraWithout(" + s + ")", x.extraWithout(s), NONE);
        }
        for (int c = 0; c < 6; c++) {
            due("way(" + c + ", " + (c + 1) % 6 + ")", x.way(c, (c + 1) % 6), NONE);
            due("walkAt(" + c + ", 0)", x.walkAt(c, 0), NONE);
        }
        StreetWalker other = town(0, 1, 1);
        due("streets() beside another object", x.streets(), 0);
        due("streets() of the other object", other.streets(), 1);
    }

    private static void buildJoinsItsCorners() {
        StreetWalker x = new StreetWalker();
        x.build(2, 4, 9);
        due("streets()", x.streets(), 1);
        due("odd()", x.odd(), 4 + 16);
        due("way(2, 4)", x.way(2, 4), 9);
        due("way(2, 3)", x.way(2, 3), NONE);
        due("extra()", x.extra(), 9);
        due("walkLength()", x.walkLength(), 18);
        x.build(5, 0, 20);
        due("streets() of two", x.streets(), 3);
        due("odd() of two", x.odd(), 4 + 16 + 1 + 32);
        due("way(0, 5)", x.way(0, 5), 20);
        due("connected()", x.connected(), false);
        x.build(4, 5, 0);
        due("connected() when joined", x.connected(), true);
        due("way(2, 0) when joined", x.way(2, 0), 29);
    }

    private static void buildAnswersNoneFullOrANumber() {
        StreetWalker x = new StreetWalker();
        for (int c = 0; c < 6; c++) {
            due("build(" + c + ", " + c + ", 1)", x.build(c, c, 1), NONE);
        }
        for (int c : WRONG_CORNERS) {
            due("build(" + c + ", 0, 1)", x.build(c, 0, 1), NONE);
            due("build(5, " + c + ", 1)", x.build(5, c, 1), NONE);
            due("build(" + c + ", " + c + ", 1)", x.build(c, c, 1), NONE);
        }
        for (int length : WRONG_LENGTHS) {
            due("build(0, 1, " + length + ")", x.build(0, 1, length), NONE);
        }
        due("streets() after wrong builds", x.streets(), 0);
        due("build(0, 5, 0)", x.build(0, 5, 0), 0);
        due("build(5, 0, 20)", x.build(5, 0, 20), 1);
        for (int s = 2; s < 10; s++) {
            due("build number " + s, x.build(s % 5, 5, s), s);
        }
        due("build when ten are there", x.build(0, 1, 1), FULL);
        due("streets() then", x.streets(), 1023);
        due("close(7)", x.close(7), true);
        due("close(3)", x.close(3), true);
        due("build takes the least free number", x.build(0, 1, 1), 3);
        due("the street gets that number", x.streets(), 1023 - 128);
        due("build takes the next free number", x.build(0, 1, 1), 7);
        due("build when ten are there again", x.build(0, 1, 1), FULL);
    }

    private static void closeTakesAStreetAway() {
        StreetWalker x = town(0, 1, 3, 1, 2, 4, 2, 0, 5);
        for (int s : WRONG_STREETS) {
            due("close(" + s + ")", x.close(s), false);
        }
        due("close(3)", x.close(3), false);
        due("streets() after wrong closes", x.streets(), 7);
        due("walkLength() after wrong closes", x.walkLength(), 12);
        due("close(1)", x.close(1), true);
        due("close(1) again", x.close(1), false);
        due("streets()", x.streets(), 5);
        due("odd()", x.odd(), 6);
        due("way(1, 2)", x.way(1, 2), 8);
        due("setLength of a closed street", x.setLength(1, 2), false);
        due("extraWith of a closed street", x.extraWith(1), NONE);
        due("extraWithout of a closed street", x.extraWithout(1), NONE);
        due("build in its place", x.build(4, 5, 7), 1);
        due("odd() after that", x.odd(), 6 + 48);
        due("way(4, 5) after that", x.way(4, 5), 7);
        due("way(1, 2) after that", x.way(1, 2), 8);
        closedStreetsCountNoMore();
    }

    /** The closed streets are shorter than the one that is left, so that a program that still saw them would take them. */
    private static void closedStreetsCountNoMore() {
        StreetWalker x = town(0, 1, 1, 0, 1, 5, 2, 3, 1, 0, 1, 1);
        due("close(0)", x.close(0), true);
        due("close(2)", x.close(2), true);
        due("close(3)", x.close(3), true);
        due("extra() of what is left", x.extra(), 5);
        due("bestSet() of what is left", x.bestSet(), 2);
        due("extraWith(1) of what is left", x.extraWith(1), 5);
        due("extraWithout(1) of what is left", x.extraWithout(1), NONE);
        due("way(0, 1) of what is left", x.way(0, 1), 5);
        due("connected() of what is left", x.connected(), true);
        due("walkLength() of what is left", x.walkLength(), 10);
        dueWalk(x, 0, 1, 1);
        dueWalk(x, 2);
    }

    private static void setLengthGivesALength() {
        StreetWalker x = town(0, 1, 3, 1, 2, 4);
        for (int s : WRONG_STREETS) {
            due("setLength(" + s + ", 1)", x.setLength(s, 1), false);
        }
        due("setLength(2, 1)", x.setLength(2, 1), false);
        for (int length : WRONG_LENGTHS) {
            due("setLength(0, " + length + ")", x.setLength(0, length), false);
        }
        due("way(0, 2) after wrong lengths", x.way(0, 2), 7);
        due("extra() after wrong lengths", x.extra(), 7);
        due("setLength(0, 20)", x.setLength(0, 20), true);
        due("way(0, 2)", x.way(0, 2), 24);
        due("setLength(0, 0)", x.setLength(0, 0), true);
        due("way(0, 2)", x.way(0, 2), 4);
        due("extra()", x.extra(), 4);
        due("walkLength()", x.walkLength(), 8);
        due("setLength(0, 0) again", x.setLength(0, 0), true);
        due("streets()", x.streets(), 3);
        due("odd()", x.odd(), 1 + 4);
    }

    // Promises 5 to 11

    private static void streetsAreBits() {
        StreetWalker x = new StreetWalker();
        for (int s = 0; s < 10; s++) {
            due("streets() of " + s, x.streets(), (1 << s) - 1);
            x.build(0, 1, 1);
        }
        due("streets() of ten", x.streets(), 1023);
        for (int s = 0; s < 10; s++) {
            x.close(s);
            due("streets() without 0 .. " + s, x.streets(), 1023 - ((2 << s) - 1));
        }
    }

    private static void oddCornersAreBits() {
        StreetWalker x = town(0, 1, 1, 0, 1, 1, 0, 1, 1, 4, 5, 1);
        due("odd() with three streets between two corners", x.odd(), 3 + 48);
        x.close(0);
        due("odd() with two streets between two corners", x.odd(), 48);
        x.close(3);
        due("odd() when all are even", x.odd(), 0);
        due("odd() of ten streets", town(TEN).odd(), 1 + 8);
        due("odd() of a star", town(STAR).odd(), 63);
        for (int[] streets : TOWNS) {
            int want = 0;
            for (int c = 0; c < 6; c++) {
                want += countAt(streets, c, 0) % 2 << c;
            }
            due("odd()", town(streets).odd(), want);
        }
    }

    private static void connectedFollowsTheTown() {
        StreetWalker x = town(PATH_FROM_ITS_END);
        due("the path", x.connected(), true);
        x.close(2);
        due("the path cut in the middle", x.connected(), false);
        due("build(5, 0, 0)", x.build(5, 0, 0), 2);
        due("the path joined at its ends", x.connected(), true);
        x.close(2);
        x.close(0);
        x.close(1);
        due("only its first part, other corners without streets", x.connected(), true);
        x.close(3);
        x.close(4);
        due("all closed", x.connected(), true);
    }

    private static void extraIsTheLeastLength() {
        due("no streets", new StreetWalker().extra(), 0);
        due("an even town", town(TRIANGLE).extra(), 0);
        due("a single street", town(0, 1, 20).extra(), 20);
        due("a town that isn't connected", town(APART).extra(), 3);
        due("ten streets", town(TEN).extra(), 6);
        StreetWalker square = town(SQUARE);
        due("four odd corners", square.extra(), 7 + 2);
        square.setLength(4, 8);
        due("the way around, as long as before", square.extra(), 3 + 4 + 2);
        square.close(5);
        due("two odd corners", square.extra(), 7);
        // The set of all streets is an extra set of every town, so NONE is never due.
        for (int[] streets : TOWNS) {
            due("extra() is NONE", town(streets).extra() == NONE, false);
        }
    }

    private static void bestSetIsBits() {
        due("no streets", new StreetWalker().bestSet(), 0);
        due("an even town", town(TRIANGLE).bestSet(), 0);
        due("a dead end", town(LOLLIPOP).bestSet(), 1);
        due("a star", town(STAR).bestSet(), 31);
        due("a town that isn't connected", town(APART).bestSet(), 4 + 8);
        due("ten streets", town(TEN).bestSet(), 1 + 2 + 4);
        StreetWalker gaps = town(0, 1, 1, 1, 2, 1, 2, 3, 1);
        gaps.close(1);
        due("street 1 closed", gaps.bestSet(), 1 + 4);
        StreetWalker last = town(0, 1, 2, 0, 1, 2, 0, 1, 2, 0, 1, 2, 0, 1, 2, 0, 1, 2, 0, 1, 2, 0, 1, 2, 0, 1, 2, 4, 5, 3);
        due("streets 8 and 9", last.bestSet(), 256 + 512);
    }

    private static void bestSetIsAlwaysThere() {
        for (int[] streets : TOWNS) {
            StreetWalker x = town(streets);
            due("bestSet() is NONE", x.bestSet() == NONE, false);
            for (int s = 0; s < streets.length / 3; s++) {
                x.close(s);
                due("bestSet() is NONE without street " + s, x.bestSet() == NONE, false);
            }
            due("bestSet() when all are closed", x.bestSet(), 0);
        }
    }

    private static void extraWithContainsTheStreet() {
        StreetWalker x = town(SQUARE);
        due("extraWith(0)", x.extraWith(0), 3 + 4 + 2);
        due("extraWith(2)", x.extraWith(2), 5 + 6 + 2);
        due("extraWith(5)", x.extraWith(5), 9);
        due("extraWith(6), not built", x.extraWith(6), NONE);
        x.close(0);
        due("extraWith(4) when the odd corners are others", x.extraWith(4), 4 + 2 + 7 + 6 + 5);
        due("extraWith(0), closed", x.extraWith(0), NONE);
        for (int s : WRONG_STREETS) {
            due("extraWith(" + s + ")", x.extraWith(s), NONE);
        }
        StreetWalker even = town(0, 1, 5, 0, 1, 6, 2, 3, 0, 2, 3, 0);
        due("an even town", even.extraWith(0), 11);
        due("a ring of length 0", even.extraWith(3), 0);
        due("ten streets", town(TEN).extraWith(9), 10);
        due("a single street", town(0, 1, 20).extraWith(0), 20);
    }

    private static void extraWithoutLacksTheStreet() {
        StreetWalker x = town(SQUARE);
        due("extraWithout(0)", x.extraWithout(0), 9);
        due("extraWithout(4)", x.extraWithout(4), 9);
        due("extraWithout(5), a dead end", x.extraWithout(5), NONE);
        due("extraWithout(6), not built", x.extraWithout(6), NONE);
        x.close(0);
        due("extraWithout(4) when the odd corners are others", x.extraWithout(4), 4 + 2);
        due("extraWithout(0), closed", x.extraWithout(0), NONE);
        for (int s : WRONG_STREETS) {
            due("extraWithout(" + s + ")", x.extraWithout(s), NONE);
        }
        due("an even town", town(TRIANGLE).extraWithout(1), 0);
        due("ten streets, extraWithout(9)", town(TEN).extraWithout(9), 6);
        due("ten streets, extraWithout(0)", town(TEN).extraWithout(0), 3 + 7);
        due("a single street", town(0, 1, 20).extraWithout(0), NONE);
        due("a single street of length 0", town(0, 1, 0).extraWithout(0), NONE);
    }

    // Promise 12

    private static void wayIsTheLeastLength() {
        StreetWalker x = town(4, 5, 20, 3, 4, 20, 2, 3, 20, 1, 2, 20, 0, 1, 20);
        due("way(0, 5) along five streets", x.way(0, 5), 100);
        due("way(5, 0) along five streets", x.way(5, 0), 100);
        for (int c = 0; c < 6; c++) {
            due("way(" + c + ", " + c + ")", x.way(c, c), 0);
        }
        due("build(5, 0, 20)", x.build(5, 0, 20), 5);
        due("way(0, 5) direct", x.way(0, 5), 20);
        due("way(0, 3)", x.way(0, 3), 60);
        x.setLength(5, 0);
        due("way(0, 4) over length 0", x.way(0, 4), 20);
        due("the shorter of several streets", town(1, 0, 9, 0, 1, 4, 1, 0, 6).way(0, 1), 4);
        due("around is shorter", town(0, 1, 20, 1, 2, 3, 2, 0, 4).way(0, 1), 7);
        due("a corner without streets to itself", town(0, 1, 1).way(3, 3), 0);
    }

    private static void wayIsNone() {
        StreetWalker x = town(4, 5, 20, 3, 4, 20, 2, 3, 20, 1, 2, 20, 0, 1, 20);
        for (int c : WRONG_CORNERS) {
            due("way(" + c + ", 0)", x.way(c, 0), NONE);
            due("way(0, " + c + ")", x.way(0, c), NONE);
            due("way(" + c + ", " + c + ")", x.way(c, c), NONE);
        }
        x.close(2);
        due("way(0, 5) when cut", x.way(0, 5), NONE);
        due("way(3, 5) when cut", x.way(3, 5), 40);
        due("way to a corner without streets", town(0, 1, 1).way(0, 3), NONE);
        due("way from a corner without streets", town(0, 1, 1).way(3, 0), NONE);
    }

    // Promises 13 and 14

    private static void walkLengthIsAllStreetsAndTheBestSet() {
        due("no streets", new StreetWalker().walkLength(), 0);
        due("a single street", town(0, 1, 7).walkLength(), 14);
        due("a triangle", town(TRIANGLE).walkLength(), 6);
        due("a star", town(STAR).walkLength(), 200);
        due("ten streets", town(TEN).walkLength(), 55 + 6);
        due("two apart", town(APART).walkLength(), NONE);
        StreetWalker x = town(RINGS_APART);
        due("two rings apart", x.walkLength(), NONE);
        x.build(1, 4, 0);
        due("joined by a street of length 0", x.walkLength(), 4);
        x.setLength(4, 3);
        due("joined by a street of length 3", x.walkLength(), 4 + 6);
        x.close(4);
        due("apart again", x.walkLength(), NONE);
    }

    private static void firstWalkIsTheLeastList() {
        StreetWalker triangle = town(TRIANGLE);
        dueWalk(triangle, 0, 0, 1, 2);
        dueWalk(triangle, 1, 0, 2, 1);
        dueWalk(triangle, 2, 1, 0, 2);
        // From corner 1 street 1 may not follow street 0, for the streets 2 and 3 would be cut off.
        StreetWalker bow = town(BOW);
        dueWalk(bow, 0, 0, 1, 2, 3);
        dueWalk(bow, 1, 0, 2, 3, 1);
        dueWalk(bow, 2, 2, 0, 1, 3);
        // From corner 0 street 0 may not be taken back at once, for the streets 1 to 3 would be cut off.
        StreetWalker lollipop = town(LOLLIPOP);
        dueWalk(lollipop, 0, 0, 1, 2, 3, 0);
        dueWalk(lollipop, 1, 0, 0, 1, 2, 3);
        dueWalk(lollipop, 3, 2, 1, 0, 0, 3);
        StreetWalker star = town(STAR);
        dueWalk(star, 0, 0, 0, 1, 1, 2, 2, 3, 3, 4, 4);
        dueWalk(star, 5, 4, 0, 0, 1, 1, 2, 2, 3, 3, 4);
        StreetWalker path = town(PATH_FROM_ITS_END);
        dueWalk(path, 2, 2, 1, 0, 0, 1, 2, 3, 4, 4, 3);
        dueWalk(path, 2, 2, 1, 0, 0, 1, 2, 3, 4, 4, 3);
        StreetWalker rings = town(RINGS_APART);
        rings.build(1, 4, 0);
        dueWalk(rings, 0, 0, 4, 2, 3, 4, 1);
    }

    private static void walkAtIsNone() {
        StreetWalker apart = town(RINGS_APART);
        StreetWalker none = new StreetWalker();
        StreetWalker triangle = town(TRIANGLE);
        for (int c = 0; c < 6; c++) {
            due("two rings apart: walkAt(" + c + ", 0)", apart.walkAt(c, 0), NONE);
            due("no streets: walkAt(" + c + ", 0)", none.walkAt(c, 0), NONE);
        }
        for (int c = 3; c < 6; c++) {
            due("no street ends there: walkAt(" + c + ", 0)", triangle.walkAt(c, 0), NONE);
        }
        for (int c : WRONG_CORNERS) {
            due("walkAt(" + c + ", 0)", triangle.walkAt(c, 0), NONE);
        }
        for (int k : new int[] {-1, 3, 4, 32, -32, Integer.MIN_VALUE, Integer.MAX_VALUE}) {
            due("walkAt(0, " + k + ")", triangle.walkAt(0, k), NONE);
        }
        due("walkAt(0, 2), the last", triangle.walkAt(0, 2), 2);
        StreetWalker lollipop = town(LOLLIPOP);
        due("walkAt(0, 4), the last with a street twice", lollipop.walkAt(0, 4), 0);
        due("walkAt(0, 5), after the last", lollipop.walkAt(0, 5), NONE);
    }

    // Promise 15

    private static void noneComesBeforeFull() {
        StreetWalker x = town(TEN);
        due("build(0, 1, 1) when ten are there", x.build(0, 1, 1), FULL);
        for (int c = 0; c < 6; c++) {
            due("build(" + c + ", " + c + ", 1) when ten are there", x.build(c, c, 1), NONE);
        }
        for (int c : WRONG_CORNERS) {
            due("build(" + c + ", 0, 1) when ten are there", x.build(c, 0, 1), NONE);
            due("build(0, " + c + ", 1) when ten are there", x.build(0, c, 1), NONE);
        }
        for (int length : WRONG_LENGTHS) {
            due("build(0, 1, " + length + ") when ten are there", x.build(0, 1, length), NONE);
        }
        due("streets()", x.streets(), 1023);
        due("walkLength()", x.walkLength(), 61);
    }

    private static void test(String heading, String words, Runnable test) {
        sentence = heading + ": " + words;
        tested.add(sentence);
        test.run();
    }

    private static void testTerms() {
        test("Terms", "There are corners 0 .. 5 and at most ten STREETS, with numbers 0 .. 9.",
                StreetWalkerPromises::cornersAndStreetNumbers);
        test("Terms", "A street joins two different corners and has a length (0 .. 20); two corners may be joined by "
                + "several streets.", StreetWalkerPromises::streetsJoinTwoCorners);
        test("Terms", "Streets can be gone along both ways.", StreetWalkerPromises::streetsGoBothWays);
        test("Terms", "An EXTRA SET is a set of streets such that, when every street counts once and every street of "
                + "the set counts once more, an even number of streets ends at every corner.",
                StreetWalkerPromises::extraSetsEvenOutEveryCorner);
        test("Terms", "Its length is the sum of the lengths of its streets.", StreetWalkerPromises::lengthOfASetIsItsSum);
        test("Terms", "The town is CONNECTED when from every corner at which a street ends one can get along streets "
                + "to every other such corner (so also when there are no streets).",
                StreetWalkerPromises::connectedIsFromEveryCornerToEveryOther);
        test("Terms", "The BEST SET is, of the extra sets with the least length, the one whose streets, written as a "
                + "row of ten digits (digit s, from street 0 to street 9, is 1 when street s is in the set, else 0), "
                + "are least in the dictionary order.", StreetWalkerPromises::bestSetIsTheLeastRow);
        test("Terms", "A WALK is a list of streets in which every street of the town occurs, those of the best set "
                + "twice and the others once, that can be gone along one after the other from a corner and ends at "
                + "that corner.", StreetWalkerPromises::walksGoAlongEveryStreet);
    }

    private static void testChanges() {
        test("Promise 1", "No streets.", StreetWalkerPromises::newObject);
        test("Promise 2", "Builds a street between corners a and b.", StreetWalkerPromises::buildJoinsItsCorners);
        test("Promise 2", "Answers NONE when a = b, a or b is not 0 .. 5, or length is not 0 .. 20; FULL when ten "
                + "streets are there; otherwise the least number that no street holds, which the street gets.",
                StreetWalkerPromises::buildAnswersNoneFullOrANumber);
        test("Promise 3", "Closes street s for good and answers true; false, changing nothing, when there is no "
                + "street s.", StreetWalkerPromises::closeTakesAStreetAway);
        test("Promise 4", "Gives street s another length and answers true; false, changing nothing, when there is no "
                + "street s or length is not 0 .. 20.", StreetWalkerPromises::setLengthGivesALength);
    }

    private static void testQuestions() {
        test("Promise 5", "The streets: bit s is set when there is a street s.", StreetWalkerPromises::streetsAreBits);
        test("Promise 6", "The corners at which an odd number of streets ends: bit c for corner c.",
                StreetWalkerPromises::oddCornersAreBits);
        test("Promise 7", "Whether the town is connected.", StreetWalkerPromises::connectedFollowsTheTown);
        test("Promise 8", "The least length of an extra set; NONE when there is no extra set.",
                StreetWalkerPromises::extraIsTheLeastLength);
        test("Promise 9", "The best set: bit s for street s.", StreetWalkerPromises::bestSetIsBits);
        test("Promise 9", "NONE when there is no extra set.", StreetWalkerPromises::bestSetIsAlwaysThere);
        test("Promise 10", "The least length of an extra set that contains street s; NONE when there is none, or no "
                + "street s.", StreetWalkerPromises::extraWithContainsTheStreet);
        test("Promise 11", "The least length of an extra set that does not contain street s; NONE when there is none, "
                + "or no street s.", StreetWalkerPromises::extraWithoutLacksTheStreet);
    }

    private static void testWalks() {
        test("Promise 12", "The least length of a way from corner a to corner b along streets: 0 when a = b.",
                StreetWalkerPromises::wayIsTheLeastLength);
        test("Promise 12", "NONE when there is no way, or a or b is not 0 .. 5.", StreetWalkerPromises::wayIsNone);
        test("Promise 13", "The length of every walk: the lengths of all streets and of the best set together; NONE "
                + "when there is no extra set or the town is not connected.",
                StreetWalkerPromises::walkLengthIsAllStreetsAndTheBestSet);
        test("Promise 14", "Street number k (0 the first) in the FIRST WALK from corner c: of the walks that begin and "
                + "end at corner c, the one whose list of streets is least in the dictionary order.",
                StreetWalkerPromises::firstWalkIsTheLeastList);
        test("Promise 14", "NONE when walkLength() is NONE, no street ends at c, or k is not from 0 to the number of "
                + "streets of a walk - 1.", StreetWalkerPromises::walkAtIsNone);
        test("Promise 15", "build: NONE is tested before FULL.", StreetWalkerPromises::noneComesBeforeFull);
    }

    /** The sentences under the headings "Terms" and "Promise ..", each after its heading. */
    private static List<String> sentencesOfTheDocument() throws IOException {
        List<String> sentences = new ArrayList<>();
        for (String section : Files.readString(Path.of("../shared/DOC.md")).split("(?m)^## ")) {
            String heading = section.lines().findFirst().orElse("").replaceAll(":.*", "");
            if (heading.equals("Terms") || heading.startsWith("Promise ")) {
                String words = section.substring(section.indexOf('\n')).replaceAll("\\s+", " ").strip();
                String withoutMethod = words.replaceFirst("^`[^`]*`: ", "");
                for (String one : withoutMethod.split("(?<=\\.) (?=[A-Z])")) {
                    sentences.add(heading + ": " + one);
                }
            }
        }
        return sentences;
    }

    private static void compareWithTheDocument() throws IOException {
        List<String> sentences = sentencesOfTheDocument();
        for (String due : sentences) {
            if (!tested.contains(due)) {
                sentence = due;
                complain("this sentence of the document has no test");
            }
        }
        for (String done : tested) {
            if (!sentences.contains(done)) {
                sentence = done;
                complain("this sentence has a test but is not in the document");
            }
        }
    }

    public static void main(String[] args) throws IOException {
        testTerms();
        testChanges();
        testQuestions();
        testWalks();
        compareWithTheDocument();
        System.out.println(tested.size() + " sentences: "
                + (wrong == 0 ? "all answers are as due" : wrong + " things are not as due"));
        if (wrong != 0) {
            System.exit(1);
        }
    }
}
