/** The promises of the document one by one: ordinary inputs, the edges it names, and wrong inputs. */
public final class StreetWalkerPromises {
    private static final int NONE = -1;
    private static final int FULL = -2;
    private static final int[] WRONG_CORNERS = {-1, 6, 7, 31, 32, 38, -32, Integer.MIN_VALUE, Integer.MAX_VALUE};
    private static final int[] WRONG_STREETS = {-1, 10, 11, 31, 32, 33, -32, Integer.MIN_VALUE, Integer.MAX_VALUE};
    private static final int[] WRONG_LENGTHS = {-1, 21, 256, Integer.MIN_VALUE, Integer.MAX_VALUE};

    private static int wrong = 0;

    private static void due(String call, int got, int want) {
        if (got != want) {
            wrong++;
            System.out.println(call + " answered " + got + ", due is " + want);
        }
    }

    private static void due(String call, boolean got, boolean want) {
        if (got != want) {
            wrong++;
            System.out.println(call + " answered " + got + ", due is " + want);
        }
    }

    /** Each three numbers are a street: its corners and its length. */
    private static StreetWalker town(int... streets) {
        StreetWalker x = new StreetWalker();
        for (int i = 0; i < streets.length; i += 3) {
            due("build of a town", x.build(streets[i], streets[i + 1], streets[i + 2]), i / 3);
        }
        return x;
    }

    private static StreetWalker fullTown() {
        return town(0, 1, 1, 1, 2, 2, 2, 3, 3, 3, 4, 4, 4, 5, 5, 5, 0, 6, 0, 2, 7, 2, 4, 8, 4, 0, 9, 0, 3, 10);
    }

    private static void dueWalk(String name, StreetWalker x, int c, int... streets) {
        for (int k = 0; k < streets.length; k++) {
            due(name + ": walkAt(" + c + ", " + k + ")", x.walkAt(c, k), streets[k]);
        }
        due(name + ": walkAt(" + c + ", -1)", x.walkAt(c, -1), NONE);
        due(name + ": walkAt(" + c + ", after the last)", x.walkAt(c, streets.length), NONE);
        due(name + ": walkAt(" + c + ", least int)", x.walkAt(c, Integer.MIN_VALUE), NONE);
        due(name + ": walkAt(" + c + ", greatest int)", x.walkAt(c, Integer.MAX_VALUE), NONE);
    }

    private static void newObject() {
        StreetWalker x = new StreetWalker();
        due("1: streets()", x.streets(), 0);
        due("1: odd()", x.odd(), 0);
        due("1: connected()", x.connected(), true);
        due("1: extra()", x.extra(), 0);
        due("1: bestSet()", x.bestSet(), 0);
        due("1: walkLength()", x.walkLength(), 0);
        for (int i = 0; i < 10; i++) {
            due("1: close(" + i + ")", x.close(i), false);
            due("1: setLength(" + i + ", 1)", x.setLength(i, 1), false);
            due("1: extraWith(" + i + ")", x.extraWith(i), NONE);
            due("1: extraWithout(" + i + ")", x.extraWithout(i), NONE);
        }
        for (int c = 0; c < 6; c++) {
            due("1: walkAt(" + c + ", 0)", x.walkAt(c, 0), NONE);
        }
        StreetWalker other = town(0, 1, 1);
        due("1: streets() beside another object", x.streets(), 0);
        due("1: streets() of the other object", other.streets(), 1);
    }

    private static void build() {
        StreetWalker x = new StreetWalker();
        for (int c = 0; c < 6; c++) {
            due("2: build(" + c + ", " + c + ", 1)", x.build(c, c, 1), NONE);
        }
        for (int c : WRONG_CORNERS) {
            due("2: build(" + c + ", 0, 1)", x.build(c, 0, 1), NONE);
            due("2: build(5, " + c + ", 1)", x.build(5, c, 1), NONE);
            due("2: build(" + c + ", " + c + ", 1)", x.build(c, c, 1), NONE);
        }
        for (int length : WRONG_LENGTHS) {
            due("2: build(0, 1, " + length + ")", x.build(0, 1, length), NONE);
        }
        due("2: streets() after wrong builds", x.streets(), 0);
        due("2: build(0, 5, 0)", x.build(0, 5, 0), 0);
        due("2: build(5, 0, 20)", x.build(5, 0, 20), 1);
        due("2: way(0, 5)", x.way(0, 5), 0);
        due("2: extraWith(1)", x.extraWith(1), 20);
        for (int s = 2; s < 10; s++) {
            due("2: build number " + s, x.build(s % 5, 5, s), s);
        }
        due("2: build when full", x.build(0, 1, 1), FULL);
        due("2: streets() when full", x.streets(), 1023);
        due("2: close(7)", x.close(7), true);
        due("2: close(3)", x.close(3), true);
        due("2: build takes the least free number", x.build(0, 1, 1), 3);
        due("2: build takes the next free number", x.build(0, 1, 1), 7);
        due("2: build when full again", x.build(0, 1, 1), FULL);
    }

    private static void close() {
        StreetWalker x = town(0, 1, 3, 1, 2, 4, 2, 0, 5);
        for (int s : WRONG_STREETS) {
            due("3: close(" + s + ")", x.close(s), false);
        }
        due("3: close(3)", x.close(3), false);
        due("3: streets() after wrong closes", x.streets(), 7);
        due("3: close(1)", x.close(1), true);
        due("3: close(1) again", x.close(1), false);
        due("3: streets()", x.streets(), 5);
        due("3: odd()", x.odd(), 6);
        due("3: way(1, 2)", x.way(1, 2), 8);
        due("3: setLength of a closed street", x.setLength(1, 2), false);
        due("3: extraWith of a closed street", x.extraWith(1), NONE);
        due("3: extraWithout of a closed street", x.extraWithout(1), NONE);
        due("3: build in its place", x.build(4, 5, 7), 1);
        due("3: odd() after that", x.odd(), 6 + 48);
        due("3: way(4, 5) after that", x.way(4, 5), 7);
        due("3: way(1, 2) after that", x.way(1, 2), 8);
    }

    private static void setLength() {
        StreetWalker x = town(0, 1, 3, 1, 2, 4);
        for (int s : WRONG_STREETS) {
            due("4: setLength(" + s + ", 1)", x.setLength(s, 1), false);
        }
        due("4: setLength(2, 1)", x.setLength(2, 1), false);
        for (int length : WRONG_LENGTHS) {
            due("4: setLength(0, " + length + ")", x.setLength(0, length), false);
        }
        due("4: way(0, 2) after wrong lengths", x.way(0, 2), 7);
        due("4: extra() after wrong lengths", x.extra(), 7);
        due("4: setLength(0, 20)", x.setLength(0, 20), true);
        due("4: way(0, 2)", x.way(0, 2), 24);
        due("4: setLength(0, 0)", x.setLength(0, 0), true);
        due("4: way(0, 2)", x.way(0, 2), 4);
        due("4: extra()", x.extra(), 4);
        due("4: streets()", x.streets(), 3);
        due("4: setLength(0, 0) again", x.setLength(0, 0), true);
    }

    private static void streetsAndOdd() {
        StreetWalker x = town(0, 1, 1, 0, 1, 1, 0, 1, 1, 4, 5, 1);
        due("5: streets()", x.streets(), 15);
        due("6: odd()", x.odd(), 3 + 48);
        x.close(0);
        due("5: streets() without street 0", x.streets(), 14);
        due("6: odd() with a double street", x.odd(), 48);
        x.close(3);
        due("5: streets() without street 3", x.streets(), 6);
        due("6: odd() when all are even", x.odd(), 0);
        StreetWalker full = fullTown();
        due("5: streets() when full", full.streets(), 1023);
        due("6: odd() when full", full.odd(), 1 + 8);
        due("6: odd() of a star", town(0, 1, 1, 0, 2, 1, 0, 3, 1, 0, 4, 1, 0, 5, 1).odd(), 63);
    }

    private static void connected() {
        due("7: one street, off corner 0", town(3, 5, 1).connected(), true);
        due("7: two apart", town(0, 1, 1, 2, 3, 1).connected(), false);
        due("7: two apart, even corners", town(0, 1, 1, 0, 1, 1, 4, 5, 1, 4, 5, 1).connected(), false);
        due("7: length 0 joins", town(0, 1, 1, 2, 3, 1, 3, 1, 0).connected(), true);
        // The order of the streets makes one look at each street too few.
        StreetWalker path = town(4, 5, 1, 3, 4, 1, 2, 3, 1, 1, 2, 1, 0, 1, 1);
        due("7: a path built from its end", path.connected(), true);
        due("7: a path built from its start", town(0, 1, 1, 1, 2, 1, 2, 3, 1, 3, 4, 1, 4, 5, 1).connected(), true);
        path.close(2);
        due("7: the path cut in the middle", path.connected(), false);
        path.close(0);
        path.close(1);
        due("7: only its first part, others without streets", path.connected(), true);
    }

    private static void extraAndBestSet() {
        StreetWalker apart = town(0, 1, 2, 0, 1, 2, 0, 1, 2, 2, 3, 1);
        due("8: extra() of a town not connected", apart.extra(), 3);
        due("9: bestSet() of a town not connected", apart.bestSet(), 4 + 8);
        StreetWalker even = town(0, 1, 0, 1, 2, 0, 2, 0, 0);
        due("8: extra() of an even town", even.extra(), 0);
        due("9: bestSet() of an even town of length 0", even.bestSet(), 0);
        StreetWalker tree = town(0, 1, 20, 0, 2, 20, 0, 3, 20, 0, 4, 20, 0, 5, 20);
        due("8: extra() of a star", tree.extra(), 100);
        due("9: bestSet() of a star", tree.bestSet(), 31);
        // Street 0 alone and streets 1 and 2 together, both of length 4: the row 011 is less than 100.
        StreetWalker tie = town(0, 1, 4, 0, 2, 2, 2, 1, 2, 0, 1, 9);
        tie.close(3);
        due("9: even triangle", tie.bestSet(), 0);
        tie.build(0, 1, 20);
        due("8: extra() with a tie", tie.extra(), 4);
        due("9: bestSet() with a tie", tie.bestSet(), 2 + 4);
        tie.setLength(0, 3);
        due("8: extra() when street 0 is shorter", tie.extra(), 3);
        due("9: bestSet() when street 0 is shorter", tie.bestSet(), 1);
        tie.setLength(3, 3);
        due("9: bestSet() takes the later of two alike", tie.bestSet(), 8);
        StreetWalker full = fullTown();
        due("8: extra() when full", full.extra(), 6);
        due("9: bestSet() when full", full.bestSet(), 1 + 2 + 4);
    }

    private static void extraWithAndWithout() {
        StreetWalker x = town(0, 1, 3, 1, 2, 4, 2, 3, 5, 3, 0, 6, 0, 2, 7, 3, 4, 2);
        due("10: odd()", x.odd(), 1 + 4 + 8 + 16);
        due("10: extraWith(0)", x.extraWith(0), 3 + 4 + 2);
        due("10: extraWith(2)", x.extraWith(2), 5 + 6 + 2);
        due("10: extraWith(5)", x.extraWith(5), 9);
        due("11: extraWithout(0)", x.extraWithout(0), 9);
        due("11: extraWithout(4)", x.extraWithout(4), 9);
        due("11: extraWithout(5), a dead end", x.extraWithout(5), NONE);
        x.close(0);
        due("10: extraWith(4) when the odd corners are others", x.extraWith(4), 4 + 2 + 7 + 6 + 5);
        due("11: extraWithout(4) when the odd corners are others", x.extraWithout(4), 4 + 2);
        due("10: extraWith(0), closed", x.extraWith(0), NONE);
        due("11: extraWithout(0), closed", x.extraWithout(0), NONE);
        for (int s : WRONG_STREETS) {
            due("10: extraWith(" + s + ")", x.extraWith(s), NONE);
            due("11: extraWithout(" + s + ")", x.extraWithout(s), NONE);
        }
        StreetWalker even = town(0, 1, 5, 0, 1, 6, 2, 3, 0, 2, 3, 0);
        due("10: extraWith of an even town", even.extraWith(0), 11);
        due("10: extraWith of length 0", even.extraWith(3), 0);
        due("11: extraWithout of an even town", even.extraWithout(1), 0);
        StreetWalker full = fullTown();
        due("10: extraWith(9)", full.extraWith(9), 10);
        due("11: extraWithout(9)", full.extraWithout(9), 6);
        due("11: extraWithout(0)", full.extraWithout(0), 3 + 7);
        // An odd street alone at its corners has to be in every extra set.
        StreetWalker single = town(0, 1, 20);
        due("10: extraWith of a single street", single.extraWith(0), 20);
        due("11: extraWithout of a single street", single.extraWithout(0), NONE);
    }

    private static void way() {
        StreetWalker x = town(4, 5, 20, 3, 4, 20, 2, 3, 20, 1, 2, 20, 0, 1, 20);
        due("12: way(0, 5) along five streets", x.way(0, 5), 100);
        due("12: way(5, 0) along five streets", x.way(5, 0), 100);
        for (int c = 0; c < 6; c++) {
            due("12: way(" + c + ", " + c + ")", x.way(c, c), 0);
        }
        for (int c : WRONG_CORNERS) {
            due("12: way(" + c + ", 0)", x.way(c, 0), NONE);
            due("12: way(0, " + c + ")", x.way(0, c), NONE);
            due("12: way(" + c + ", " + c + ")", x.way(c, c), NONE);
        }
        due("12: build(5, 0, 20)", x.build(5, 0, 20), 5);
        due("12: way(0, 5) direct", x.way(0, 5), 20);
        due("12: way(0, 3)", x.way(0, 3), 60);
        x.setLength(5, 0);
        due("12: way(0, 4) over length 0", x.way(0, 4), 20);
        x.close(5);
        x.close(2);
        due("12: way(0, 5) when cut", x.way(0, 5), NONE);
        due("12: way(3, 5) when cut", x.way(3, 5), 40);
        due("12: shorter of two streets", town(1, 0, 9, 0, 1, 4, 1, 0, 6).way(0, 1), 4);
        due("12: around is shorter", town(0, 1, 20, 1, 2, 3, 2, 0, 4).way(0, 1), 7);
        StreetWalker single = town(0, 1, 1);
        due("12: way at a corner without streets", single.way(3, 3), 0);
        due("12: way to a corner without streets", single.way(0, 3), NONE);
    }

    private static void walkLength() {
        due("13: a single street", town(0, 1, 7).walkLength(), 14);
        due("13: a triangle", town(0, 1, 1, 1, 2, 2, 2, 0, 3).walkLength(), 6);
        due("13: a star", town(0, 1, 20, 0, 2, 20, 0, 3, 20, 0, 4, 20, 0, 5, 20).walkLength(), 200);
        due("13: the full town", fullTown().walkLength(), 55 + 6);
        StreetWalker x = town(0, 1, 1, 0, 1, 1, 4, 5, 1, 4, 5, 1);
        due("13: two apart", x.walkLength(), NONE);
        for (int c = 0; c < 6; c++) {
            due("14: two apart: walkAt(" + c + ", 0)", x.walkAt(c, 0), NONE);
        }
        x.build(1, 4, 0);
        due("13: joined by a street of length 0", x.walkLength(), 4);
        dueWalk("14: joined by a street of length 0", x, 0, 0, 4, 2, 3, 4, 1);
    }

    private static void walkAt() {
        StreetWalker triangle = town(0, 1, 1, 1, 2, 2, 2, 0, 3);
        dueWalk("14: triangle", triangle, 0, 0, 1, 2);
        dueWalk("14: triangle", triangle, 1, 0, 2, 1);
        dueWalk("14: triangle", triangle, 2, 1, 0, 2);
        dueWalk("14: triangle", triangle, 3);
        for (int c : WRONG_CORNERS) {
            due("14: walkAt(" + c + ", 0)", triangle.walkAt(c, 0), NONE);
        }
        // From corner 1 street 1 may not follow street 0, for the streets 2 and 3 would be cut off.
        StreetWalker bow = town(0, 1, 1, 1, 0, 1, 0, 2, 1, 2, 0, 1);
        dueWalk("14: bow", bow, 0, 0, 1, 2, 3);
        dueWalk("14: bow", bow, 1, 0, 2, 3, 1);
        dueWalk("14: bow", bow, 2, 2, 0, 1, 3);
        // At corner 1 street 0 may not be taken back at once, for the streets 1 and 2 would be cut off.
        StreetWalker lollipop = town(0, 1, 1, 1, 2, 1, 2, 3, 1, 3, 1, 1);
        due("14: bestSet() of the lollipop", lollipop.bestSet(), 1);
        dueWalk("14: lollipop", lollipop, 0, 0, 1, 2, 3, 0);
        dueWalk("14: lollipop", lollipop, 1, 0, 0, 1, 2, 3);
        dueWalk("14: lollipop", lollipop, 3, 2, 1, 0, 0, 3);
        StreetWalker star = town(0, 1, 20, 0, 2, 20, 0, 3, 20, 0, 4, 20, 0, 5, 20);
        dueWalk("14: star", star, 0, 0, 0, 1, 1, 2, 2, 3, 3, 4, 4);
        dueWalk("14: star", star, 5, 4, 0, 0, 1, 1, 2, 2, 3, 3, 4);
        StreetWalker path = town(4, 5, 1, 3, 4, 1, 2, 3, 1, 1, 2, 1, 0, 1, 1);
        dueWalk("14: path", path, 2, 2, 1, 0, 0, 1, 2, 3, 4, 4, 3);
        // Asking changes nothing.
        dueWalk("14: path again", path, 2, 2, 1, 0, 0, 1, 2, 3, 4, 4, 3);
        due("14: streets() after walks", path.streets(), 31);
    }

    private static void orderAndLimits() {
        StreetWalker x = fullTown();
        due("15: build(0, 1, 1) when full", x.build(0, 1, 1), FULL);
        for (int c = 0; c < 6; c++) {
            due("15: build(" + c + ", " + c + ", 1) when full", x.build(c, c, 1), NONE);
        }
        for (int c : WRONG_CORNERS) {
            due("15: build(" + c + ", 0, 1) when full", x.build(c, 0, 1), NONE);
            due("15: build(0, " + c + ", 1) when full", x.build(0, c, 1), NONE);
        }
        for (int length : WRONG_LENGTHS) {
            due("15: build(0, 1, " + length + ") when full", x.build(0, 1, length), NONE);
        }
        due("15: streets()", x.streets(), 1023);
        due("15: walkLength()", x.walkLength(), 61);
    }

    public static void main(String[] args) {
        newObject();
        build();
        close();
        setLength();
        streetsAndOdd();
        connected();
        extraAndBestSet();
        extraWithAndWithout();
        way();
        walkLength();
        walkAt();
        orderAndLimits();
        System.out.println(wrong == 0 ? "all answers are as due" : wrong + " answers are not as due");
        if (wrong != 0) {
            System.exit(1);
        }
    }
}
