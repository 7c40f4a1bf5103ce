/** Promises 1 to 6, the net: a test for each sentence and each answer that it names, worked out by hand. */
public final class NetPromisesTest extends Sentences {
    public static void main(String[] args) throws Exception {
        runAll(NetPromisesTest.class);
    }

    @Says("No knots, no roads, no drives.")
    static void newObjectIsEmpty() {
        RoadTrace x = new RoadTrace();
        due("knots", x.count(0), 0);
        due("roads", x.count(1), 0);
        due("drives", x.count(2), 0);
        due("sights", x.count(3), 0);
        due("on the list", x.count(4), 0);
        due("a road between knots that are not", x.road(1, 1, ROAD, 0), NONE);
        due("a way between points that are not", x.way(0, 0), NONE);
        due("a turn between roads that are not", x.bar(0, 0, 0), NONE);
        due("a drive that is not", x.cost(0), NONE);
        due("a row for a drive that is not", x.check(0), NONE);
    }

    @Says("No knots, no roads, no drives.")
    static void newObjectMakesTheFirstOfAll() {
        RoadTrace x = new RoadTrace();
        due("knot", x.knot(0, 0), 0);
        x.knot(40, 0);
        due("road", x.road(1, 80, ROAD, 0), 0);
        due("no turn is barred", x.bar(0, 0, 0), 0);
        due("drive", x.drive(), 0);
        due("sight", x.sight(0, 0, 0, 0), 0);
        due("list", x.list(0), 1);
        x.sight(0, 1000, 1, 0);
        due("fast is 20: 80 quarters in a tick", x.cost(0), 20);
        x.sight(0, 99, 2, 0);
        due("loss is 200", x.cost(0), 220);
    }

    @Says("A new KNOT: its number.")
    static void knotTellsItsNumber() {
        RoadTrace x = new RoadTrace();
        due("the first", x.knot(3, 4), 0);
        due("the second, at the same place", x.knot(3, 4), 1);
        due("knots", x.count(0), 2);
    }

    @Says("A new KNOT: its number. NONE, FULL.")
    static void knotOutsideIsNone() {
        RoadTrace x = new RoadTrace();
        int[] outside = {Integer.MIN_VALUE, -100, -1, 100, 101, 199, Integer.MAX_VALUE};
        for (int number : outside) {
            due("x " + number, x.knot(number, 0), NONE);
            due("y " + number, x.knot(0, number), NONE);
            due("both " + number, x.knot(number, number), NONE);
        }
        due("none was made", x.count(0), 0);
        due("the corners, (0, 0)", x.knot(0, 0), 0);
        due("the corners, (99, 99)", x.knot(99, 99), 1);
    }

    @Says("A new KNOT: its number. NONE, FULL.")
    static void knotSeventeenIsFull() {
        RoadTrace x = new RoadTrace();
        for (int i = 0; i < 15; i++) {
            x.knot(0, 0);
        }
        due("the sixteenth", x.knot(0, 0), 15);
        due("the seventeenth", x.knot(0, 0), FULL);
        due("and again", x.knot(0, 0), FULL);
        due("not even then outside", x.knot(100, 0), NONE);
        due("knots", x.count(0), 16);
    }

    @Says("A new ROAD: its number.")
    static void roadTellsItsNumber() {
        RoadTrace x = new RoadTrace();
        x.knot(0, 0);
        x.knot(40, 0);
        due("the first", x.road(1, 1, ROAD, 0), 0);
        due("the second between the same knots", x.road(1, 1, ROAD, 0), 1);
        due("roads", x.count(1), 2);
    }

    @Says("ends: 100 times a, and b;")
    static void roadEndsAreTwoKnots() {
        RoadTrace x = new RoadTrace();
        for (int i = 0; i < 16; i++) {
            x.knot(5 * i, 0);
        }
        due("a 2, b 15", x.road(215, 1, ONEWAY, 0), 0);
        due("a 15, b 2", x.road(1502, 1, ONEWAY, 0), 1);
        due("a 0, b 15", x.road(15, 1, ONEWAY, 0), 2);
        due("a 15, b 0", x.road(1500, 1, ONEWAY, 0), 3);
        x.drive();
        x.sight(0, 1000, 0, 0);
        x.sight(0, 7500, 1, 0);
        x.sight(0, 0, 2, 0);
        due("at knot 2 the a of road 0 and the b of road 1", spots(x, 0, 0), "0 9");
        due("at knot 15", spots(x, 0, 1), "4 5 14 15");
        due("at knot 0 the a of road 2 and the b of road 3", spots(x, 0, 2), "10 19");
        due("b 16", x.road(16, 1, ROAD, 0), NONE);
        due("a 16", x.road(1600, 1, ROAD, 0), NONE);
        due("a and b 15", x.road(1515, 1, ROAD, 0), NONE);
        due("b 99", x.road(99, 1, ROAD, 0), NONE);
        due("a less than 0", x.road(-99, 1, ROAD, 0), NONE);
        due("b less than 0", x.road(-1, 1, ROAD, 0), NONE);
    }

    @Says("fee: 0 but of TOLLED.")
    static void roadFeesAreOfTolledAlone() {
        RoadTrace x = new RoadTrace();
        x.knot(0, 0);
        x.knot(40, 0);
        due("a fee of a road", x.road(1, 1, ROAD, 1), NONE);
        due("a fee of a oneway", x.road(1, 1, ONEWAY, 1), NONE);
        due("a fee of a tunnel", x.road(1, 1, TUNNEL, 1), NONE);
        due("no fee of tolled", x.road(1, 1, TOLLED, 0), NONE);
        due("a fee of tolled", x.road(1, 1, TOLLED, 1), 0);
        due("is its fee", x.fees(0, 4), 1);
    }

    @Says("fee: 0 but of TOLLED. NONE, FULL.")
    static void roadNotAsSaidIsNone() {
        RoadTrace x = new RoadTrace();
        x.knot(0, 0);
        x.knot(40, 0);
        int[] lengths = {Integer.MIN_VALUE, -1, 0, 201, 400, Integer.MAX_VALUE};
        for (int length : lengths) {
            due("length " + length, x.road(1, length, ROAD, 0), NONE);
        }
        int[] kinds = {Integer.MIN_VALUE, -1, 4, 5, Integer.MAX_VALUE};
        for (int kind : kinds) {
            due("kind " + kind, x.road(1, 1, kind, 0), NONE);
            due("kind " + kind + " with a fee", x.road(1, 1, kind, 1), NONE);
        }
        int[] fees = {Integer.MIN_VALUE, -1, 0, 100, 101, Integer.MAX_VALUE};
        for (int fee : fees) {
            due("fee " + fee, x.road(1, 1, TOLLED, fee), NONE);
        }
        due("none was made", x.count(1), 0);
        due("all at their least", x.road(1, 1, 0, 0), 0);
        due("all at their most", x.road(100, 200, 3, 99), 1);
    }

    @Says("fee: 0 but of TOLLED. NONE, FULL.")
    static void roadThirtyOneIsFull() {
        RoadTrace x = new RoadTrace();
        x.knot(0, 0);
        x.knot(40, 0);
        for (int i = 0; i < 29; i++) {
            x.road(1, 1, ROAD, 0);
        }
        due("the thirtieth", x.road(1, 1, ROAD, 0), 29);
        due("the next", x.road(1, 1, ROAD, 0), FULL);
        due("and again", x.road(1, 1, TOLLED, 5), FULL);
        due("not even then to itself", x.road(101, 1, ROAD, 0), NONE);
        due("roads", x.count(1), 30);
    }

    @Says("A TURN from r to s is BARRED (1) or free (0): what it was.")
    static void barTellsWhatItWas() {
        RoadTrace x = line();
        due("free stays free", x.bar(0, 1, 0), 0);
        due("it was free", x.bar(0, 1, 1), 0);
        due("it was barred, and stays so", x.bar(0, 1, 1), 1);
        due("it was barred", x.bar(0, 1, 0), 1);
        due("it is free again", x.bar(0, 1, 0), 0);
        due("a road to itself", x.bar(1, 1, 1), 0);
        due("was barred", x.bar(1, 1, 0), 1);
    }

    @Says("A TURN from r to s is BARRED (1) or free (0): what it was.")
    static void barIsFromTheFirstToTheSecond() {
        RoadTrace x = line();
        x.bar(0, 1, 1);
        due("from r to s", x.way(3, 6), NO_WAY);
        due("not from s to r", x.way(6, 3), 80);
        due("what that one was", x.bar(1, 0, 1), 0);
        due("now from s to r", x.way(6, 3), NO_WAY);
        x.bar(0, 1, 0);
        due("free from r to s", x.way(3, 6), 80);
        due("still not from s to r", x.way(6, 3), NO_WAY);
    }

    @Says("A TURN from r to s is BARRED (1) or free (0): what it was.")
    static void barHoldsForTheLastRoads() {
        RoadTrace x = line();
        for (int i = 2; i < 30; i++) {
            x.road(102, 40, ROAD, 0);
        }
        due("from the last to the last but one", x.bar(29, 28, 1), 0);
        due("was barred", x.bar(29, 28, 1), 1);
        due("the others are free", x.bar(28, 29, 0), 0);
        due("and those of the first", x.bar(29, 0, 0), 0);
        due("itself", x.bar(29, 29, 1), 0);
        due("itself was barred", x.bar(29, 29, 0), 1);
        due("the first was not", x.bar(28, 28, 0), 0);
    }

    @Says("NONE: also if they have no KNOT in common.")
    static void barNeedsAKnotInCommon() {
        RoadTrace x = new RoadTrace();
        for (int i = 0; i < 4; i++) {
            x.knot(0, 0);
        }
        x.road(1, 1, ROAD, 0);
        x.road(203, 1, ROAD, 0);
        due("none in common, though at one place", x.bar(0, 1, 1), NONE);
        due("not even to free it", x.bar(0, 1, 0), NONE);
        due("nor back", x.bar(1, 0, 1), NONE);
        x.road(2, 1, ROAD, 0);
        x.road(201, 1, ROAD, 0);
        due("a of both", x.bar(0, 2, 1), 0);
        due("b and b", x.bar(0, 3, 1), 0);
        due("b and a", x.bar(2, 1, 1), 0);
        due("a and b", x.bar(1, 2, 1), 0);
        int[] wild = {Integer.MIN_VALUE, -1, 4, 29, 30, Integer.MAX_VALUE};
        for (int number : wild) {
            due("r " + number, x.bar(number, 0, 1), NONE);
            due("s " + number, x.bar(0, number, 1), NONE);
        }
        due("is 2", x.bar(0, 2, 2), NONE);
        due("is -1", x.bar(0, 2, -1), NONE);
    }

    @Says("(At whichever KNOTS they have in common.)")
    static void barHoldsAtBothKnots() {
        RoadTrace x = new RoadTrace();
        x.knot(0, 0);
        x.knot(40, 0);
        x.road(1, 8, ROAD, 0);
        x.road(1, 9, ROAD, 0);
        due("it was free", x.bar(0, 1, 1), 0);
        due("barred at b", x.way(3, 8), NO_WAY);
        due("barred at a", x.way(1, 6), NO_WAY);
        due("back it is free at b", x.way(8, 3), 17);
        due("back it is free at a", x.way(6, 1), 17);
        due("it was barred", x.bar(0, 1, 0), 1);
        due("free at b", x.way(3, 8), 17);
        due("free at a", x.way(1, 6), 17);
    }

    @Says("LENGTH of the LEAST WAY between two POINTS;")
    static void wayFollowsTheNet() {
        RoadTrace x = line();
        due("two roads", x.way(0, 9), 320);
        x.road(2, 79, ROAD, 0);
        due("a shorter one that came later", x.way(0, 9), 316);
        x.bar(0, 2, 1);
        due("barred from it", x.way(0, 9), 320);
        x.bar(0, 2, 0);
        due("free again", x.way(0, 9), 316);
        due("along a half of it", x.way(11, 13), 158);
    }

    @Says("LENGTH of the LEAST WAY between two POINTS;")
    static void wayIsAsLongAsItMustBe() {
        RoadTrace x = new RoadTrace();
        for (int i = 0; i < 16; i++) {
            x.knot(0, 0);
        }
        for (int i = 0; i < 15; i++) {
            x.road(100 * i + i + 1, 200, TOLLED, 99);
        }
        for (int i = 0; i < 15; i++) {
            x.road(100 * i + i + 1, 200, TOLLED, 98);
        }
        due("fifteen long roads", x.way(0, 74), 15 * 800);
        due("from the longer side of one to that of another", x.way(1, 73), 600 + 13 * 800 + 600);
        for (int i = 0; i < 14; i++) {
            x.bar(i, i + 1, 1);
            x.bar(i, i + 16, 1);
            x.bar(i + 15, i + 1, 1);
            x.bar(i + 15, i + 16, 1);
        }
        due("every turn is barred that leads on", x.way(0, 74), NO_WAY);
        due("back none is", x.way(74, 0), 15 * 800);
    }

    @Says("LENGTH of the LEAST WAY between two POINTS; NO_WAY. NONE.")
    static void wayThatIsNot() {
        RoadTrace x = oneRoad(40, ONEWAY, 0);
        due("against a oneway", x.way(4, 0), NO_WAY);
        due("a quarter against it", x.way(3, 2), NO_WAY);
        due("to itself", x.way(3, 3), 0);
        x.road(100, 1, ONEWAY, 0);
        due("round", x.way(3, 2), 40 + 4 + 80);
        x.bar(1, 0, 1);
        due("the turn round is barred", x.way(3, 2), NO_WAY);
    }

    @Says("LENGTH of the LEAST WAY between two POINTS; NO_WAY. NONE.")
    static void wayOfNoPoints() {
        RoadTrace x = line();
        int[] wild = {Integer.MIN_VALUE, -6, -5, -1, 10, 149, 150, Integer.MAX_VALUE};
        for (int number : wild) {
            due("from " + number, x.way(number, 0), NONE);
            due("to " + number, x.way(0, number), NONE);
            due("from and to " + number, x.way(number, number), NONE);
        }
    }

    @Says("FEES of that;")
    static void feesAreOfTheLeastWay() {
        RoadTrace x = line();
        x.road(2, 79, TOLLED, 3);
        due("the shorter way has a fee", x.fees(0, 9), 3);
        due("ways that do not take it have none", x.fees(1, 6), 0);
        x.road(2, 79, TOLLED, 2);
        due("of like ones the lesser fee", x.fees(0, 9), 2);
        x.bar(0, 2, 1);
        x.bar(0, 3, 1);
        due("barred from both", x.fees(0, 9), 0);
    }

    @Says("FEES of that;")
    static void feesAddUp() {
        RoadTrace x = new RoadTrace();
        for (int i = 0; i < 16; i++) {
            x.knot(0, 0);
        }
        for (int i = 0; i < 15; i++) {
            x.road(100 * i + i + 1, 200, TOLLED, 99);
        }
        due("fifteen of the greatest", x.fees(0, 74), 15 * 99);
        due("thirteen, and 0 of two", x.fees(4, 70), 13 * 99);
        due("their length", x.way(4, 70), 13 * 800);
    }

    @Says("FEES of that; NO_WAY. NONE.")
    static void feesOfNoWay() {
        RoadTrace x = oneRoad(40, ONEWAY, 0);
        due("against a oneway", x.fees(4, 0), NO_WAY);
        due("along it", x.fees(0, 4), 0);
        due("to itself", x.fees(4, 4), 0);
        int[] wild = {Integer.MIN_VALUE, -5, -1, 5, 150, Integer.MAX_VALUE};
        for (int number : wild) {
            due("from " + number, x.fees(number, 0), NONE);
            due("to " + number, x.fees(0, number), NONE);
            due("from and to " + number, x.fees(number, number), NONE);
        }
    }
}
