/** Part 1 of the document's terms, THE NET: a test for each sentence, with answers worked out by hand. */
public final class NetTermsTest extends Sentences {
    public static void main(String[] args) throws Exception {
        runAll(NetTermsTest.class);
    }

    @Says("KNOTS 0 .. 15, as they were made")
    static void knotsAreSixteenInOrder() {
        RoadTrace x = new RoadTrace();
        for (int i = 0; i < 16; i++) {
            due("knot " + i, x.knot(i, 0), i);
        }
        due("a seventeenth knot", x.knot(16, 0), FULL);
        due("knots", x.count(0), 16);
        due("from the last to the first", x.road(1500, 1, ROAD, 0), 0);
        x.drive();
        x.sight(0, 1500, 0, 0);
        due("the last knot is the one made last", x.off(0, 0, 0), 0);
        due("the first knot is the one made first", x.off(0, 0, 4), 15 * 15);
    }

    @Says("with whole places (x, y 0 .. 99)")
    static void placesOfKnots() {
        RoadTrace x = new RoadTrace();
        due("x -1", x.knot(-1, 50), NONE);
        due("x 100", x.knot(100, 50), NONE);
        due("y -1", x.knot(50, -1), NONE);
        due("y 100", x.knot(50, 100), NONE);
        due("x 0, y 99", x.knot(0, 99), 0);
        due("x 99, y 0", x.knot(99, 0), 1);
        x.road(1, 1, ROAD, 0);
        x.drive();
        x.sight(0, 99, 0, 0);
        due("x 0 and y 99 are kept", x.off(0, 0, 0), 0);
        due("x 99 and y 0 are kept", x.off(0, 0, 4), 99 * 99 + 99 * 99);
    }

    @Says("ROADS 0 .. 29, as they were made")
    static void roadsAreThirtyInOrder() {
        RoadTrace x = new RoadTrace();
        x.knot(0, 0);
        x.knot(40, 0);
        for (int i = 0; i < 30; i++) {
            due("road " + i, x.road(1, 1 + i, TUNNEL, 0), i);
        }
        due("a road more", x.road(1, 1, TUNNEL, 0), FULL);
        due("roads", x.count(1), 30);
        due("the first road is the one made first", x.way(0, 1), 1);
        x.bar(29, 0, 1);
        due("the last road is the one made last", x.way(145, 146), 30);
    }

    @Says("from a KNOT a to another KNOT b")
    static void roadsJoinTwoKnots() {
        RoadTrace x = new RoadTrace();
        x.knot(5, 5);
        due("to a knot that is not made yet", x.road(1, 1, ROAD, 0), NONE);
        due("from a knot that is not made yet", x.road(100, 1, ROAD, 0), NONE);
        due("to itself", x.road(0, 1, ROAD, 0), NONE);
        x.knot(5, 5);
        due("the second to itself", x.road(101, 1, ROAD, 0), NONE);
        due("to another one at the same place", x.road(1, 1, ROAD, 0), 0);
        due("a second one between the same two", x.road(1, 1, ROAD, 0), 1);
        due("one back", x.road(100, 1, ROAD, 0), 2);
    }

    @Says("with a LENGTH (1 .. 200)")
    static void lengthsOfRoads() {
        RoadTrace x = new RoadTrace();
        x.knot(0, 0);
        x.knot(40, 0);
        x.knot(80, 0);
        x.knot(80, 40);
        due("length 0", x.road(1, 0, ROAD, 0), NONE);
        due("length -1", x.road(1, -1, ROAD, 0), NONE);
        due("length 201", x.road(1, 201, ROAD, 0), NONE);
        due("length 1", x.road(1, 1, ROAD, 0), 0);
        due("length 200", x.road(203, 200, ROAD, 0), 1);
        due("the shortest road", x.way(0, 4), 4);
        due("the longest road", x.way(5, 9), 800);
    }

    @Says("and a KIND: 0 ROAD, 1 ONEWAY (from a to b alone), 2 TUNNEL, 3 TOLLED")
    static void kindsOfRoads() {
        RoadTrace x = new RoadTrace();
        for (int i = 0; i < 8; i++) {
            x.knot(10 * i, 0);
        }
        due("kind -1", x.road(1, 5, -1, 0), NONE);
        due("kind 4", x.road(1, 5, 4, 0), NONE);
        due("kind 4 with a fee", x.road(1, 5, 4, 9), NONE);
        due("kind 0", x.road(1, 5, 0, 0), 0);
        due("kind 1", x.road(203, 5, 1, 0), 1);
        due("kind 2", x.road(405, 5, 2, 0), 2);
        due("kind 3", x.road(607, 5, 3, 9), 3);
        due("a road back", x.way(4, 0), 20);
        due("a oneway from a to b", x.way(5, 9), 20);
        due("a oneway from b to a", x.way(9, 5), NO_WAY);
        due("a tunnel back", x.way(14, 10), 20);
        due("a tolled road back", x.way(19, 15), 20);
        x.drive();
        x.sight(0, 1000, 0, 0);
        x.sight(0, 3000, 1, 0);
        x.sight(0, 5000, 2, 0);
        x.sight(0, 7000, 3, 0);
        due("a road has spots", spots(x, 0, 0), "4");
        due("a oneway has spots", spots(x, 0, 1), "9");
        due("a tunnel has none", spots(x, 0, 2), "");
        due("a tolled road has spots", spots(x, 0, 3), "19");
    }

    @Says("(a FEE, 1 .. 99; of others 0)")
    static void feesOfRoads() {
        RoadTrace x = new RoadTrace();
        x.knot(0, 0);
        x.knot(40, 0);
        due("tolled without a fee", x.road(1, 5, TOLLED, 0), NONE);
        due("tolled for -1", x.road(1, 5, TOLLED, -1), NONE);
        due("tolled for 100", x.road(1, 5, TOLLED, 100), NONE);
        for (int kind = ROAD; kind <= TUNNEL; kind++) {
            due("fee 1 of kind " + kind, x.road(1, 5, kind, 1), NONE);
            due("fee -1 of kind " + kind, x.road(1, 5, kind, -1), NONE);
            due("fee 99 of kind " + kind, x.road(1, 5, kind, 99), NONE);
        }
        due("none was made", x.count(1), 0);
        due("tolled for 1", x.road(1, 5, TOLLED, 1), 0);
        due("tolled for 99", x.road(1, 5, TOLLED, 99), 1);
        due("the least fee", x.fees(1, 2), 1);
        due("the greatest fee", x.fees(6, 7), 99);
    }

    @Says({"POINTS of a ROAD: k of 0 .. 4, number 5 times the ROAD and k:"})
    static void pointsAreFiveOfARoad() {
        RoadTrace x = oneRoad(7, ROAD, 0);
        x.drive();
        x.sight(0, 0, 0, 0);
        due("k 4", x.way(4, 4), 0);
        due("behind k 4 there is no road yet", x.way(5, 5), NONE);
        due("ahead of k 0", x.way(-1, -1), NONE);
        x.knot(0, 40);
        x.road(2, 9, ROAD, 0);
        due("number 5 is k 0 of road 1", x.off(0, 0, 5), 0);
        due("number 9 is k 4 of road 1", x.off(0, 0, 9), 1600);
        due("number 8 is k 3 of road 1", x.way(5, 8), 27);
        due("number 10 is none", x.way(10, 10), NONE);
        for (int road = 2; road < 30; road++) {
            x.road(2, 1, ROAD, 0);
        }
        due("the last of all", x.way(149, 149), 0);
        due("behind the last of all", x.way(150, 150), NONE);
    }

    @Says("its place is a's place and k quarters of the way straight to b's")
    static void placesOfPoints() {
        RoadTrace x = new RoadTrace();
        x.knot(90, 10);
        x.knot(10, 50);
        x.road(1, 3, ROAD, 0);
        x.drive();
        int[] places = {9010, 7020, 5030, 3040, 1050};
        for (int k = 0; k <= 4; k++) {
            x.sight(0, places[k], k, 0);
            due("k " + k, x.off(0, k, k), 0);
            due("spot at k " + k, spots(x, 0, k), "" + k);
        }
        due("a quarter of the way is 80 and 40 long", x.off(0, 0, 1), 20 * 20 + 10 * 10);
    }

    @Says("it lies k times LENGTH from a")
    static void pointsLieByLength() {
        RoadTrace x = oneRoad(13, ROAD, 0);
        for (int k = 0; k <= 4; k++) {
            due("from a to k " + k, x.way(0, k), 13 * k);
            due("from b to k " + k, x.way(4, k), 13 * (4 - k));
        }
    }

    @Says("(lengths are told in quarters: a ROAD has 4 times LENGTH)")
    static void lengthsAreInQuarters() {
        due("1 long", oneRoad(1, ROAD, 0).way(0, 4), 4);
        due("a quarter of 1", oneRoad(1, ROAD, 0).way(0, 1), 1);
        due("50 long", oneRoad(50, ROAD, 0).way(4, 0), 200);
    }

    @Says("TURNS: from a ROAD r to a ROAD s at a KNOT both have:")
    static void turnsAreAtCommonKnots() {
        RoadTrace x = new RoadTrace();
        x.knot(0, 0);
        x.knot(10, 0);
        x.knot(10, 0);
        x.knot(20, 0);
        x.road(1, 10, ROAD, 0);
        x.road(203, 10, ROAD, 0);
        due("two knots at one place are no knot in common", x.way(4, 5), NO_WAY);
        due("nor for whole roads", x.way(0, 9), NO_WAY);
        x.road(102, 1, ROAD, 0);
        due("over a road between them", x.way(4, 5), 4);
        due("whole", x.way(0, 9), 84);
    }

    @Says("all are free (r to r, too: turning round there) but those that are BARRED.")
    static void turnsAreFreeButBarred() {
        RoadTrace x = line();
        x.knot(40, 5);
        x.road(103, 5, ROAD, 0);
        due("free at first", x.way(0, 9), 320);
        x.bar(0, 1, 1);
        due("by turning round at a dead end", x.way(0, 9), 320 + 20 + 20);
        x.bar(2, 2, 1);
        due("turning round is barred, too", x.way(0, 9), NO_WAY);
        due("the other turns are free", x.way(14, 9), 20 + 160);
        due("and those back", x.way(9, 0), 320);
        x.bar(0, 1, 0);
        due("free again", x.way(0, 9), 320);
    }

    @Says("A WAY from a POINT to a POINT: if it is one and the same: 0 long, without FEES, one that stays.")
    static void waysThatStay() {
        RoadTrace x = oneRoad(200, TOLLED, 99);
        x.knot(0, 40);
        x.knot(40, 40);
        x.road(203, 200, ONEWAY, 0);
        x.bar(0, 0, 1);
        x.bar(1, 1, 1);
        for (int point = 0; point < 10; point++) {
            due("way that stays at " + point, x.way(point, point), 0);
            due("fees to stay at " + point, x.fees(point, point), 0);
        }
        x.drive();
        x.sight(0, 2040, 0, 0);
        x.sight(0, 2040, 1, 0);
        due("a drive that stays on a oneway", x.cost(0), 0);
        due("at one point", laid(x, 0, 2), "7 7");
    }

    @Says("Else it goes from the first one along its ROAD, either way (of ONEWAY from a to b alone), "
        + "to where it ends on that ROAD")
    static void waysAlongOneRoad() {
        int[] twoways = {ROAD, TUNNEL, TOLLED};
        for (int kind : twoways) {
            RoadTrace x = oneRoad(6, kind, kind == TOLLED ? 1 : 0);
            due("forth on kind " + kind, x.way(1, 3), 12);
            due("back on kind " + kind, x.way(3, 1), 12);
        }
        RoadTrace oneway = oneRoad(6, ONEWAY, 0);
        for (int from = 0; from <= 4; from++) {
            for (int to = 0; to <= 4; to++) {
                int want = to < from ? NO_WAY : 6 * (to - from);
                due("oneway from " + from + " to " + to, oneway.way(from, to), want);
            }
        }
    }

    @Says("or to the KNOT there; at each KNOT it takes a TURN that is free")
    static void waysTakeFreeTurns() {
        RoadTrace x = line();
        x.road(2, 100, ROAD, 0);
        due("the short way", x.way(0, 9), 320);
        x.bar(0, 1, 1);
        due("only the first turn of the short way is barred, so the long road, and back", x.way(0, 9), 400);
        due("within the roads the other way round", x.way(2, 7), 80 + 400 + 80);
        x.bar(2, 1, 1);
        due("no turn onto it is left but that from itself", x.way(0, 9), NO_WAY);
        due("the way back has turns of its own", x.way(9, 0), 320);
    }

    @Says("onto a ROAD that may be gone from there")
    static void waysObeyOneways() {
        RoadTrace x = line();
        x.road(201, 10, ONEWAY, 0);
        due("the oneway is short, but goes from 2 to 1", x.way(4, 9), 160);
        due("from 2 to 1", x.way(9, 4), 40);
        due("its k 4 lies at 1, but is come to by its k 0 alone", x.way(4, 14), 160 + 40);
        due("from farther off, too", x.way(0, 14), 160 + 160 + 40);
        due("its k 0 is come to with 0 of it", x.way(9, 10), 0);
        due("round to its own a", x.way(14, 10), 160);
    }

    @Says("whole ones, till the last one up to its POINT.")
    static void waysGoWholeRoads() {
        RoadTrace x = new RoadTrace();
        x.knot(0, 0);
        x.knot(10, 0);
        x.knot(20, 0);
        x.knot(30, 0);
        x.road(1, 3, ROAD, 0);
        x.road(102, 5, ROAD, 0);
        x.road(302, 7, ROAD, 0);
        due("a quarter, a whole one, and a quarter from b", x.way(3, 13), 3 + 20 + 7);
        due("and back", x.way(13, 3), 7 + 20 + 3);
        due("up to the last one's b alone", x.way(3, 14), 3 + 20);
        due("up to the last one's a", x.way(3, 10), 3 + 20 + 28);
    }

    @Says("(POINTS at KNOTS, k 0 and 4, lie on their ROAD: from there it may go at once, "
        + "with 0 of that ROAD, to a TURN.)")
    static void waysFromPointsAtKnots() {
        RoadTrace x = line();
        due("from k 4", x.way(4, 5), 0);
        due("from k 0", x.way(5, 4), 0);
        x.bar(0, 1, 1);
        due("they lie on their road: its turn is barred", x.way(4, 5), NO_WAY);
        due("and that of the other one is not", x.way(5, 4), 0);
        x.road(102, 9, ONEWAY, 0);
        due("from k 0 of a oneway", x.way(10, 4), 0);
        due("from k 4 of a oneway", x.way(14, 9), 0);
        due("from k 1 of a oneway it goes on to b", x.way(11, 9), 27);
        due("and round to a", x.way(11, 4), 27 + 160);
        x.bar(2, 0, 1);
        due("barred from the oneway's k 0, so along it and back by the road", x.way(10, 4), 36 + 160);
    }

    @Says("Its LENGTH is what it goes, in quarters;")
    static void lengthsOfWays() {
        RoadTrace x = line();
        due("a quarter and a quarter", x.way(3, 6), 80);
        x.knot(40, 1);
        x.road(103, 1, TOLLED, 99);
        x.bar(0, 1, 1);
        due("what is gone twice counts twice, a fee not", x.way(3, 6), 40 + 4 + 4 + 40);
    }

    @Says("its FEES are those of all ROADS on which it goes more than 0")
    static void feesOfWays() {
        RoadTrace x = new RoadTrace();
        x.knot(0, 0);
        x.knot(10, 0);
        x.knot(20, 0);
        x.knot(30, 0);
        x.road(1, 10, TOLLED, 1);
        x.road(102, 10, TOLLED, 20);
        x.road(302, 10, TOLLED, 50);
        due("of three roads", x.fees(3, 11), 71);
        due("a quarter of one", x.fees(3, 4), 1);
        due("0 of the first one, k 4", x.fees(4, 11), 70);
        due("0 of the last one, its k 4 at b", x.fees(3, 14), 21);
        due("0 of the first one, k 0", x.fees(5, 3), 1);
        due("0 of the last one, its k 0 at a", x.fees(3, 5), 1);
        due("0 of both", x.fees(4, 5), 0);
        x.bar(0, 1, 1);
        due("no way", x.fees(4, 5), NO_WAY);
    }

    @Says("(each time it comes onto one)")
    static void feesOfRoadsGoneTwice() {
        RoadTrace x = line();
        x.knot(40, 10);
        x.road(103, 10, TOLLED, 9);
        x.bar(0, 1, 1);
        due("forth and back on a dead end", x.way(4, 5), 80);
        due("for two fees", x.fees(4, 5), 18);
    }

    @Says("LEAST is the WAY of the least LENGTH, of these with the least FEES.")
    static void leastIsByLengthThenFees() {
        RoadTrace x = line();
        x.knot(99, 0);
        x.road(203, 1, ROAD, 0);
        x.road(102, 40, TOLLED, 5);
        due("of like lengths the one without a fee", x.fees(0, 14), 0);
        x.bar(0, 1, 1);
        due("with the fee, if that one is barred", x.fees(0, 14), 5);
        due("as long", x.way(0, 14), 324);
        x.road(102, 40, TOLLED, 4);
        due("of two fees the lesser", x.fees(0, 14), 4);
        x.road(102, 39, TOLLED, 99);
        due("the shorter one for a greater fee", x.fees(0, 14), 99);
        due("is the shorter one", x.way(0, 14), 320);
        x.bar(0, 1, 0);
        due("even though a way without a fee is free again", x.fees(0, 14), 99);
    }

    @Says("LEAST is the WAY of the least LENGTH, of these with the least FEES.")
    static void leastFeesAreOfTheWholeWay() {
        RoadTrace x = new RoadTrace();
        x.knot(0, 0);
        x.knot(10, 0);
        x.knot(20, 0);
        x.knot(30, 0);
        x.road(1, 10, ROAD, 0);
        x.road(102, 10, TOLLED, 3);
        x.knot(15, 5);
        x.road(104, 5, TOLLED, 1);
        x.road(402, 5, TOLLED, 1);
        x.road(203, 10, ROAD, 0);
        due("two fees of 1 are less than one of 3", x.fees(0, 24), 2);
        x.bar(0, 2, 1);
        due("else it is 3", x.fees(0, 24), 3);
    }

    /**
     * From KNOT 0 to 1, then by one ROAD of 100 or by two of 10 to 2, and on to 3 and 4, all with 10.
     * The ROADS come in the given order: 0 the first one, 1 the long one, 2 and 3 the short ones, 4 and 5 the last ones.
     */
    private static RoadTrace detour(int... order) {
        int[] ends = {1, 102, 105, 502, 203, 304};
        RoadTrace x = new RoadTrace();
        for (int i = 0; i < 6; i++) {
            x.knot(10 * i, 0);
        }
        for (int which : order) {
            x.road(ends[which], which == 1 ? 100 : 10, ROAD, 0);
        }
        return x;
    }

    @Says("LEAST is the WAY of the least LENGTH, of these with the least FEES.")
    static void leastIsOfAllWays() {
        RoadTrace x = detour(0, 2, 3, 1, 4, 5);
        due("by two short roads", x.way(0, 29), 200);
        due("and back", x.way(29, 0), 200);
        RoadTrace y = detour(5, 4, 1, 3, 2, 0);
        due("by two short roads, made later", y.way(25, 4), 200);
        due("and back", y.way(4, 25), 200);
        y.bar(4, 3, 1);
        due("by the long road if a turn is barred", y.way(25, 4), 520);
        due("and back as before", y.way(4, 25), 200);
    }

    @Says("whole ones, till the last one up to its POINT.")
    static void waysGoAnyRoadBothWays() {
        int[][] orders = {{0, 1, 2}, {1, 0, 2}, {2, 1, 0}};
        for (int[] order : orders) {
            RoadTrace x = new RoadTrace();
            int[] ends = {100, 201, 302};
            for (int i = 0; i < 4; i++) {
                x.knot(10 * i, 0);
            }
            int[] number = new int[3];
            for (int which : order) {
                number[which] = x.road(ends[which], 10, ROAD, 0);
            }
            due("each from b to a", x.way(5 * number[0] + 4, 5 * number[2]), 120);
            due("each from a to b", x.way(5 * number[2], 5 * number[0] + 4), 120);
        }
    }
}
