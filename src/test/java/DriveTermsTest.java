/** Parts 2 and 3 of the document's terms, DRIVES and ENDS: a test for each sentence, worked out by hand. */
public final class DriveTermsTest extends Sentences {
    public static void main(String[] args) throws Exception {
        runAll(DriveTermsTest.class);
    }

    @Says("A DRIVE has SIGHTS, at most 20:")
    static void sightsAreTwenty() {
        RoadTrace x = oneRoad(40, ROAD, 0);
        x.drive();
        x.drive();
        due("a drive without sights", x.drop(0), STATE);
        for (int i = 0; i < 20; i++) {
            due("sight " + i, x.sight(0, 0, i, 0), i);
        }
        due("a sight more", x.sight(0, 0, 20, 0), FULL);
        due("sights", x.count(3), 20);
        due("another drive has room", x.sight(1, 0, 20, 0), 0);
        x.drop(0);
        due("room again behind a drop", x.sight(0, 4000, 30, 0), 19);
        due("the last sight counts", x.laid(0, 19), 4);
        due("full again", x.sight(0, 0, 31, 0), FULL);
    }

    @Says("a place (x, y 0 .. 99)")
    static void placesOfSights() {
        RoadTrace x = new RoadTrace();
        x.knot(0, 99);
        x.knot(99, 0);
        x.road(1, 1, ROAD, 0);
        x.drive();
        due("ahead of all places", x.sight(0, -1, 0, 0), NONE);
        due("behind all places", x.sight(0, 10000, 0, 0), NONE);
        due("x 0, y 0", x.sight(0, 0, 0, 0), 0);
        due("x 99, y 99", x.sight(0, 9999, 1, 0), 1);
        due("x 0, y 99", x.sight(0, 99, 2, 0), 2);
        due("x 99, y 0", x.sight(0, 9900, 3, 0), 3);
        due("from (0, 0)", x.off(0, 0, 0), 99 * 99);
        due("from (99, 99)", x.off(0, 1, 0), 99 * 99);
        due("from (0, 99)", x.off(0, 2, 0), 0);
        due("from (99, 0)", x.off(0, 3, 4), 0);
    }

    @Says("a TICK (more than that of the one ahead; 0 .. 10000)")
    static void ticksOfSights() {
        RoadTrace x = new RoadTrace();
        x.drive();
        x.drive();
        due("tick -1", x.sight(0, 0, -1, 0), NONE);
        due("tick 10001", x.sight(0, 0, 10001, 0), NONE);
        due("tick 0 is a first one", x.sight(0, 0, 0, 0), 0);
        due("as the one ahead", x.sight(0, 0, 0, 0), NONE);
        due("one more", x.sight(0, 0, 1, 0), 1);
        due("less than the one ahead", x.sight(0, 0, 0, 0), NONE);
        due("tick 10000", x.sight(0, 0, 10000, 0), 2);
        due("none behind 10000", x.sight(0, 0, 10000, 0), NONE);
        due("10001 is more than the one ahead, but not as said", x.sight(0, 0, 10001, 0), NONE);
        due("each drive has its own ticks", x.sight(1, 0, 10000, 0), 0);
    }

    @Says("a BOUND (0 .. 60).")
    static void boundsOfSights() {
        RoadTrace x = oneRoad(40, ROAD, 0);
        x.drive();
        due("bound -1", x.sight(0, 0, 0, -1), NONE);
        due("bound 61", x.sight(0, 0, 0, 61), NONE);
        due("bound 0", x.sight(0, 2000, 0, 0), 0);
        due("bound 60", x.sight(0, 2060, 1, 60), 1);
        due("what bound 0 finds", spots(x, 0, 0), "2");
        due("what bound 60 finds", spots(x, 0, 1), "2");
    }

    @Says("OFF of a POINT and a SIGHT: 16 times the square of how far they are off, divided by 16 (the rest away; "
        + "places of POINTS are in quarters).")
    static void offsLoseTheRest() {
        RoadTrace x = new RoadTrace();
        x.knot(0, 0);
        x.knot(3, 2);
        x.road(1, 1, ROAD, 0);
        x.drive();
        x.sight(0, 0, 0, 0);
        x.sight(0, 101, 1, 0);
        // In quarters the POINTS lie at (0, 0), (3, 2), (6, 4), (9, 6), (12, 8), the second SIGHT at (4, 4).
        int[] fromFirst = {0, 13, 52, 117, 208};
        int[] fromSecond = {32, 5, 4, 29, 80};
        for (int k = 0; k <= 4; k++) {
            due("first sight, k " + k, x.off(0, 0, k), fromFirst[k] / 16);
            due("second sight, k " + k, x.off(0, 1, k), fromSecond[k] / 16);
        }
        due("13 of 16 are 0", x.off(0, 0, 1), 0);
        due("29 of 16 are 1", x.off(0, 1, 3), 1);
        due("32 of 16 are 2", x.off(0, 1, 0), 2);
    }

    @Says("SPOTS of a SIGHT: the POINTS of ROADS that are no TUNNELS")
    static void spotsAreNotInTunnels() {
        RoadTrace x = oneRoad(40, TUNNEL, 0);
        x.road(1, 40, ROAD, 0);
        x.road(1, 40, ONEWAY, 0);
        x.road(1, 40, TOLLED, 1);
        x.drive();
        x.sight(0, 2000, 0, 0);
        due("the middle of all but the tunnel", spots(x, 0, 0), "7 12 17");
        due("a tunnel's point has an off", x.off(0, 0, 2), 0);
    }

    @Says("with OFF at most BOUND times BOUND;")
    static void spotsLieWithinTheBound() {
        RoadTrace x = oneRoad(40, ROAD, 0);
        x.drive();
        x.sight(0, 2003, 0, 3);
        x.sight(0, 2103, 1, 3);
        x.sight(0, 2060, 2, 60);
        x.sight(0, 2160, 3, 60);
        due("off 9 within 3", spots(x, 0, 0), "2");
        due("off 10 not within 3", spots(x, 0, 1), "");
        due("off 3600 within 60", spots(x, 0, 2), "2");
        due("off 3601 not within 60", spots(x, 0, 3), "");
        RoadTrace near = new RoadTrace();
        near.knot(0, 0);
        near.knot(5, 1);
        near.road(1, 1, ROAD, 0);
        near.drive();
        near.sight(0, 0, 0, 0);
        near.sight(0, 0, 1, 1);
        near.sight(0, 100, 2, 0);
        // In quarters the POINTS lie at (0, 0), (5, 1), (10, 2), (15, 3), (20, 4), the last SIGHT at (4, 0).
        due("within 0 only what is off 0", spots(near, 0, 0), "0");
        due("26 of 16 are 1, within 1", spots(near, 0, 1), "0 1");
        due("2 of 16 are 0, within 0", spots(near, 0, 2), "1");
    }

    /** POINTS 0 .. 9 of the line and 10 .. 14 up from (40, 0): from there their OFFS are known by heart. */
    private static RoadTrace lineWithBranch() {
        RoadTrace x = line();
        x.knot(40, 4);
        x.drive();
        x.sight(0, 4000, 0, 60);
        return x;
    }

    @Says("of more than 10 the 10 with the least OFF")
    static void spotsAreTen() {
        RoadTrace x = lineWithBranch();
        due("ten are all there", spots(x, 0, 0), "0 1 2 3 4 5 6 7 8 9");
        x.road(103, 4, TUNNEL, 0);
        due("a tunnel takes no room", spots(x, 0, 0), "0 1 2 3 4 5 6 7 8 9");
        x.road(103, 4, ROAD, 0);
        // OFFS: 0 of 4, 5, 15; 1, 4, 9, 16 of 16 .. 19; 100 of 3, 6; 400 of 2, 7.
        due("ten", x.spot(0, 0, -1), 10);
        due("the near ones", spots(x, 0, 0), "2 3 4 5 6 15 16 17 18 19");
        due("no eleventh", x.spot(0, 0, 10), NONE);
    }

    @Says("of like ones the lesser numbers.")
    static void spotsOfLikeOffAreTheLesser() {
        RoadTrace x = new RoadTrace();
        x.knot(50, 50);
        x.knot(50, 50);
        for (int i = 0; i < 3; i++) {
            x.road(1, 1, ROAD, 0);
        }
        x.drive();
        x.sight(0, 5050, 0, 0);
        x.sight(0, 5051, 1, 1);
        due("all at one place, off 0", spots(x, 0, 0), "0 1 2 3 4 5 6 7 8 9");
        due("all at one place, off 1", spots(x, 0, 1), "0 1 2 3 4 5 6 7 8 9");
        RoadTrace y = lineWithBranch();
        y.road(103, 4, ROAD, 0);
        due("2 and 7 are off alike, and so are 3 and 6", spots(y, 0, 0), "2 3 4 5 6 10 11 12 13 14");
    }

    @Says("(In order of numbers.)")
    static void spotsComeInOrderOfNumbers() {
        RoadTrace x = oneRoad(40, ROAD, 0);
        x.drive();
        x.sight(0, 3000, 0, 60);
        due("though the last but one is the nearest", spots(x, 0, 0), "0 1 2 3 4");
    }

    @Says("A ROW gives each SIGHT one of its SPOTS, or LEAVES it.")
    static void rowsLeaveSightsWithoutSpots() {
        RoadTrace x = oneRoad(40, ROAD, 0);
        x.drive();
        x.sight(0, 1000, 0, 0);
        x.sight(0, 1099, 1, 60);
        x.sight(0, 2000, 2, 0);
        due("the one without a spot is left", laid(x, 0, 3), "1 -5 2");
        due("for a loss", x.cost(0), 10 + 200);
        RoadTrace none = new RoadTrace();
        none.drive();
        none.sight(0, 0, 0, 60);
        due("no roads, no spots", laid(none, 0, 1), "-5");
        due("one loss", none.cost(0), 200);
    }

    @Says("From each SIGHT that is not LEFT to the next such a WAY must be: the LEAST one")
    static void rowsHaveWays() {
        RoadTrace x = line();
        x.drive();
        x.sight(0, 1000, 0, 0);
        x.sight(0, 4099, 9, 0);
        x.sight(0, 7000, 10, 0);
        due("over the one that is left", x.cost(0), 60 + 200);
        x.bar(0, 1, 1);
        due("no way over it: two are left", x.cost(0), 400);
        due("the first one stays", laid(x, 0, 3), "1 -5 -5");
        x.road(2, 80, ROAD, 0);
        due("the least one of what is free", x.cost(0), 10 + 80 + 10 + 200);
    }

    @Says("at most FAST (1 .. 100; 20 at first) times 4 for each tick between them.")
    static void waysAreNotTooFast() {
        RoadTrace x = oneRoad(80, ROAD, 0);
        x.drive();
        x.sight(0, 0, 0, 0);
        x.sight(0, 1000, 1, 0);
        due("80 quarters in a tick, at first", x.cost(0), 20);
        RoadTrace y = oneRoad(81, ROAD, 0);
        y.drive();
        y.sight(0, 0, 0, 0);
        y.sight(0, 1000, 1, 0);
        due("81 quarters are too long for a tick", y.cost(0), 200);
        y.drop(0);
        y.sight(0, 1000, 2, 0);
        due("but not for two", y.cost(0), 20);
        due("fast 0", y.prices(0, 200), NONE);
        due("fast 101", y.prices(101, 200), NONE);
        due("fast 1", y.prices(1, 200), 1);
        due("4 quarters a tick", y.cost(0), 200);
        y.drop(0);
        y.sight(0, 1000, 20, 0);
        due("81 in 20 ticks at 4", y.cost(0), 200);
        y.drop(0);
        y.sight(0, 1000, 21, 0);
        due("81 in 21 ticks at 4", y.cost(0), 20);
        RoadTrace z = oneRoad(200, ROAD, 0);
        z.drive();
        z.sight(0, 0, 0, 0);
        z.sight(0, 2000, 1, 0);
        due("fast 100", z.prices(100, 200), 1);
        due("400 in a tick at 100", z.cost(0), 100);
        z.prices(99, 200);
        due("400 in a tick at 99", z.cost(0), 200);
    }

    @Says("at most FAST (1 .. 100; 20 at first) times 4 for each tick between them.")
    static void ticksOfLeftSightsCount() {
        RoadTrace x = oneRoad(40, ROAD, 0);
        x.drive();
        x.sight(0, 0, 3, 0);
        x.sight(0, 99, 4, 0);
        x.sight(0, 4000, 5, 0);
        due("160 in the two ticks between", x.cost(0), 40 + 200);
        x.prices(19, 200);
        due("152 are too few", x.cost(0), 400);
    }

    @Says("COST of a ROW: all OFFS, of each WAY LENGTH / 4 (the rest away)")
    static void costsOfRows() {
        RoadTrace x = oneRoad(3, ROAD, 0);
        x.drive();
        x.sight(0, 0, 0, 0);
        x.sight(0, 1000, 1, 0);
        due("3 quarters are 0", x.cost(0), 0);
        x.sight(0, 2000, 2, 0);
        due("each way by itself: twice 3 quarters are 0", x.cost(0), 0);
        x.sight(0, 4000, 3, 0);
        due("6 quarters are 1", x.cost(0), 1);
        x.sight(0, 4002, 4, 2);
        due("off 4", x.cost(0), 5);
        x.sight(0, 3, 5, 3);
        due("off 9 and 12 quarters", x.cost(0), 5 + 9 + 3);
    }

    @Says("and LOSS (1 .. 9999; 200 at first) for each SIGHT that is LEFT.")
    static void lossesOfRows() {
        RoadTrace x = new RoadTrace();
        x.drive();
        for (int i = 0; i < 20; i++) {
            x.sight(0, 0, i, 0);
        }
        due("twenty are left", x.cost(0), 20 * 200);
        due("loss 0", x.prices(20, 0), NONE);
        due("loss 10000", x.prices(20, 10000), NONE);
        due("still 200", x.cost(0), 20 * 200);
        due("loss 1", x.prices(20, 1), 1);
        due("for 1", x.cost(0), 20);
        due("loss 9999", x.prices(20, 9999), 1);
        due("for 9999", x.cost(0), 20 * 9999);
    }

    @Says("LAID is the ROW of the least COST")
    static void laidIsTheCheapest() {
        RoadTrace x = line();
        x.drive();
        x.sight(0, 0, 0, 25);
        x.sight(0, 4010, 1, 25);
        x.sight(0, 1000, 2, 0);
        // In a tick it goes 20 at most: with the middle one 1 3 1 for 340 is the best.
        due("to leave the middle one costs 10 and 200", x.cost(0), 210);
        due("that row", laid(x, 0, 3), "0 -5 1");
        x.prices(40, 200);
        due("with more speed it is left no more", x.cost(0), 40 + 100 + 30);
        due("the other row", laid(x, 0, 3), "0 4 1");
    }

    @Says("of several the first: the lesser POINT at the first SIGHT in which they differ")
    static void laidIsTheFirstOfLikeCost() {
        RoadTrace x = new RoadTrace();
        for (int i = 0; i < 2; i++) {
            x.knot(0, 0);
            x.knot(40, 0);
            x.knot(80, 0);
        }
        x.road(1, 40, ROAD, 0);
        x.road(304, 40, ROAD, 0);
        x.road(405, 40, ROAD, 0);
        x.road(102, 40, ROAD, 0);
        x.drive();
        x.sight(0, 0, 0, 0);
        x.sight(0, 8000, 10, 0);
        // Two nets at one place: 0 goes to 19 alone, 5 to 14 alone.
        due("both cost 80", x.cost(0), 80);
        due("the first sight tells, not the second", laid(x, 0, 2), "0 19");
        RoadTrace y = twins();
        y.drive();
        y.sight(0, 2000, 0, 0);
        y.sight(0, 3000, 1, 0);
        y.sight(0, 4000, 2, 0);
        due("where the first one is the same the next one tells", laid(y, 0, 3), "2 3 4");
    }

    @Says("(LEFT being greater than all).")
    static void leftIsGreaterThanAll() {
        RoadTrace x = twins();
        x.drive();
        x.sight(0, 2005, 0, 5);
        x.prices(20, 25);
        due("off 25 or a loss of 25", x.cost(0), 25);
        due("not left", laid(x, 0, 1), "2");
        x.prices(20, 24);
        due("left for 24", laid(x, 0, 1), "-5");
        x.prices(20, 25);
        x.sight(0, 2000, 1, 0);
        due("ahead of a way that stays: off 25 or a loss of 25", x.cost(0), 25);
        due("not left either", laid(x, 0, 2), "2 2");
        RoadTrace y = oneRoad(40, ROAD, 0);
        y.drive();
        y.sight(0, 0, 0, 0);
        y.sight(0, 4000, 1, 0);
        due("one of the two is left, the second", laid(y, 0, 2), "0 -5");
        y.sight(0, 3000, 2, 0);
        // 0, LEFT, 3 costs 230; LEFT, 4, 3 costs 210.
        due("the cheaper one goes ahead of the first", laid(y, 0, 3), "-5 4 3");
        y.prices(20, 5);
        // To go nowhere is cheapest: one SIGHT alone is not LEFT.
        due("with three like ones the first stays", laid(y, 0, 3), "0 -5 -5");
    }

    @Says("ENDS: for each SIGHT i and each SPOT of it the ROW of the least COST (of several the first one) "
        + "of all those in which that SPOT is the last one that is not LEFT;")
    static void endsAreTheFirstOfLikeCost() {
        RoadTrace x = twins();
        x.drive();
        x.sight(0, 2000, 0, 0);
        x.sight(0, 4000, 10, 0);
        // 2 4, 2 9, 7 4 and 7 9 cost 20; the ends by 4 and 9 are the first ones, 2 4 and 2 9.
        due("the row that is laid", laid(x, 0, 2), "2 4");
        due("both ends have 2", x.sure(0, 0), 1);
        due("2 LEFT and 7 LEFT cost 200, by 179 too much", x.sure(0, 179), 1);
        due("7 LEFT by 180", x.sure(0, 180), 0);
    }

    @Says("of all those in which that SPOT is the last one that is not LEFT;")
    static void endsAreOfEarlierSightsToo() {
        RoadTrace x = oneRoad(40, ROAD, 0);
        x.drive();
        x.sight(0, 0, 0, 0);
        x.sight(0, 1000, 10, 0);
        x.sight(0, 2000, 20, 0);
        // Ends: 0 1 2 for 20; 0 1 LEFT for 210; 0 LEFT LEFT for 400; all LEFT for 600.
        due("by 189", x.sure(0, 189), 3);
        due("by 190 the one that ends at the second sight", x.sure(0, 190), 2);
        due("by 379", x.sure(0, 379), 2);
        due("by 380 the one that ends at the first sight", x.sure(0, 380), 1);
        due("by 579", x.sure(0, 579), 1);
        due("by 580 all left", x.sure(0, 580), 0);
    }

    @Says("and the ROW in which all are LEFT.")
    static void allLeftIsAnEnd() {
        RoadTrace x = oneRoad(40, ROAD, 0);
        x.drive();
        x.sight(0, 2000, 0, 0);
        due("one end and all left for 200", x.sure(0, 199), 1);
        due("by 200 they differ", x.sure(0, 200), 0);
        RoadTrace none = new RoadTrace();
        none.drive();
        none.sight(0, 0, 0, 0);
        none.sight(0, 0, 1, 0);
        due("all left is the only end", none.sure(0, 0), 2);
        due("by any d", none.sure(0, 100000), 2);
    }

    @Says("SURE by d: SIGHTS 0 .. m - 1, m as great as can be, of which all ENDS say the same "
        + "that cost at most d more than LAID.")
    static void sureIsAsGreatAsCanBe() {
        RoadTrace x = oneRoad(40, ROAD, 0);
        x.drive();
        due("without sights", x.sure(0, 100000), 0);
        x.sight(0, 2000, 0, 10);
        // SPOTS 1, 2, 3 for 100, 0, 100.
        due("by 99 one end alone", x.sure(0, 99), 1);
        due("by 100 three ends", x.sure(0, 100), 0);
        x.sight(0, 2000, 10, 0);
        // 2 2 costs 0; the first one is 2 in all ends that are cheap.
        due("a later sight makes it sure", x.sure(0, 199), 2);
        due("2 LEFT by 200", x.sure(0, 200), 1);
        due("1 LEFT by 300", x.sure(0, 299), 1);
        due("so nothing is sure", x.sure(0, 300), 0);
    }

    @Says("FEES of a DRIVE: those of all WAYS of LAID.")
    static void feesOfDrives() {
        RoadTrace x = new RoadTrace();
        x.knot(0, 0);
        x.knot(40, 0);
        x.knot(80, 0);
        x.road(1, 40, TOLLED, 11);
        x.road(102, 40, TOLLED, 5);
        x.drive();
        due("without sights", x.toll(0), 0);
        x.sight(0, 0, 0, 0);
        due("without a way", x.toll(0), 0);
        x.sight(0, 2000, 10, 0);
        due("one way", x.toll(0), 11);
        x.sight(0, 2000, 15, 0);
        due("a way that stays", x.toll(0), 11);
        x.sight(0, 6099, 20, 0);
        due("one that is left", x.toll(0), 11);
        x.sight(0, 6000, 30, 0);
        due("over it, both roads", x.toll(0), 11 + 16);
        x.prices(20, 1);
        due("of laid alone: all but one are left or stay", x.toll(0), 0);
    }

    @Says("SPEED behind SIGHT i: of that WAY from it to the next one that is not LEFT: "
        + "LENGTH divided by 4 times the ticks between (the rest away).")
    static void speedsLoseTheRest() {
        RoadTrace x = oneRoad(40, ROAD, 0);
        x.drive();
        x.sight(0, 0, 0, 0);
        x.sight(0, 1000, 10, 0);
        x.sight(0, 2000, 21, 0);
        x.sight(0, 4000, 25, 0);
        due("40 by 4 times 10", x.speed(0, 0), 1);
        due("40 by 4 times 11", x.speed(0, 1), 0);
        due("80 by 4 times 4", x.speed(0, 2), 5);
        x.sight(0, 4099, 30, 0);
        x.sight(0, 0, 44, 0);
        due("160 by 4 times 19, over one that is left", x.speed(0, 3), 2);
        x.sight(0, 0, 50, 0);
        due("0 by 4 times 6", x.speed(0, 5), 0);
    }

    @Says("AGAINST a ONEWAY ROAD: on how many DRIVES the COST of LAID would be less if it were a ROAD of KIND 0.")
    static void againstCountsDrives() {
        RoadTrace x = oneRoad(40, ONEWAY, 0);
        due("no drives", x.against(0), 0);
        for (int i = 0; i < 6; i++) {
            x.drive();
            x.sight(i, i % 2 == 0 ? 0 : 4000, 0, 0);
            x.sight(i, i % 2 == 0 ? 4000 : 0, 10, 0);
        }
        due("three of six go against it", x.against(0), 3);
        due("along it", x.cost(0), 40);
        due("against it one is left", x.cost(1), 200);
        due("it is a oneway still", x.way(4, 0), NO_WAY);
        x.prices(20, 40);
        due("a loss of 40 is not more than a way of 40", x.against(0), 0);
        x.prices(20, 41);
        due("a loss of 41 is", x.against(0), 3);
        x.prices(3, 200);
        due("too fast both ways", x.against(0), 0);
    }

    @Says("AGAINST a ONEWAY ROAD: on how many DRIVES the COST of LAID would be less if it were a ROAD of KIND 0.")
    static void againstCountsWaysOfOthers() {
        RoadTrace x = line();
        x.road(201, 10, ONEWAY, 0);
        x.drive();
        x.sight(0, 3000, 0, 0);
        x.sight(0, 7000, 10, 0);
        // From 3 by 10, then by the ROAD 30 to 8, or against the ONEWAY 10 and back 10.
        due("30 and 10 by the roads", x.cost(0), 40);
        due("10, 10 and 10 against the oneway", x.against(2), 1);
        x.bar(0, 2, 1);
        due("a barred turn stays barred", x.against(2), 0);
    }
}
