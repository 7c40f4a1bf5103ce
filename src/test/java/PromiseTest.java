/** One test or more for each promise of the document, with answers that were worked out by hand. */
public final class PromiseTest {
    private static final int NONE = -1, FULL = -2, STATE = -3, NO_WAY = -4, LEFT = -5;
    private static final int ROAD = 0, ONEWAY = 1, TUNNEL = 2, TOLLED = 3;
    private static final int[] WILD = {Integer.MIN_VALUE, Integer.MIN_VALUE + 1, -1000000, -101, -100, -99, -6, -5, -2,
        -1, 0, 1, 2, 3, 4, 5, 6, 15, 16, 19, 20, 29, 30, 60, 61, 99, 100, 149, 150, 200, 201, 9999, 10000, 10001,
        100000, 100001, 1000000, Integer.MAX_VALUE - 1, Integer.MAX_VALUE};

    private static int calls = 0;
    private static int wrong = 0;

    private static void due(String what, int got, int want) {
        calls++;
        if (got != want) {
            wrong++;
            System.out.println(what + " answered " + got + ", due is " + want);
        }
    }

    public static void main(String[] args) {
        newObject();
        knots();
        roads();
        bars();
        waysAlongOneRoad();
        waysAtKnots();
        waysWithBars();
        feesOfWays();
        drives();
        sights();
        drops();
        prices();
        spots();
        spotsOfMoreThanTen();
        offs();
        costs();
        costsLeaveSights();
        laidOfLikeCost();
        checks();
        checkRefuses();
        lists();
        sures();
        sureOfLikeEnds();
        tolls();
        speeds();
        againsts();
        againstMany();
        counts();
        wildArguments();
        System.out.println(calls - wrong + " of " + calls + " answers are as due");
        if (wrong != 0) {
            System.exit(1);
        }
    }

    /** KNOTS 0 (0, 0), 1 (40, 0), 2 (80, 0); a ROAD 0 from 0 to 1 and a ROAD 1 from 1 to 2, each 40 long. */
    private static RoadTrace line() {
        RoadTrace x = new RoadTrace();
        x.knot(0, 0);
        x.knot(40, 0);
        x.knot(80, 0);
        x.road(1, 40, ROAD, 0);
        x.road(102, 40, ROAD, 0);
        return x;
    }

    private static void tell(RoadTrace x, int... points) {
        for (int i = 0; i < points.length; i++) {
            due("list", x.list(points[i]), i + 1);
        }
    }

    private static void newObject() {
        due("NONE", RoadTrace.NONE, -1);
        due("FULL", RoadTrace.FULL, -2);
        due("STATE", RoadTrace.STATE, -3);
        due("NO_WAY", RoadTrace.NO_WAY, -4);
        RoadTrace x = new RoadTrace();
        for (int what = 0; what <= 4; what++) {
            due("new: count " + what, x.count(what), 0);
        }
        due("new: way", x.way(0, 0), NONE);
        due("new: fees", x.fees(0, 0), NONE);
        due("new: bar", x.bar(0, 0, 0), NONE);
        due("new: cost", x.cost(0), NONE);
        due("new: against", x.against(0), NONE);
        RoadTrace other = new RoadTrace();
        x.knot(1, 1);
        due("another object has its own knots", other.count(0), 0);
    }

    private static void knots() {
        RoadTrace x = new RoadTrace();
        due("knot x -1", x.knot(-1, 0), NONE);
        due("knot x 100", x.knot(100, 0), NONE);
        due("knot y -1", x.knot(0, -1), NONE);
        due("knot y 100", x.knot(0, 100), NONE);
        due("refused knots", x.count(0), 0);
        for (int i = 0; i < 16; i++) {
            due("knot " + i, x.knot(i % 2 * 99, i / 2 % 2 * 99), i);
        }
        due("knot 16", x.knot(5, 5), FULL);
        due("NONE goes ahead of FULL", x.knot(100, 5), NONE);
        due("knots", x.count(0), 16);
    }

    private static void roads() {
        RoadTrace x = new RoadTrace();
        for (int i = 0; i < 16; i++) {
            x.knot(i, i);
        }
        due("road a to a", x.road(303, 1, ROAD, 0), NONE);
        due("road ends -1", x.road(-1, 1, ROAD, 0), NONE);
        due("road to 16", x.road(16, 1, ROAD, 0), NONE);
        due("road from 16", x.road(1600, 1, ROAD, 0), NONE);
        due("road length 0", x.road(1, 0, ROAD, 0), NONE);
        due("road length 201", x.road(1, 201, ROAD, 0), NONE);
        due("road kind -1", x.road(1, 1, -1, 0), NONE);
        due("road kind 4", x.road(1, 1, 4, 0), NONE);
        due("road with a fee", x.road(1, 1, ROAD, 1), NONE);
        due("oneway with a fee", x.road(1, 1, ONEWAY, 1), NONE);
        due("tunnel with a fee", x.road(1, 1, TUNNEL, 1), NONE);
        due("tolled without fee", x.road(1, 1, TOLLED, 0), NONE);
        due("tolled fee -1", x.road(1, 1, TOLLED, -1), NONE);
        due("tolled fee 100", x.road(1, 1, TOLLED, 100), NONE);
        due("refused roads", x.count(1), 0);
        due("tolled fee 99", x.road(1, 1, TOLLED, 99), 0);
        due("tolled fee 1", x.road(1, 1, TOLLED, 1), 1);
        due("road 1514", x.road(1514, 200, ROAD, 0), 2);
        for (int i = 3; i < 30; i++) {
            due("road " + i, x.road(100 * (i % 16) + (i + 1) % 16, 1 + i, i % 3, 0), i);
        }
        due("road 30", x.road(1, 1, ROAD, 0), FULL);
        due("NONE goes ahead of FULL", x.road(1, 0, ROAD, 0), NONE);
        due("roads", x.count(1), 30);
        due("the last point", x.way(149, 149), 0);
        due("behind the last point", x.way(149, 150), NONE);
    }

    private static void bars() {
        RoadTrace x = line();
        x.knot(80, 80);
        x.road(203, 80, ROAD, 0);
        due("bar", x.bar(0, 1, 1), 0);
        due("bar again", x.bar(0, 1, 1), 1);
        due("bar the other way is another one", x.bar(1, 0, 0), 0);
        due("barred", x.way(0, 9), NO_WAY);
        due("free the other way", x.way(9, 0), 320);
        due("free again", x.bar(0, 1, 0), 1);
        due("free and free", x.bar(0, 1, 0), 0);
        due("freed", x.way(0, 9), 320);
        due("no knot in common", x.bar(0, 2, 1), NONE);
        due("bar is 2", x.bar(0, 1, 2), NONE);
        due("bar is -1", x.bar(0, 1, -1), NONE);
        due("bar r -1", x.bar(-1, 1, 1), NONE);
        due("bar s 3", x.bar(0, 3, 1), NONE);
        due("refused bars", x.way(0, 9), 320);
        due("bar itself", x.bar(2, 2, 1), 0);
        due("barred itself", x.bar(2, 2, 0), 1);
    }

    private static void waysAlongOneRoad() {
        RoadTrace x = new RoadTrace();
        x.knot(0, 0);
        x.knot(9, 9);
        x.road(1, 7, ROAD, 0);
        due("k 1 to 3", x.way(1, 3), 14);
        due("k 3 to 1", x.way(3, 1), 14);
        due("whole", x.way(0, 4), 28);
        due("stays", x.way(2, 2), 0);
        x.knot(50, 50);
        x.knot(60, 50);
        x.road(203, 5, ONEWAY, 0);
        due("oneway along", x.way(6, 8), 10);
        due("oneway back", x.way(8, 6), NO_WAY);
        due("oneway stays", x.way(7, 7), 0);
        due("no roads between", x.way(0, 5), NO_WAY);
        due("from -1", x.way(-1, 0), NONE);
        due("to 10", x.way(0, 10), NONE);
        x.road(302, 2, ROAD, 0);
        due("oneway round", x.way(8, 6), 18);
    }

    private static void waysAtKnots() {
        RoadTrace x = line();
        due("over a knot", x.way(2, 7), 160);
        due("at one knot, another road", x.way(4, 5), 0);
        x.knot(40, 40);
        x.road(103, 10, ONEWAY, 0);
        due("from k 0 of a oneway at once to a turn", x.way(10, 0), 160);
        due("from k 1 of a oneway there is no way back", x.way(11, 0), NO_WAY);
        due("onto k 0 of a oneway", x.way(0, 10), 160);
        x.road(103, 20, ROAD, 0);
        due("not onto k 4 of a oneway from b", x.way(19, 14), 80 + 40);
        due("from k 4 of a oneway to a turn", x.way(14, 19), 0);
        due("round and back", x.way(14, 10), 80);
        due("tunnels have ways", x.road(3, 1, TUNNEL, 0), 4);
        due("by the tunnel", x.way(0, 19), 4);
        due("by the tunnel, and to k 4 of a oneway by its a", x.way(0, 14), 4 + 80 + 40);
    }

    private static void waysWithBars() {
        RoadTrace x = line();
        x.bar(0, 1, 1);
        due("barred", x.way(0, 5), NO_WAY);
        x.knot(40, 10);
        x.road(103, 10, ROAD, 0);
        due("by turning round on another road", x.way(0, 5), 160 + 40 + 40);
        x.bar(2, 2, 1);
        due("without turning round", x.way(0, 5), NO_WAY);
        due("turning is no need where it starts", x.way(14, 5), 40);
        x.bar(2, 2, 0);
        x.road(3, 60, ROAD, 0);
        due("still round", x.way(0, 5), 240);
        x.bar(0, 2, 1);
        due("by the long road", x.way(0, 5), 240 + 40);
        RoadTrace two = new RoadTrace();
        two.knot(0, 0);
        two.knot(8, 0);
        two.road(1, 8, ROAD, 0);
        two.road(1, 9, ROAD, 0);
        due("two knots in common, bar", two.bar(0, 1, 1), 0);
        due("barred at both, b", two.way(2, 9), NO_WAY);
        due("barred at both, a", two.way(2, 5), NO_WAY);
        due("not barred back", two.way(7, 0), 18);
    }

    private static void feesOfWays() {
        RoadTrace x = new RoadTrace();
        x.knot(0, 0);
        x.knot(10, 0);
        x.knot(20, 0);
        x.road(1, 10, TOLLED, 7);
        x.road(102, 10, TOLLED, 30);
        due("stays without fees", x.fees(2, 2), 0);
        due("a part", x.fees(1, 2), 7);
        due("both", x.fees(2, 7), 37);
        due("0 of the first", x.fees(4, 7), 30);
        due("0 of the last", x.fees(2, 5), 7);
        due("0 of both", x.fees(4, 5), 0);
        due("from -1", x.fees(-1, 0), NONE);
        due("to 10", x.fees(0, 10), NONE);
        x.bar(0, 1, 1);
        due("barred", x.fees(0, 9), NO_WAY);
        x.bar(0, 1, 0);
        x.road(102, 10, ROAD, 0);
        due("onto k 4 with 0 of it, so by the road without a fee", x.fees(0, 9), 7);
        due("to the road without a fee", x.fees(0, 14), 7);
        x.knot(30, 0);
        x.road(203, 10, ROAD, 0);
        due("the cheaper of two in the middle", x.fees(0, 19), 7);
        due("as long", x.way(0, 19), 120);
        x.bar(0, 2, 1);
        due("barred from the cheaper one", x.fees(0, 19), 37);
        RoadTrace round = line();
        round.knot(40, 10);
        round.road(103, 10, TOLLED, 9);
        round.bar(0, 1, 1);
        due("each time it comes onto one", round.fees(0, 5), 18);
        RoadTrace shorter = new RoadTrace();
        shorter.knot(0, 0);
        shorter.knot(10, 0);
        shorter.knot(20, 0);
        shorter.road(1, 10, ROAD, 0);
        shorter.road(102, 20, ROAD, 0);
        shorter.road(102, 19, TOLLED, 99);
        shorter.knot(30, 0);
        shorter.road(203, 1, ROAD, 0);
        due("length goes ahead of fees", shorter.fees(0, 19), 99);
    }

    private static void drives() {
        RoadTrace x = new RoadTrace();
        for (int i = 0; i < 6; i++) {
            due("drive " + i, x.drive(), i);
        }
        due("drive 6", x.drive(), FULL);
        due("drives", x.count(2), 6);
        due("no sights", x.cost(5), 0);
        due("no drive 6", x.cost(6), NONE);
    }

    private static void sights() {
        RoadTrace x = new RoadTrace();
        due("no drive", x.sight(0, 0, 0, 0), NONE);
        x.drive();
        due("where -1", x.sight(0, -1, 0, 0), NONE);
        due("where 10000", x.sight(0, 10000, 0, 0), NONE);
        due("tick -1", x.sight(0, 0, -1, 0), NONE);
        due("tick 10001", x.sight(0, 0, 10001, 0), NONE);
        due("bound -1", x.sight(0, 0, 0, -1), NONE);
        due("bound 61", x.sight(0, 0, 0, 61), NONE);
        due("drive -1", x.sight(-1, 0, 0, 0), NONE);
        due("drive 1", x.sight(1, 0, 0, 0), NONE);
        due("refused sights", x.count(3), 0);
        due("sight 0", x.sight(0, 0, 0, 0), 0);
        due("tick as the last", x.sight(0, 0, 0, 0), NONE);
        for (int i = 1; i < 20; i++) {
            due("sight " + i, x.sight(0, 9999, 2 * i, 60), i);
        }
        due("sight 20", x.sight(0, 0, 10000, 0), FULL);
        due("NONE goes ahead of FULL", x.sight(0, 0, 38, 0), NONE);
        due("sights", x.count(3), 20);
        x.drive();
        due("each drive has its own", x.sight(1, 1, 10000, 1), 0);
        due("nothing behind tick 10000", x.sight(1, 1, 10000, 1), NONE);
    }

    private static void drops() {
        RoadTrace x = line();
        due("no drive", x.drop(0), NONE);
        x.drive();
        due("no sight", x.drop(0), STATE);
        x.sight(0, 0, 5, 3);
        x.sight(0, 4000, 15, 3);
        due("cost of both", x.cost(0), 40);
        due("one is left", x.drop(0), 1);
        due("cost of one", x.cost(0), 0);
        due("dropped", x.laid(0, 1), NONE);
        due("tick above the one that is left", x.sight(0, 4000, 6, 3), 1);
        due("back to one", x.drop(0), 1);
        due("none is left", x.drop(0), 0);
        due("none goes", x.drop(0), STATE);
        due("any tick again", x.sight(0, 0, 0, 3), 0);
        due("drive -1", x.drop(-1), NONE);
    }

    private static void prices() {
        RoadTrace x = line();
        x.drive();
        x.sight(0, 0, 0, 3);
        x.sight(0, 4000, 2, 3);
        due("at first 20 a tick", x.cost(0), 40);
        due("fast 19", x.prices(19, 200), 1);
        due("too fast: one is left", x.cost(0), 200);
        due("fast 0", x.prices(0, 1), NONE);
        due("fast 101", x.prices(101, 1), NONE);
        due("loss 0", x.prices(100, 0), NONE);
        due("loss 10000", x.prices(100, 10000), NONE);
        due("refused prices", x.cost(0), 200);
        due("loss 9999", x.prices(1, 9999), 1);
        due("dear loss", x.cost(0), 9999);
        due("loss 1", x.prices(100, 1), 1);
        due("cheap loss", x.cost(0), 1);
    }

    private static void spots() {
        RoadTrace x = line();
        x.road(2, 90, TUNNEL, 0);
        x.drive();
        x.sight(0, 2003, 0, 10);
        due("no tunnel, so one", x.spot(0, 0, -1), 1);
        due("that one", x.spot(0, 0, 0), 2);
        due("behind it", x.spot(0, 0, 1), NONE);
        due("i -2", x.spot(0, 0, -2), NONE);
        due("sight 1", x.spot(0, 1, -1), NONE);
        due("sight -1", x.spot(0, -1, -1), NONE);
        due("drive 1", x.spot(1, 0, -1), NONE);
        x.sight(0, 4003, 1, 3);
        due("as far as the bound, on both roads", x.spot(0, 1, -1), 2);
        due("the lesser first", x.spot(0, 1, 0), 4);
        due("then the greater", x.spot(0, 1, 1), 5);
        x.sight(0, 4004, 2, 3);
        due("farther than the bound", x.spot(0, 2, -1), 0);
        due("none at all", x.spot(0, 2, 0), NONE);
        x.knot(40, 7);
        x.road(103, 7, ROAD, 0);
        due("a road that came later", x.spot(0, 2, -1), 4);
        due("its first point near by", x.spot(0, 2, 0), 16);
        x.sight(0, 4002, 3, 0);
        due("bound 0 with the rest away", x.spot(0, 3, -1), 1);
        due("a quarter off", x.spot(0, 3, 0), 16);
    }

    private static void spotsOfMoreThanTen() {
        RoadTrace x = new RoadTrace();
        x.knot(50, 50);
        x.knot(54, 50);
        for (int i = 0; i < 3; i++) {
            x.road(1, 4, ROAD, 0);
        }
        x.drive();
        x.sight(0, 5450, 0, 60);
        due("ten of fifteen", x.spot(0, 0, -1), 10);
        int[] near = {1, 2, 3, 4, 7, 8, 9, 12, 13, 14};
        for (int i = 0; i < near.length; i++) {
            due("near spot " + i, x.spot(0, 0, i), near[i]);
        }
        due("spot 10", x.spot(0, 0, 10), NONE);
        x.sight(0, 5250, 1, 60);
        int[] middle = {0, 1, 2, 3, 6, 7, 8, 11, 12, 13};
        for (int i = 0; i < middle.length; i++) {
            due("middle spot " + i, x.spot(0, 1, i), middle[i]);
        }
    }

    private static void offs() {
        RoadTrace x = new RoadTrace();
        x.knot(10, 10);
        x.knot(13, 15);
        x.road(1, 1, TUNNEL, 0);
        x.drive();
        x.sight(0, 1111, 0, 0);
        due("off a", x.off(0, 0, 0), 2);
        // (10.75, 11.25): 16 times the square is 1 + 1.
        due("the rest away", x.off(0, 0, 1), 0);
        // (11.5, 12.5): 16 times the square is 4 + 36.
        due("two and a half", x.off(0, 0, 2), 2);
        due("off b", x.off(0, 0, 4), 20);
        due("point -1", x.off(0, 0, -1), NONE);
        due("point 5", x.off(0, 0, 5), NONE);
        due("sight 1", x.off(0, 1, 0), NONE);
        due("sight -1", x.off(0, -1, 0), NONE);
        due("drive 1", x.off(1, 0, 0), NONE);
        x.sight(0, 9999, 1, 0);
        due("far off", x.off(0, 1, 0), 89 * 89 * 2);
    }

    private static void costs() {
        RoadTrace x = line();
        due("no drive", x.cost(0), NONE);
        x.drive();
        due("no sights", x.cost(0), 0);
        x.sight(0, 1, 0, 5);
        due("off alone", x.cost(0), 1);
        x.sight(0, 2002, 10, 5);
        due("off 1, 20, off 4", x.cost(0), 25);
        x.sight(0, 8003, 20, 5);
        due("and 60, off 9", x.cost(0), 94);
        due("drive -1", x.cost(-1), NONE);
        due("drive 1", x.cost(1), NONE);
        RoadTrace rest = new RoadTrace();
        rest.knot(0, 0);
        rest.knot(40, 0);
        rest.road(1, 3, ROAD, 0);
        rest.drive();
        rest.sight(0, 0, 0, 0);
        rest.sight(0, 1000, 1, 0);
        rest.sight(0, 2000, 2, 0);
        due("each way's rest goes away", rest.cost(0), 0);
        rest.sight(0, 4000, 3, 0);
        due("6 quarters are 1", rest.cost(0), 1);
    }

    private static void costsLeaveSights() {
        RoadTrace x = line();
        x.drive();
        x.sight(0, 0, 0, 3);
        x.sight(0, 4000, 1, 3);
        x.sight(0, 2000, 2, 3);
        due("160 is too long for a tick, so one is left", x.cost(0), 220);
        due("the one in the middle", x.laid(0, 1), LEFT);
        due("the one behind", x.laid(0, 2), 2);
        x.prices(40, 200);
        due("160 is just short enough for a tick", x.cost(0), 60);
        x.prices(39, 200);
        due("160 is not", x.cost(0), 220);
        x.prices(40, 10);
        due("leaving is cheaper than going", x.cost(0), 20);
        due("the lesser point at the first sight", x.laid(0, 0), 0);
    }

    private static void laidOfLikeCost() {
        RoadTrace x = new RoadTrace();
        x.knot(0, 0);
        x.knot(40, 0);
        x.road(1, 40, ROAD, 0);
        x.road(1, 40, ROAD, 0);
        due("no drive", x.laid(0, 0), NONE);
        x.drive();
        due("no sight", x.laid(0, 0), NONE);
        x.sight(0, 2000, 0, 3);
        due("of like ones the lesser point", x.laid(0, 0), 2);
        x.sight(0, 4000, 5, 3);
        due("the lesser road first", x.laid(0, 0), 2);
        due("and on it", x.laid(0, 1), 4);
        x.prices(20, 20);
        due("as dear to leave one", x.cost(0), 20);
        due("left is greater than all at the first", x.laid(0, 0), 2);
        due("left is greater than all at the second", x.laid(0, 1), 4);
        x.prices(20, 19);
        due("cheaper to leave one", x.cost(0), 19);
        due("then the first stays", x.laid(0, 0), 2);
        due("and the second goes", x.laid(0, 1), LEFT);
        due("sight -1", x.laid(0, -1), NONE);
        due("sight 2", x.laid(0, 2), NONE);
        due("drive 1", x.laid(1, 0), NONE);
        RoadTrace later = new RoadTrace();
        later.knot(0, 0);
        later.knot(20, 0);
        later.knot(40, 0);
        later.road(102, 20, ROAD, 0);
        later.road(1, 20, ROAD, 0);
        later.drive();
        later.sight(0, 0, 0, 1);
        later.sight(0, 2000, 5, 1);
        later.sight(0, 4000, 9, 1);
        due("where it starts", later.laid(0, 0), 5);
        due("both points at the knot cost alike, the lesser goes", later.laid(0, 1), 0);
        due("where it ends", later.laid(0, 2), 4);
    }

    private static void checks() {
        RoadTrace x = line();
        due("no drive", x.check(0), NONE);
        x.drive();
        due("no sights and an empty list", x.check(0), 0);
        x.sight(0, 1, 0, 25);
        x.sight(0, 2002, 10, 25);
        x.sight(0, 4003, 20, 25);
        tell(x, 0, 2, 4);
        due("off 1, 20, off 4, 20, off 9", x.check(0), 54);
        due("the list is empty then", x.count(4), 0);
        tell(x, 1, LEFT, 5);
        due("off 101, 30, off 9, one left", x.check(0), 101 + 30 + 9 + 200);
        tell(x, LEFT, 2, LEFT);
        due("two left", x.check(0), 404);
        tell(x, LEFT, LEFT, LEFT);
        due("all left", x.check(0), 600);
        x.prices(20, 7);
        tell(x, LEFT, LEFT, 4);
        due("another loss", x.check(0), 23);
    }

    private static void checkRefuses() {
        RoadTrace x = line();
        x.drive();
        x.sight(0, 0, 0, 25);
        x.sight(0, 4000, 2, 25);
        tell(x, 0);
        due("too few", x.check(0), STATE);
        due("too few: empty then", x.count(4), 0);
        tell(x, 0, 4, 4);
        due("too many", x.check(0), STATE);
        due("too many: empty then", x.count(4), 0);
        tell(x, 0, 9);
        due("no spot", x.check(0), STATE);
        due("no spot: empty then", x.count(4), 0);
        tell(x, 0, 4);
        due("no such drive", x.check(1), NONE);
        due("the list stays", x.count(4), 2);
        due("160 in 2 ticks", x.check(0), 40);
        x.prices(19, 200);
        tell(x, 0, 4);
        due("too long", x.check(0), NO_WAY);
        due("too long: empty then", x.count(4), 0);
        x.prices(20, 200);
        x.bar(0, 1, 1);
        tell(x, 0, 5);
        due("no way", x.check(0), NO_WAY);
        tell(x, 9, 5);
        due("what does not fit is no row, so its ways do not count", x.check(0), STATE);
        x.bar(0, 1, 0);
        tell(x, 0, 5);
        due("a way again", x.check(0), 40);
    }

    private static void lists() {
        RoadTrace x = line();
        due("point -1", x.list(-1), NONE);
        due("point -4", x.list(-4), NONE);
        due("point -6", x.list(-6), NONE);
        due("point 10", x.list(10), NONE);
        due("refused", x.count(4), 0);
        for (int i = 0; i < 20; i++) {
            due("list " + i, x.list(i % 2 == 0 ? 9 : LEFT), i + 1);
        }
        due("list 20", x.list(0), FULL);
        due("list 20, left", x.list(LEFT), FULL);
        due("NONE goes ahead of FULL", x.list(10), NONE);
        due("on the list", x.count(4), 20);
    }

    private static void sures() {
        RoadTrace x = line();
        due("no drive", x.sure(0, 0), NONE);
        x.drive();
        due("no sights", x.sure(0, 0), 0);
        x.sight(0, 0, 0, 5);
        x.sight(0, 2000, 10, 5);
        x.sight(0, 4000, 20, 5);
        // LAID is 0, 2, 4 for 40; its twin 0, 2, 5 costs the same.
        due("the twin at the end", x.sure(0, 0), 2);
        // 0, 2, LEFT costs 220; 0, LEFT, LEFT costs 400; all LEFT cost 600.
        due("one left by 180", x.sure(0, 180), 2);
        due("two left by 359", x.sure(0, 359), 2);
        due("two left by 360", x.sure(0, 360), 1);
        due("all left by 559", x.sure(0, 559), 1);
        due("all left by 560", x.sure(0, 560), 0);
        due("d 100000", x.sure(0, 100000), 0);
        due("d -1", x.sure(0, -1), NONE);
        due("d 100001", x.sure(0, 100001), NONE);
        due("drive 1", x.sure(1, 0), NONE);
        x.bar(0, 1, 1);
        // Now 5 can be no end behind 2: the best one is LEFT, LEFT, 5 for 400.
        due("barred: all is sure", x.sure(0, 0), 3);
        due("barred: by 179", x.sure(0, 179), 3);
        due("barred: by 180", x.sure(0, 180), 2);
        due("barred: by 360", x.sure(0, 360), 0);
    }

    private static void sureOfLikeEnds() {
        RoadTrace x = new RoadTrace();
        x.knot(0, 0);
        x.knot(40, 0);
        x.road(1, 40, ROAD, 0);
        x.drive();
        x.sight(0, 0, 0, 0);
        x.sight(0, 0, 10, 0);
        x.sight(0, 4000, 20, 0);
        x.prices(20, 40);
        // LAID is 0, 0, 4 for 40, and so costs 0, 0, LEFT: the end differs, what is ahead of it not.
        due("the cost", x.cost(0), 40);
        due("the lesser one ahead of left", x.laid(0, 2), 4);
        due("ends that differ in the last", x.sure(0, 0), 2);
    }

    private static void tolls() {
        RoadTrace x = new RoadTrace();
        x.knot(0, 0);
        x.knot(40, 0);
        x.knot(80, 0);
        x.road(1, 40, TOLLED, 11);
        x.road(102, 40, TOLLED, 5);
        due("no drive", x.toll(0), NONE);
        x.drive();
        due("no sights", x.toll(0), 0);
        x.sight(0, 0, 0, 3);
        due("no way yet", x.toll(0), 0);
        x.sight(0, 2000, 10, 3);
        due("one way", x.toll(0), 11);
        x.sight(0, 3099, 15, 3);
        due("the one behind is left", x.toll(0), 11);
        x.sight(0, 6000, 30, 3);
        due("over the one that is left: both roads", x.toll(0), 11 + 11 + 5);
        due("drive -1", x.toll(-1), NONE);
    }

    private static void speeds() {
        RoadTrace x = line();
        due("no drive", x.speed(0, 0), NONE);
        x.drive();
        due("no sight", x.speed(0, 0), NONE);
        x.sight(0, 0, 0, 3);
        due("none behind", x.speed(0, 0), STATE);
        x.sight(0, 2099, 5, 3);
        due("none but left ones behind", x.speed(0, 0), STATE);
        due("left", x.speed(0, 1), STATE);
        x.sight(0, 4000, 9, 3);
        due("160 by 4 times 9, the rest away", x.speed(0, 0), 4);
        due("left with others around", x.speed(0, 1), STATE);
        due("the last", x.speed(0, 2), STATE);
        due("sight 3", x.speed(0, 3), NONE);
        due("sight -1", x.speed(0, -1), NONE);
        due("drive 1", x.speed(1, 0), NONE);
        x.sight(0, 6000, 10, 3);
        due("80 by 4", x.speed(0, 2), 20);
        RoadTrace stay = line();
        stay.drive();
        stay.sight(0, 2000, 0, 3);
        stay.sight(0, 2000, 1, 3);
        due("stays", stay.speed(0, 0), 0);
    }

    private static void againsts() {
        RoadTrace x = line();
        x.knot(40, 40);
        x.road(103, 40, ONEWAY, 0);
        due("road -1", x.against(-1), NONE);
        due("road 3", x.against(3), NONE);
        due("no oneway", x.against(0), STATE);
        due("no drives", x.against(2), 0);
        x.drive();
        due("no sights", x.against(2), 0);
        x.sight(0, 4030, 0, 3);
        x.sight(0, 4010, 5, 3);
        due("cost against it", x.cost(0), 200);
        due("one drives against it", x.against(2), 1);
        due("nothing has changed", x.cost(0), 200);
        due("still a oneway", x.way(14, 10), NO_WAY);
        x.drive();
        x.sight(1, 4010, 0, 3);
        x.sight(1, 4030, 5, 3);
        due("another one drives along it", x.against(2), 1);
        due("cost along it", x.cost(1), 20);
        x.prices(20, 20);
        due("leaving is as cheap", x.against(2), 0);
        x.prices(20, 21);
        due("leaving is dearer", x.against(2), 1);
        x.prices(3, 200);
        due("too fast against it", x.against(2), 0);
    }

    private static void againstMany() {
        RoadTrace x = line();
        x.knot(40, 40);
        x.road(103, 40, ONEWAY, 0);
        x.road(103, 40, TUNNEL, 0);
        x.road(103, 41, ONEWAY, 0);
        for (int i = 0; i < 6; i++) {
            x.drive();
            x.sight(i, 4040, 0, 3);
            x.sight(i, 4000, 5, 3);
        }
        // The TUNNEL is no SPOT, but a WAY from the oneways' far ends back, as long as they are.
        due("the tunnel is as good", x.against(2), 0);
        due("and better than the longer one", x.against(4), 0);
        x.bar(2, 3, 1);
        x.bar(4, 3, 1);
        due("without it all six", x.against(2), 6);
        due("by the longer one, too", x.against(4), 6);
    }

    private static void counts() {
        RoadTrace x = line();
        due("knots", x.count(0), 3);
        due("roads", x.count(1), 2);
        x.drive();
        x.drive();
        x.drive();
        x.drive();
        due("drives", x.count(2), 4);
        x.sight(0, 0, 0, 0);
        x.sight(2, 0, 0, 0);
        x.sight(2, 0, 1, 0);
        x.sight(3, 0, 1, 0);
        x.sight(3, 0, 2, 0);
        due("sights in all", x.count(3), 5);
        x.drop(3);
        due("sights after a drop", x.count(3), 4);
        x.list(LEFT);
        due("on the list", x.count(4), 1);
        due("what -1", x.count(-1), NONE);
        due("what 5", x.count(5), NONE);
    }

    /** Nothing may throw, whatever comes, on an empty object and on one that is in use. */
    private static void wildArguments() {
        RoadTrace empty = new RoadTrace();
        RoadTrace used = line();
        used.road(2, 90, ONEWAY, 0);
        used.drive();
        used.sight(0, 0, 0, 25);
        used.sight(0, 4000, 10000, 25);
        for (int p : WILD) {
            callWithOne(empty, p);
            callWithOne(used, p);
            for (int q : WILD) {
                callWithTwo(empty, p, q);
                callWithTwo(used, p, q);
                for (int r : WILD) {
                    callWithThree(empty, p, q, r);
                    callWithThree(used, p, q, r);
                }
            }
        }
    }

    private static void callWithOne(RoadTrace x, int p) {
        x.cost(p);
        x.list(p);
        x.check(p);
        x.toll(p);
        x.against(p);
        x.count(p);
        x.drop(p);
    }

    private static void callWithTwo(RoadTrace x, int p, int q) {
        x.knot(p, q);
        x.way(p, q);
        x.fees(p, q);
        x.prices(p, q);
        x.laid(p, q);
        x.sure(p, q);
        x.speed(p, q);
    }

    private static void callWithThree(RoadTrace x, int p, int q, int r) {
        x.bar(p, q, r);
        x.spot(p, q, r);
        x.off(p, q, r);
        x.road(p, q, r, 0);
        x.road(p, q, 3, r);
        x.sight(0, p, q, r);
    }
}
