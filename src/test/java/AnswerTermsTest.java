import java.util.ArrayList;
import java.util.List;

/** Part 4 of the document's terms, the answers, and what it says of 512 calls: a test for each sentence. */
public final class AnswerTermsTest extends Sentences {
    private static final int[] WILD = {Integer.MIN_VALUE, Integer.MIN_VALUE + 1, Integer.MIN_VALUE / 2, -1000000, -10001,
        -10000, -9999, -201, -101, -100, -99, -61, -6, -5, -4, -3, -2, -1, 0, 1, 2, 3, 4, 5, 6, 9, 10, 14, 15, 16, 19,
        20, 21, 29, 30, 31, 59, 60, 61, 98, 99, 100, 101, 149, 150, 199, 200, 201, 1515, 1516, 1615, 9998, 9999, 10000,
        10001, 99999, 100000, 100001, 1000000, Integer.MAX_VALUE / 2, Integer.MAX_VALUE - 1, Integer.MAX_VALUE};

    private interface Asked {
        int of(RoadTrace x, int number);
    }

    /** A call in which all numbers but one are as said; that one is as said from least to most. */
    private static final class Edge {
        final String name;
        final Asked call;
        final int least;
        final int most;

        Edge(String name, int least, int most, Asked call) {
            this.name = name;
            this.call = call;
            this.least = least;
            this.most = most;
        }

        boolean isAsSaid(int number) {
            return number >= least && number <= most;
        }
    }

    public static void main(String[] args) throws Exception {
        runAll(AnswerTermsTest.class);
    }

    /** The line, a ONEWAY and a TOLLED ROAD beside it, and two SIGHTS, the last one at TICK 10, with a ROW on THE LIST. */
    private static RoadTrace inUse() {
        RoadTrace x = line();
        x.road(100, 40, ONEWAY, 0);
        x.road(201, 40, TOLLED, 7);
        x.drive();
        x.sight(0, 2000, 5, 10);
        x.sight(0, 6003, 10, 10);
        x.bar(1, 1, 1);
        x.list(2);
        x.list(7);
        return x;
    }

    private static List<Edge> edges() {
        List<Edge> all = new ArrayList<>();
        all.add(new Edge("knot x", 0, 99, (x, n) -> x.knot(n, 5)));
        all.add(new Edge("knot y", 0, 99, (x, n) -> x.knot(5, n)));
        all.add(new Edge("road length", 1, 200, (x, n) -> x.road(1, n, ROAD, 0)));
        all.add(new Edge("road kind without a fee", 0, 2, (x, n) -> x.road(1, 5, n, 0)));
        all.add(new Edge("road kind with a fee", 3, 3, (x, n) -> x.road(1, 5, n, 5)));
        all.add(new Edge("road fee of tolled", 1, 99, (x, n) -> x.road(1, 5, TOLLED, n)));
        all.add(new Edge("road fee of a road", 0, 0, (x, n) -> x.road(1, 5, ROAD, n)));
        all.add(new Edge("road fee of a oneway", 0, 0, (x, n) -> x.road(1, 5, ONEWAY, n)));
        all.add(new Edge("road fee of a tunnel", 0, 0, (x, n) -> x.road(1, 5, TUNNEL, n)));
        all.add(new Edge("bar r", 0, 3, (x, n) -> x.bar(n, 1, 1)));
        all.add(new Edge("bar s", 0, 3, (x, n) -> x.bar(1, n, 1)));
        all.add(new Edge("bar is", 0, 1, (x, n) -> x.bar(0, 1, n)));
        all.add(new Edge("way from", 0, 19, (x, n) -> x.way(n, 1)));
        all.add(new Edge("way to", 0, 19, (x, n) -> x.way(1, n)));
        all.add(new Edge("fees from", 0, 19, (x, n) -> x.fees(n, 1)));
        all.add(new Edge("fees to", 0, 19, (x, n) -> x.fees(1, n)));
        addEdgesOfDrives(all);
        addEdgesOfLaying(all);
        return all;
    }

    private static void addEdgesOfDrives(List<Edge> all) {
        all.add(new Edge("sight drive", 0, 0, (x, n) -> x.sight(n, 5, 11, 5)));
        all.add(new Edge("sight where", 0, 9999, (x, n) -> x.sight(0, n, 11, 5)));
        all.add(new Edge("sight tick", 11, 10000, (x, n) -> x.sight(0, 5, n, 5)));
        all.add(new Edge("sight bound", 0, 60, (x, n) -> x.sight(0, 5, 11, n)));
        all.add(new Edge("drop drive", 0, 0, (x, n) -> x.drop(n)));
        all.add(new Edge("prices fast", 1, 100, (x, n) -> x.prices(n, 5)));
        all.add(new Edge("prices loss", 1, 9999, (x, n) -> x.prices(5, n)));
        all.add(new Edge("spot drive", 0, 0, (x, n) -> x.spot(n, 0, -1)));
        all.add(new Edge("spot sight", 0, 1, (x, n) -> x.spot(0, n, -1)));
        all.add(new Edge("spot i", -1, 5, (x, n) -> x.spot(0, 0, n)));
        all.add(new Edge("off drive", 0, 0, (x, n) -> x.off(n, 0, 0)));
        all.add(new Edge("off sight", 0, 1, (x, n) -> x.off(0, n, 0)));
        all.add(new Edge("off point", 0, 19, (x, n) -> x.off(0, 0, n)));
    }

    private static void addEdgesOfLaying(List<Edge> all) {
        all.add(new Edge("cost drive", 0, 0, (x, n) -> x.cost(n)));
        all.add(new Edge("laid drive", 0, 0, (x, n) -> x.laid(n, 0)));
        all.add(new Edge("laid sight", 0, 1, (x, n) -> x.laid(0, n)));
        all.add(new Edge("check drive", 0, 0, (x, n) -> x.check(n)));
        all.add(new Edge("list point", 0, 19, (x, n) -> n == LEFT ? NONE : x.list(n)));
        all.add(new Edge("sure drive", 0, 0, (x, n) -> x.sure(n, 0)));
        all.add(new Edge("sure d", 0, 100000, (x, n) -> x.sure(0, n)));
        all.add(new Edge("toll drive", 0, 0, (x, n) -> x.toll(n)));
        all.add(new Edge("speed drive", 0, 0, (x, n) -> x.speed(n, 0)));
        all.add(new Edge("speed sight", 0, 1, (x, n) -> x.speed(0, n)));
        all.add(new Edge("against road", 0, 3, (x, n) -> x.against(n)));
        all.add(new Edge("count what", 0, 4, (x, n) -> x.count(n)));
    }

    @Says("DRIVES 0 .. 5, as they were made.")
    static void drivesAreSixInOrder() {
        RoadTrace x = new RoadTrace();
        for (int i = 0; i < 6; i++) {
            due("no drive yet", x.cost(i), NONE);
            due("drive " + i, x.drive(), i);
            due("a sight for it", x.sight(i, 0, i, 0), 0);
        }
        due("a drive more", x.drive(), FULL);
        due("drives", x.count(2), 6);
        due("the last one has one sight", x.cost(5), 200);
        due("no drive 6", x.cost(6), NONE);
        due("no drive -1", x.cost(-1), NONE);
    }

    @Says("NONE (-1): there is no such thing, or a number is not as said;")
    static void noneIsForNumbersThatAreNotAsSaid() {
        due("NONE", RoadTrace.NONE, -1);
        for (Edge edge : edges()) {
            for (int number : WILD) {
                if (!edge.isAsSaid(number)) {
                    due(edge.name + " " + number, edge.call.of(inUse(), number), NONE);
                }
            }
            due(edge.name + " just under", edge.call.of(inUse(), edge.least - 1), NONE);
            due(edge.name + " just over", edge.call.of(inUse(), edge.most + 1), NONE);
            due(edge.name + " the least is taken", edge.call.of(inUse(), edge.least) == NONE ? 0 : 1, 1);
            due(edge.name + " the most is taken", edge.call.of(inUse(), edge.most) == NONE ? 0 : 1, 1);
        }
    }

    @Says("NONE (-1): there is no such thing, or a number is not as said;")
    static void noneIsForEndsThatAreNotAsSaid() {
        for (int a = 0; a <= 2; a++) {
            for (int b = 0; b <= 2; b++) {
                due("ends " + a + " and " + b, inUse().road(100 * a + b, 5, ROAD, 0), a == b ? NONE : 4);
            }
        }
        String before = picture(inUse());
        int[] wrongEnds = {Integer.MIN_VALUE, Integer.MIN_VALUE + 1, -202, -201, -102, -100, -99, -98, -2, -1, 3, 15, 98, 99,
            103, 199, 203, 300, 301, 302, 1500, 9900, 10000, 10001, 20001, Integer.MAX_VALUE - 1, Integer.MAX_VALUE};
        for (int ends : wrongEnds) {
            RoadTrace x = inUse();
            due("ends " + ends, x.road(ends, 5, ROAD, 0), NONE);
            dueLike("ends " + ends, x, before);
        }
    }

    @Says("NONE (-1): there is no such thing, or a number is not as said;")
    static void noneIsForWhatIsNotMade() {
        for (int number : WILD) {
            RoadTrace x = new RoadTrace();
            due("road " + number, x.road(number, 5, ROAD, 0), NONE);
            due("bar " + number, x.bar(number, number, 1), NONE);
            due("way " + number, x.way(number, number), NONE);
            due("fees " + number, x.fees(number, number), NONE);
            due("sight " + number, x.sight(number, 0, 0, 0), NONE);
            due("drop " + number, x.drop(number), NONE);
            due("spot " + number, x.spot(number, 0, -1), NONE);
            due("off " + number, x.off(number, 0, 0), NONE);
            due("cost " + number, x.cost(number), NONE);
            due("laid " + number, x.laid(number, 0), NONE);
            due("check " + number, x.check(number), NONE);
            due("list " + number, x.list(number), number == LEFT ? 1 : NONE);
            due("sure " + number, x.sure(number, 0), NONE);
            due("toll " + number, x.toll(number), NONE);
            due("speed " + number, x.speed(number, 0), NONE);
            due("against " + number, x.against(number), NONE);
        }
    }

    @Says({"FULL (-2);", "STATE (-3): as told;", "NO_WAY (-4)."})
    static void answersHaveTheirNumbers() {
        due("FULL", RoadTrace.FULL, -2);
        due("STATE", RoadTrace.STATE, -3);
        due("NO_WAY", RoadTrace.NO_WAY, -4);
        RoadTrace x = oneRoad(5, ONEWAY, 0);
        for (int i = 0; i < 6; i++) {
            x.drive();
        }
        due("full", x.drive(), -2);
        due("state", x.drop(0), -3);
        due("no way", x.way(4, 0), -4);
    }

    /** A desk on which nothing has room: 16 KNOTS, 30 ROADS, 6 DRIVES, 20 SIGHTS in DRIVE 0, 20 on THE LIST. */
    private static RoadTrace full() {
        RoadTrace x = inUse();
        for (int i = 3; i < 16; i++) {
            x.knot(99, 99);
        }
        for (int i = 4; i < 30; i++) {
            x.road(1415, 1, TUNNEL, 0);
        }
        for (int i = 1; i < 6; i++) {
            x.drive();
        }
        for (int i = 2; i < 20; i++) {
            x.sight(0, 6003, 10 * i, 10);
        }
        for (int i = 2; i < 20; i++) {
            x.list(LEFT);
        }
        return x;
    }

    @Says("Answers, the first that a call names:")
    static void noneGoesAheadOfFull() {
        RoadTrace x = full();
        due("knot", x.knot(5, 5), FULL);
        due("knot x 100", x.knot(100, 5), NONE);
        due("knot y -1", x.knot(5, -1), NONE);
        due("road", x.road(1, 5, ROAD, 0), FULL);
        due("road to itself", x.road(101, 5, ROAD, 0), NONE);
        due("road to no knot", x.road(16, 5, ROAD, 0), NONE);
        due("road 0 long", x.road(1, 0, ROAD, 0), NONE);
        due("road kind 4", x.road(1, 5, 4, 0), NONE);
        due("road with a fee", x.road(1, 5, ROAD, 1), NONE);
        due("sight", x.sight(0, 5, 191, 5), FULL);
        due("sight where 10000", x.sight(0, 10000, 191, 5), NONE);
        due("sight tick as the last", x.sight(0, 5, 190, 5), NONE);
        due("sight tick 10001", x.sight(0, 5, 10001, 5), NONE);
        due("sight bound 61", x.sight(0, 5, 191, 61), NONE);
        due("sight of drive 6", x.sight(6, 5, 191, 5), NONE);
        due("list", x.list(0), FULL);
        due("list 150", x.list(150), NONE);
        due("list -4", x.list(-4), NONE);
        due("drive", x.drive(), FULL);
    }

    /** STATE goes ahead of NO_WAY as in the order of answers of part 4: what does not fit is no ROW that has WAYS. */
    @Says("Answers, the first that a call names:")
    static void stateGoesAheadOfNoWay() {
        RoadTrace x = oneRoad(40, ONEWAY, 0);
        x.drive();
        x.sight(0, 4000, 0, 0);
        x.sight(0, 2000, 10, 0);
        x.sight(0, 0, 20, 0);
        tell(x, 4, 2, 0);
        due("fits, but has no ways", x.check(0), NO_WAY);
        tell(x, 4, 2, 1);
        due("no way ahead of what is no spot", x.check(0), STATE);
        tell(x, 3, 2, 0);
        due("no way behind what is no spot", x.check(0), STATE);
        tell(x, 4, 2);
        due("no way, and too few", x.check(0), STATE);
        tell(x, 4, 2, 0, LEFT);
        due("no way, and too many", x.check(0), STATE);
        tell(x, 4, 2, 0);
        due("no such drive, ahead of all", x.check(1), NONE);
    }

    /** All that a desk tells of its first 20 POINTS and of DRIVE 0, then what it takes to change it. */
    private static String picture(RoadTrace x) {
        StringBuilder text = new StringBuilder();
        for (int what = 0; what <= 4; what++) {
            text.append(x.count(what)).append(' ');
        }
        for (int from = 0; from < 20; from += 3) {
            for (int to = 0; to < 20; to++) {
                text.append(x.way(from, to)).append(' ').append(x.fees(from, to)).append(' ');
            }
        }
        text.append(spots(x, 0, 0)).append(' ').append(x.cost(0)).append(' ').append(x.toll(0)).append(' ');
        for (int sight = 0; sight < 20; sight++) {
            text.append(x.laid(0, sight)).append(' ').append(x.speed(0, sight)).append(' ');
        }
        text.append(x.sure(0, 0)).append(' ').append(x.sure(0, 300)).append(' ').append(x.against(2)).append(' ');
        text.append(x.off(0, 1, 0)).append(' ').append(x.check(0)).append(' ').append(x.count(4));
        text.append(x.bar(1, 1, 1)).append(x.bar(0, 1, 0)).append(' ');
        text.append(x.sight(0, 5, 12, 5)).append(x.sight(0, 5, 192, 5)).append(x.drop(0)).append(x.knot(1, 1));
        return text.append(x.road(1, 5, ROAD, 0)).append(x.drive()).append(x.list(0)).toString();
    }

    private static void dueLike(String behind, RoadTrace x, String before) {
        due("the desk is as before, behind " + behind, picture(x).equals(before) ? 1 : 0, 1);
    }

    @Says("What is refused changes nothing.")
    static void refusedNumbersChangeNothing() {
        String before = picture(inUse());
        for (Edge edge : edges()) {
            for (int number : WILD) {
                if (!edge.isAsSaid(number)) {
                    RoadTrace x = inUse();
                    edge.call.of(x, number);
                    dueLike(edge.name + " " + number, x, before);
                }
            }
        }
    }

    @Says("What is refused changes nothing.")
    static void refusedForLackOfRoomChangesNothing() {
        String before = picture(full());
        Asked[] calls = {(x, n) -> x.knot(5, 5), (x, n) -> x.road(1, 5, ROAD, 0), (x, n) -> x.drive(),
            (x, n) -> x.sight(0, 5, 191, 5), (x, n) -> x.list(0), (x, n) -> x.list(LEFT)};
        for (int i = 0; i < calls.length; i++) {
            RoadTrace x = full();
            due("call " + i, calls[i].of(x, 0), FULL);
            dueLike("call " + i, x, before);
        }
    }

    @Says("What is refused changes nothing.")
    static void refusedByStateChangesNothing() {
        String before = picture(inUse());
        RoadTrace x = inUse();
        due("against what is no oneway", x.against(0), STATE);
        dueLike("against", x, before);
        x = inUse();
        due("speed behind the last sight", x.speed(0, 1), STATE);
        dueLike("speed", x, before);
        RoadTrace empty = oneRoad(40, ROAD, 0);
        empty.drive();
        due("drop of none", empty.drop(0), STATE);
        due("no sights", empty.count(3), 0);
        due("a first sight then", empty.sight(0, 4000, 0, 0), 0);
        due("it is laid", empty.laid(0, 0), 4);
        due("one sight", empty.count(3), 1);
    }

    @Says("What is refused changes nothing.")
    static void refusedBarsChangeNothing() {
        RoadTrace x = line();
        x.knot(80, 40);
        x.road(203, 40, ROAD, 0);
        due("no knot in common", x.bar(0, 2, 1), NONE);
        due("over the road between", x.way(0, 14), 480);
        due("neither 0 nor 1", x.bar(0, 1, 2), NONE);
        due("it is free", x.bar(0, 1, 1), 0);
        due("neither 1 nor 0", x.bar(0, 1, -1), NONE);
        due("it is barred", x.bar(0, 1, 1), 1);
    }

    @Says("All memory is the class's own.")
    static void desksShareNothing() {
        String before = picture(inUse());
        RoadTrace x = inUse();
        RoadTrace other = full();
        picture(other);
        due("behind another desk's calls", picture(x), before);
        RoadTrace one = new RoadTrace();
        due("a new one has no knots", one.count(0), 0);
        due("nor a list", one.count(4), 0);
    }

    @Says({"An object is used for at most 512 calls after it has been made; what later calls answer is free."})
    static void holdsFor512Calls() {
        RoadTrace x = fullest();
        due("sights", x.count(3), 120);
        due("spots", x.spot(5, 19, -1), 10);
        int cost = x.cost(0);
        int against = x.against(1);
        for (int call = 172 + 4; call < 510; call++) {
            x.against(1 + call % 15 * 2);
        }
        due("call 511", x.cost(0), cost);
        due("call 512", x.against(1), against);
    }
}
