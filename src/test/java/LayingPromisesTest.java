/** Promises 13 to 21, laying: a test for each sentence and each answer that it names, worked out by hand. */
public final class LayingPromisesTest extends Sentences {
    private static final int[] NO_DRIVES = {Integer.MIN_VALUE, -6, -5, -1, 1, 5, 6, Integer.MAX_VALUE};
    private static final int[] NO_SIGHTS = {Integer.MIN_VALUE, -5, -1, 2, 19, 20, Integer.MAX_VALUE};

    public static void main(String[] args) throws Exception {
        runAll(LayingPromisesTest.class);
    }

    /** One ROAD and a DRIVE along it: SIGHTS at POINTS 0, 2, 4, at TICKS 0, 10, 20, each with one SPOT. */
    private static RoadTrace along() {
        RoadTrace x = oneRoad(40, ROAD, 0);
        x.drive();
        x.sight(0, 0, 0, 0);
        x.sight(0, 2000, 10, 0);
        x.sight(0, 4000, 20, 0);
        return x;
    }

    /** A DRIVE of two SIGHTS, so that 0 and 1 are the only ones, for what asks of one that is not. */
    private static RoadTrace ofTwo() {
        RoadTrace x = along();
        x.drop(0);
        return x;
    }

    @Says("COST of LAID.")
    static void costFollowsEveryChange() {
        RoadTrace x = line();
        x.drive();
        due("no sights", x.cost(0), 0);
        x.sight(0, 3, 0, 3);
        due("an off", x.cost(0), 9);
        x.sight(0, 8004, 10, 4);
        due("a way and another off", x.cost(0), 9 + 80 + 16);
        x.road(2, 60, ROAD, 0);
        due("a shorter road", x.cost(0), 9 + 60 + 16);
        x.bar(2, 2, 1);
        due("a bar that does not matter", x.cost(0), 9 + 60 + 16);
        x.prices(5, 200);
        due("slow: one is left, the dearer", x.cost(0), 9 + 200);
        x.prices(6, 200);
        due("just fast enough", x.cost(0), 9 + 60 + 16);
        x.prices(6, 70);
        due("a loss of 70 for the way and its off of 76", x.cost(0), 79);
        x.drop(0);
        due("without the last", x.cost(0), 9);
    }

    @Says("COST of LAID.")
    static void costOfTheFullestDrive() {
        RoadTrace x = oneRoad(40, ROAD, 0);
        x.drive();
        for (int i = 0; i < 20; i++) {
            x.sight(0, i % 2 == 0 ? 0 : 4000, 2 * i, 0);
        }
        due("nineteen ways of 40", x.cost(0), 760);
        x.prices(19, 39);
        due("too fast for each way: every other one is left", x.cost(0), 390);
        x.prices(19, 9999);
        due("for any loss", x.cost(0), 99990);
        x.prices(1, 9999);
        // At 1 a tick, 40 take 40 ticks, and there are 38 between the first and the last.
        due("so slow that it stays", x.cost(0), 99990);
        x.prices(2, 9999);
        // At 2 a tick 40 take 20 ticks: once over, ten SIGHTS of all stay.
        due("a way over saves nothing", x.cost(0), 99990);
    }

    @Says("COST of LAID. NONE.")
    static void costOfNoDrive() {
        due("no drives", new RoadTrace().cost(0), NONE);
        for (int number : NO_DRIVES) {
            due("drive " + number, along().cost(number), NONE);
        }
    }

    @Says("The POINT of a SIGHT in LAID; -5: LEFT.")
    static void laidTellsPointsAndLeft() {
        RoadTrace x = along();
        due("points", laid(x, 0, 3), "0 2 4");
        x.sight(0, 99, 21, 0);
        due("the last one is left", x.laid(0, 3), -5);
        x.bar(0, 0, 1);
        due("no turn is needed", laid(x, 0, 4), "0 2 4 -5");
        x.prices(1, 200);
        due("20 in 10 ticks are too fast, 40 in 20 as well", laid(x, 0, 4), "0 -5 -5 -5");
    }

    @Says("The POINT of a SIGHT in LAID; -5: LEFT.")
    static void laidAtAKnotIsTheLesserPoint() {
        RoadTrace x = new RoadTrace();
        x.knot(0, 0);
        x.knot(20, 0);
        x.knot(40, 0);
        x.road(102, 20, ROAD, 0);
        x.road(1, 20, ROAD, 0);
        x.drive();
        x.sight(0, 0, 0, 1);
        x.sight(0, 2000, 5, 1);
        x.sight(0, 4000, 9, 1);
        due("0 and 9 lie at the knot in the middle", laid(x, 0, 3), "5 0 4");
        x.bar(1, 0, 1);
        due("without the turn there one is left", laid(x, 0, 3), "5 9 -5");
    }

    @Says("The POINT of a SIGHT in LAID; -5: LEFT. NONE.")
    static void laidOfNoSight() {
        due("no drives", new RoadTrace().laid(0, 0), NONE);
        RoadTrace x = ofTwo();
        for (int number : NO_SIGHTS) {
            due("sight " + number, x.laid(0, number), NONE);
        }
        for (int number : NO_DRIVES) {
            due("drive " + number, x.laid(number, 0), NONE);
        }
        x.drive();
        due("a drive without sights", x.laid(1, 0), NONE);
    }

    @Says("COST of a ROW that is told: THE LIST, one for each SIGHT (-5: LEFT)")
    static void checkTellsTheCost() {
        RoadTrace x = line();
        x.drive();
        x.sight(0, 1, 0, 25);
        x.sight(0, 2002, 10, 25);
        x.sight(0, 4003, 20, 25);
        tell(x, 0, 2, 4);
        due("the cheapest", x.check(0), 1 + 20 + 4 + 20 + 9);
        due("as laid", x.cost(0), 54);
        tell(x, 2, 1, 6);
        due("a dear one", x.check(0), 401 + 10 + 104 + 40 + 109);
        tell(x, 2, 2, 2);
        due("one that stays", x.check(0), 401 + 0 + 4 + 0 + 409);
        tell(x, 0, LEFT, 4);
        due("over one that is left", x.check(0), 1 + 40 + 9 + 200);
        tell(x, LEFT, 2, LEFT);
        due("one alone", x.check(0), 4 + 400);
        tell(x, LEFT, LEFT, LEFT);
        due("none", x.check(0), 600);
    }

    @Says("COST of a ROW that is told: THE LIST, one for each SIGHT (-5: LEFT)")
    static void checkOfEmptyAndFullDrives() {
        RoadTrace x = oneRoad(3, ROAD, 0);
        x.drive();
        due("an empty list for an empty drive", x.check(0), 0);
        for (int i = 0; i < 20; i++) {
            x.sight(0, 1000 * (i % 2), i, 0);
            x.list(i % 2);
        }
        due("each way of 3 quarters is 0", x.check(0), 0);
        for (int i = 0; i < 20; i++) {
            x.list(i == 0 ? 0 : LEFT);
        }
        due("nineteen left", x.check(0), 19 * 200);
    }

    @Says("which is empty then;")
    static void checkEmptiesTheList() {
        RoadTrace x = along();
        tell(x, 0, 2, 4);
        due("a row", x.check(0), 40);
        due("empty behind a row", x.count(4), 0);
        tell(x, 0, 2);
        due("too few", x.check(0), STATE);
        due("empty behind what does not fit", x.count(4), 0);
        x.prices(1, 200);
        tell(x, 0, 2, 4);
        due("too long", x.check(0), NO_WAY);
        due("empty behind no way", x.count(4), 0);
        due("the next one is the first", x.list(LEFT), 1);
    }

    @Says("NO_WAY: a WAY is not, or too long;")
    static void checkOfNoWay() {
        RoadTrace x = oneRoad(40, ONEWAY, 0);
        x.drive();
        x.sight(0, 0, 0, 60);
        x.sight(0, 4000, 2, 60);
        tell(x, 4, 0);
        due("a way is not", x.check(0), NO_WAY);
        tell(x, 4, 3);
        due("not a quarter against it", x.check(0), NO_WAY);
        tell(x, 0, 4);
        due("160 in two ticks", x.check(0), 40);
        x.prices(19, 200);
        tell(x, 0, 4);
        due("too long", x.check(0), NO_WAY);
        tell(x, 0, 3);
        due("120 is not", x.check(0), 30 + 100);
        tell(x, 0, LEFT);
        due("without a way", x.check(0), 200);
    }

    @Says("NO_WAY: a WAY is not, or too long;")
    static void checkOfAWayTooLongByAQuarter() {
        RoadTrace x = oneRoad(81, ROAD, 0);
        x.drive();
        x.sight(0, 0, 0, 0);
        x.sight(0, 1000, 1, 0);
        tell(x, 0, 1);
        due("81 in a tick", x.check(0), NO_WAY);
        RoadTrace y = oneRoad(80, ROAD, 0);
        y.drive();
        y.sight(0, 0, 0, 0);
        y.sight(0, 1000, 1, 0);
        tell(y, 0, 1);
        due("80 in a tick", y.check(0), 20);
        RoadTrace z = oneRoad(40, ROAD, 0);
        z.drive();
        z.sight(0, 0, 0, 0);
        z.sight(0, 99, 1, 0);
        z.sight(0, 4000, 2, 0);
        tell(z, 0, LEFT, 4);
        due("160 in the two ticks over one that is left", z.check(0), 240);
    }

    @Says("STATE: THE LIST does not fit (it has not as many, or what is no SPOT of its SIGHT).")
    static void checkOfNotAsMany() {
        RoadTrace x = along();
        due("none of three", x.check(0), STATE);
        tell(x, 0, 2);
        due("two of three", x.check(0), STATE);
        tell(x, 0, 2, 4, LEFT);
        due("four of three", x.check(0), STATE);
        tell(x, LEFT, LEFT, LEFT, LEFT);
        due("four left of three", x.check(0), STATE);
        x.drive();
        tell(x, LEFT);
        due("one of none", x.check(1), STATE);
        due("none of none", x.check(1), 0);
        tell(x, 0, 2, 4);
        x.drop(0);
        due("three of two, as one was dropped", x.check(0), STATE);
    }

    @Says("STATE: THE LIST does not fit (it has not as many, or what is no SPOT of its SIGHT).")
    static void checkOfNoSpot() {
        RoadTrace x = along();
        tell(x, 1, 2, 4);
        due("no spot at the first", x.check(0), STATE);
        tell(x, 0, 2, 3);
        due("no spot at the last", x.check(0), STATE);
        tell(x, 2, 0, 4);
        due("spots of other sights", x.check(0), STATE);
        x.road(1, 1, TUNNEL, 0);
        tell(x, 0, 7, 4);
        due("a tunnel's point at the same place", x.check(0), STATE);
        RoadTrace y = twins();
        y.road(1, 40, ROAD, 0);
        y.drive();
        y.sight(0, 2000, 0, 60);
        // Of 15 POINTS within the bound 0 is the last of those ten that are taken, 5 is off as far.
        tell(y, 0);
        due("the tenth of those near by", y.check(0), 400);
        tell(y, 5);
        due("the eleventh", y.check(0), STATE);
    }

    @Says("STATE: THE LIST does not fit (it has not as many, or what is no SPOT of its SIGHT).")
    static void checkOfASpotOfAnotherDrive() {
        RoadTrace x = oneRoad(40, ROAD, 0);
        x.drive();
        x.drive();
        x.sight(0, 2000, 0, 60);
        x.sight(1, 0, 0, 0);
        due("five spots", x.spot(0, 0, -1), 5);
        tell(x, 1);
        due("of the first drive, not of the second", x.check(1), STATE);
        tell(x, 1);
        due("of the first drive", x.check(0), 100);
        x.drop(0);
        x.sight(0, 0, 0, 0);
        tell(x, 1);
        due("of a sight that was dropped", x.check(0), STATE);
    }

    @Says("STATE: THE LIST does not fit (it has not as many, or what is no SPOT of its SIGHT).")
    static void checkOfTheFullestDrive() {
        RoadTrace x = twins();
        x.road(1, 40, ROAD, 0);
        x.drive();
        for (int i = 0; i < 20; i++) {
            x.sight(0, 2000, i, 60);
            x.list(i < 19 ? 2 : 5);
        }
        due("the last one is no spot", x.check(0), STATE);
        for (int i = 0; i < 20; i++) {
            x.list(2);
        }
        due("all are", x.check(0), 0);
    }

    @Says("NONE (THE LIST stays).")
    static void checkOfNoDriveKeepsTheList() {
        RoadTrace x = along();
        tell(x, 0, 2, 4);
        for (int number : NO_DRIVES) {
            due("drive " + number, x.check(number), NONE);
            due("the list stays", x.count(4), 3);
        }
        due("with what is on it", x.check(0), 40);
    }

    @Says("A POINT, or -5, comes to THE LIST: how many it has.")
    static void listTellsHowMany() {
        RoadTrace x = oneRoad(40, TUNNEL, 0);
        due("any point, of a tunnel too", x.list(4), 1);
        due("the same again", x.list(4), 2);
        due("left", x.list(-5), 3);
        due("that many", x.count(4), 3);
        due("left needs no roads", new RoadTrace().list(-5), 1);
        x.road(1, 40, ROAD, 0);
        due("a point of a road that came later", x.list(9), 4);
    }

    @Says("A POINT, or -5, comes to THE LIST: how many it has. NONE; FULL: 20.")
    static void listOfNoPoint() {
        RoadTrace x = line();
        int[] wild = {Integer.MIN_VALUE, -10, -6, -4, -3, -2, -1, 10, 149, 150, Integer.MAX_VALUE};
        for (int number : wild) {
            due("point " + number, x.list(number), NONE);
        }
        due("none came", x.count(4), 0);
        due("the first point", x.list(0), 1);
        due("the last point", x.list(9), 2);
        due("no points without roads", new RoadTrace().list(0), NONE);
    }

    @Says("A POINT, or -5, comes to THE LIST: how many it has. NONE; FULL: 20.")
    static void listTwentyOneIsFull() {
        RoadTrace x = line();
        for (int i = 0; i < 19; i++) {
            x.list(LEFT);
        }
        due("the twentieth", x.list(0), 20);
        due("the next", x.list(0), FULL);
        due("left is one, too", x.list(LEFT), FULL);
        due("not even then no point", x.list(10), NONE);
        due("twenty", x.count(4), 20);
        x.drive();
        due("a check makes room", x.check(0), STATE);
        due("the first again", x.list(0), 1);
    }

    @Says("SURE by d (0 .. 100000): how many SIGHTS.")
    static void sureByTheLeastAndTheMost() {
        RoadTrace x = oneRoad(40, ROAD, 0);
        x.drive();
        for (int i = 0; i < 20; i++) {
            x.sight(0, 0, i, 0);
        }
        x.prices(20, 9999);
        // The end at SIGHT i costs 9999 times 19 - i.
        due("by 0 all", x.sure(0, 0), 20);
        due("by 9998 all", x.sure(0, 9998), 20);
        due("by 9999 all but one", x.sure(0, 9999), 19);
        due("by ten losses but 1", x.sure(0, 99989), 11);
        due("by ten losses", x.sure(0, 99990), 10);
        due("by the most", x.sure(0, 100000), 10);
        due("by one more", x.sure(0, 100001), NONE);
        due("by one less", x.sure(0, -1), NONE);
    }

    @Says("SURE by d (0 .. 100000): how many SIGHTS.")
    static void sureFollowsEveryChange() {
        RoadTrace x = along();
        due("at first", x.sure(0, 100), 3);
        x.prices(20, 50);
        // 0 2 LEFT costs 70, 0 LEFT LEFT costs 100, all LEFT 150.
        due("by 29", x.sure(0, 29), 3);
        due("by 30", x.sure(0, 30), 2);
        due("by 60", x.sure(0, 60), 1);
        due("by 110", x.sure(0, 110), 0);
        x.prices(20, 200);
        x.road(1, 40, ROAD, 0);
        due("a twin: 0 2 4 and 0 2 9 cost 40", x.sure(0, 0), 2);
        x.drop(0);
        due("0 2 and 0 7 cost 20", x.sure(0, 0), 1);
        x.bar(0, 1, 1);
        // Now 0 7 is not, but 5 7 is, for 20, and its first SIGHT is another one.
        due("0 2 and 5 7 cost 20", x.sure(0, 0), 0);
    }

    @Says("SURE by d (0 .. 100000): how many SIGHTS.")
    static void sureOfEndsThatDifferInTheLast() {
        RoadTrace x = oneRoad(40, ROAD, 0);
        x.drive();
        x.sight(0, 0, 0, 0);
        x.sight(0, 0, 10, 0);
        x.sight(0, 4000, 20, 0);
        x.prices(20, 40);
        // 0 0 4 costs 40, and so does 0 0 LEFT.
        due("the row that is laid", laid(x, 0, 3), "0 0 4");
        due("all but the last", x.sure(0, 0), 2);
    }

    @Says("SURE by d (0 .. 100000): how many SIGHTS. NONE.")
    static void sureOfNoDrive() {
        due("no drives", new RoadTrace().sure(0, 0), NONE);
        RoadTrace x = along();
        for (int number : NO_DRIVES) {
            due("drive " + number, x.sure(number, 0), NONE);
        }
        int[] wild = {Integer.MIN_VALUE, -100000, -1, 100001, Integer.MAX_VALUE - 40, Integer.MAX_VALUE};
        for (int number : wild) {
            due("d " + number, x.sure(0, number), NONE);
        }
        x.drive();
        due("a drive without sights", x.sure(1, 0), 0);
    }

    @Says("FEES of a DRIVE.")
    static void tollIsOfTheWaysOfLaid() {
        RoadTrace x = oneRoad(40, TOLLED, 99);
        x.drive();
        for (int i = 0; i < 20; i++) {
            x.sight(0, i % 2 == 0 ? 0 : 4000, 2 * i, 0);
        }
        due("nineteen ways of the greatest fee", x.toll(0), 19 * 99);
        x.prices(19, 200);
        due("every other one is left, the ways stay", x.toll(0), 0);
        x.prices(20, 200);
        x.road(1, 40, ROAD, 0);
        due("a road without a fee beside it", x.toll(0), 0);
    }

    @Says("FEES of a DRIVE.")
    static void tollDoesNotChooseTheRow() {
        RoadTrace x = oneRoad(40, TOLLED, 50);
        x.road(1, 41, ROAD, 0);
        x.drive();
        x.sight(0, 0, 0, 0);
        x.sight(0, 4000, 10, 0);
        due("by the shorter road, for its fee", x.toll(0), 50);
        due("which is no cost", x.cost(0), 40);
    }

    @Says("FEES of a DRIVE. NONE.")
    static void tollOfNoDrive() {
        due("no drives", new RoadTrace().toll(0), NONE);
        RoadTrace x = along();
        for (int number : NO_DRIVES) {
            due("drive " + number, x.toll(number), NONE);
        }
        due("the drive", x.toll(0), 0);
    }

    @Says("SPEED behind a SIGHT.")
    static void speedLosesTheRest() {
        RoadTrace x = oneRoad(8, ROAD, 0);
        x.drive();
        x.sight(0, 0, 0, 0);
        x.sight(0, 1000, 1, 0);
        x.sight(0, 2000, 3, 0);
        x.sight(0, 3000, 6, 0);
        x.sight(0, 4000, 10000, 0);
        due("8 by 4", x.speed(0, 0), 2);
        due("8 by 8", x.speed(0, 1), 1);
        due("8 by 12", x.speed(0, 2), 0);
        due("8 by 39976", x.speed(0, 3), 0);
    }

    @Says("SPEED behind a SIGHT.")
    static void speedIsAtMostFast() {
        RoadTrace x = oneRoad(200, ROAD, 0);
        x.drive();
        x.sight(0, 0, 0, 0);
        x.sight(0, 2000, 1, 0);
        x.prices(100, 9999);
        due("400 by 4, the greatest", x.speed(0, 0), 100);
        x.prices(99, 9999);
        due("too fast, so there is none", x.speed(0, 0), STATE);
    }

    @Says("NONE; STATE: it is LEFT, or no other one that is not comes behind.")
    static void speedOfNoWay() {
        RoadTrace x = oneRoad(40, ROAD, 0);
        x.drive();
        x.sight(0, 0, 0, 0);
        due("none comes behind", x.speed(0, 0), STATE);
        x.sight(0, 99, 10, 0);
        due("none but one that is left", x.speed(0, 0), STATE);
        due("it is left", x.speed(0, 1), STATE);
        x.sight(0, 4000, 20, 0);
        due("over the one that is left, 160 by 80", x.speed(0, 0), 2);
        due("it is left still", x.speed(0, 1), STATE);
        due("the last", x.speed(0, 2), STATE);
    }

    @Says("NONE; STATE: it is LEFT, or no other one that is not comes behind.")
    static void speedOfNoSight() {
        due("no drives", new RoadTrace().speed(0, 0), NONE);
        RoadTrace x = ofTwo();
        for (int number : NO_SIGHTS) {
            due("sight " + number, x.speed(0, number), NONE);
        }
        for (int number : NO_DRIVES) {
            due("drive " + number, x.speed(number, 0), NONE);
        }
        x.drive();
        due("a drive without sights", x.speed(1, 0), NONE);
    }

    @Says("AGAINST. NONE: no such ROAD; STATE: it is no ONEWAY.")
    static void againstNeedsAOneway() {
        RoadTrace x = oneRoad(40, ROAD, 0);
        x.road(1, 40, ONEWAY, 0);
        x.road(1, 40, TUNNEL, 0);
        x.road(1, 40, TOLLED, 1);
        due("a road", x.against(0), STATE);
        due("a oneway", x.against(1), 0);
        due("a tunnel", x.against(2), STATE);
        due("a tolled road", x.against(3), STATE);
        int[] wild = {Integer.MIN_VALUE, -5, -1, 4, 29, 30, Integer.MAX_VALUE};
        for (int number : wild) {
            due("road " + number, x.against(number), NONE);
        }
        due("no roads", new RoadTrace().against(0), NONE);
    }

    @Says("AGAINST. NONE: no such ROAD; STATE: it is no ONEWAY.")
    static void againstChangesNothing() {
        RoadTrace x = oneRoad(40, ONEWAY, 0);
        x.drive();
        x.sight(0, 4000, 0, 0);
        x.sight(0, 0, 10, 0);
        due("against", x.against(0), 1);
        due("again", x.against(0), 1);
        due("the cost", x.cost(0), 200);
        due("the row", laid(x, 0, 2), "4 -5");
        due("the way", x.way(4, 0), NO_WAY);
        due("sure", x.sure(0, 0), 0);
        tell(x, 4, 0);
        due("against, with a list", x.against(0), 1);
        due("the list stays", x.count(4), 2);
        due("no way for it", x.check(0), NO_WAY);
        x.drive();
        x.sight(1, 3000, 0, 0);
        x.sight(1, 1000, 10, 0);
        due("a drive more", x.against(0), 2);
        x.drop(1);
        due("but not with one sight", x.against(0), 1);
    }

    @Says("AGAINST. NONE: no such ROAD; STATE: it is no ONEWAY.")
    static void againstWithATunnelBeside() {
        RoadTrace x = oneRoad(40, ONEWAY, 0);
        x.road(1, 40, TUNNEL, 0);
        x.road(1, 41, ONEWAY, 0);
        for (int i = 0; i < 6; i++) {
            x.drive();
            x.sight(i, 4000, 0, 0);
            x.sight(i, 0, 5, 0);
        }
        // The TUNNEL has no SPOTS, but a WAY back, as long as the one oneway and shorter than the other.
        due("the tunnel is as good", x.against(0), 0);
        due("the tunnel is better", x.against(2), 0);
        x.bar(0, 1, 1);
        x.bar(2, 1, 1);
        due("without it all six go against the one", x.against(0), 6);
        due("and all six against the other", x.against(2), 6);
    }

    @Says("How many: 0 KNOTS, 1 ROADS, 2 DRIVES, 3 SIGHTS in all, 4 on THE LIST.")
    static void countTellsHowMany() {
        RoadTrace x = line();
        x.drive();
        x.drive();
        x.drive();
        x.drive();
        for (int i = 0; i < 5; i++) {
            x.sight(i % 2 * 3, 0, i, 0);
        }
        for (int i = 0; i < 6; i++) {
            x.list(LEFT);
        }
        due("knots", x.count(0), 3);
        due("roads", x.count(1), 2);
        due("drives", x.count(2), 4);
        due("sights of all drives", x.count(3), 5);
        due("on the list", x.count(4), 6);
        x.drop(3);
        due("one sight less", x.count(3), 4);
    }

    @Says("How many: 0 KNOTS, 1 ROADS, 2 DRIVES, 3 SIGHTS in all, 4 on THE LIST.")
    static void countOfTheMost() {
        RoadTrace x = new RoadTrace();
        for (int i = 0; i < 16; i++) {
            x.knot(i, i);
        }
        for (int i = 0; i < 30; i++) {
            x.road(1, 1, ROAD, 0);
        }
        for (int i = 0; i < 120; i++) {
            if (i % 20 == 0) {
                x.drive();
            }
            x.sight(i / 20, 0, i, 0);
        }
        for (int i = 0; i < 20; i++) {
            x.list(149);
        }
        due("knots", x.count(0), 16);
        due("roads", x.count(1), 30);
        due("drives", x.count(2), 6);
        due("sights", x.count(3), 120);
        due("on the list", x.count(4), 20);
    }

    @Says("4 on THE LIST. NONE.")
    static void countOfNothing() {
        RoadTrace x = line();
        int[] wild = {Integer.MIN_VALUE, -5, -1, 5, 6, 100, Integer.MAX_VALUE};
        for (int number : wild) {
            due("what " + number, x.count(number), NONE);
        }
    }
}
