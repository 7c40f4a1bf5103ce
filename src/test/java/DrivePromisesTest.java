/** Promises 7 to 12, drives: a test for each sentence and each answer that it names, worked out by hand. */
public final class DrivePromisesTest extends Sentences {
    public static void main(String[] args) throws Exception {
        runAll(DrivePromisesTest.class);
    }

    @Says("A new DRIVE: its number.")
    static void driveTellsItsNumber() {
        RoadTrace x = new RoadTrace();
        due("the first", x.drive(), 0);
        due("the second", x.drive(), 1);
        due("it has no sights", x.laid(1, 0), NONE);
        due("it costs nothing", x.cost(1), 0);
        due("drives", x.count(2), 2);
    }

    @Says("A new DRIVE: its number. FULL.")
    static void driveSevenIsFull() {
        RoadTrace x = new RoadTrace();
        for (int i = 0; i < 5; i++) {
            x.drive();
        }
        due("the sixth", x.drive(), 5);
        due("the seventh", x.drive(), FULL);
        due("and again", x.drive(), FULL);
        due("drives", x.count(2), 6);
        due("the sixth is of use", x.sight(5, 0, 0, 0), 0);
        due("the seventh is not", x.sight(6, 0, 0, 0), NONE);
    }

    @Says("A SIGHT more: its number.")
    static void sightTellsItsNumber() {
        RoadTrace x = new RoadTrace();
        x.drive();
        x.drive();
        due("the first", x.sight(0, 0, 5, 0), 0);
        due("the second", x.sight(0, 0, 6, 0), 1);
        due("the first of another drive", x.sight(1, 0, 5, 0), 0);
        due("in all", x.count(3), 3);
    }

    @Says("where: 100 times x, and y.")
    static void sightIsWhereItIsSaid() {
        RoadTrace x = oneRoad(40, ROAD, 0);
        x.drive();
        x.sight(0, 203, 0, 0);
        x.sight(0, 99, 1, 0);
        x.sight(0, 9900, 2, 0);
        due("(2, 3)", x.off(0, 0, 0), 4 + 9);
        due("(0, 99)", x.off(0, 1, 0), 99 * 99);
        due("(99, 0)", x.off(0, 2, 4), 59 * 59);
        due("the greatest", x.sight(0, 9999, 3, 0), 3);
        due("more than the greatest", x.sight(0, 10000, 4, 0), NONE);
        due("less than the least", x.sight(0, -1, 4, 0), NONE);
        due("x 0, y less than 0", x.sight(0, -99, 4, 0), NONE);
    }

    @Says("NONE (also if tick is not above the last one);")
    static void sightNotAboveTheLastTickIsNone() {
        RoadTrace x = new RoadTrace();
        x.drive();
        x.sight(0, 0, 7, 0);
        due("as the last", x.sight(0, 0, 7, 0), NONE);
        due("under the last", x.sight(0, 0, 6, 0), NONE);
        due("just above the last", x.sight(0, 0, 8, 0), 1);
        due("above the first, but not the last", x.sight(0, 0, 8, 0), NONE);
        x.drop(0);
        due("above the one that is the last now", x.sight(0, 0, 8, 0), 1);
        x.drop(0);
        x.drop(0);
        due("with none ahead even 0", x.sight(0, 0, 0, 0), 0);
    }

    @Says("NONE (also if tick is not above the last one);")
    static void sightNotAsSaidIsNone() {
        RoadTrace x = new RoadTrace();
        x.drive();
        int[] wild = {Integer.MIN_VALUE, Integer.MIN_VALUE + 1, -10000, -1, Integer.MAX_VALUE - 1, Integer.MAX_VALUE};
        for (int number : wild) {
            due("drive " + number, x.sight(number, 0, 0, 0), NONE);
            due("where " + number, x.sight(0, number, 0, 0), NONE);
            due("tick " + number, x.sight(0, 0, number, 0), NONE);
            due("bound " + number, x.sight(0, 0, 0, number), NONE);
        }
        due("drive 1", x.sight(1, 0, 0, 0), NONE);
        due("tick 10001", x.sight(0, 0, 10001, 0), NONE);
        due("bound 61", x.sight(0, 0, 0, 61), NONE);
        due("none came", x.count(3), 0);
        due("all at their most", x.sight(0, 9999, 10000, 60), 0);
    }

    @Says("NONE (also if tick is not above the last one); FULL.")
    static void sightTwentyOneIsFull() {
        RoadTrace x = new RoadTrace();
        x.drive();
        for (int i = 0; i < 19; i++) {
            x.sight(0, 0, i, 0);
        }
        due("the twentieth", x.sight(0, 0, 19, 0), 19);
        due("the next", x.sight(0, 0, 20, 0), FULL);
        due("not even then at a tick of old", x.sight(0, 0, 19, 0), NONE);
        due("a refused tick is not the last one", x.sight(0, 0, 20, 0), FULL);
        x.drop(0);
        due("behind a drop", x.sight(0, 0, 19, 0), 19);
        due("sights", x.count(3), 20);
    }

    @Says("The last SIGHT goes: how many are left.")
    static void dropTakesTheLast() {
        RoadTrace x = oneRoad(40, ROAD, 0);
        x.drive();
        x.drive();
        x.sight(0, 0, 0, 0);
        x.sight(0, 2000, 10, 0);
        x.sight(0, 4000, 20, 0);
        x.sight(1, 4000, 20, 0);
        due("three", x.cost(0), 40);
        due("two are left", x.drop(0), 2);
        due("the last one went", laid(x, 0, 2), "0 2");
        due("there is no third", x.laid(0, 2), NONE);
        due("nor its spots", x.spot(0, 2, -1), NONE);
        due("nor its off", x.off(0, 2, 0), NONE);
        due("nor its speed", x.speed(0, 2), NONE);
        due("the new last one has none behind", x.speed(0, 1), STATE);
        due("two", x.cost(0), 20);
        due("one is left", x.drop(0), 1);
        due("none is left", x.drop(0), 0);
        due("nothing", x.cost(0), 0);
        due("the other drive has its own", x.cost(1), 0);
        due("one sight in all", x.count(3), 1);
    }

    @Says("The last SIGHT goes: how many are left. NONE; STATE: there is none.")
    static void dropOfNone() {
        RoadTrace x = new RoadTrace();
        due("no drive", x.drop(0), NONE);
        x.drive();
        x.drive();
        due("no sight", x.drop(0), STATE);
        x.sight(0, 0, 0, 0);
        due("the other one has none", x.drop(1), STATE);
        due("the one", x.drop(0), 0);
        due("no sight again", x.drop(0), STATE);
        due("and again", x.drop(0), STATE);
        due("none in all", x.count(3), 0);
        due("drive -1", x.drop(-1), NONE);
        due("drive 2", x.drop(2), NONE);
        due("drive 6", x.drop(6), NONE);
    }

    @Says("FAST and LOSS: 1.")
    static void pricesAreForAllDrives() {
        RoadTrace x = oneRoad(40, ROAD, 0);
        for (int i = 0; i < 2; i++) {
            x.drive();
            x.sight(i, 0, 0, 0);
            x.sight(i, 4000, 2, 0);
        }
        due("at first", x.cost(1), 40);
        due("slower and cheaper", x.prices(19, 33), 1);
        due("the first drive", x.cost(0), 33);
        due("the second drive", x.cost(1), 33);
        due("faster and dearer", x.prices(20, 34), 1);
        due("the way is dearer than the loss", x.cost(0), 34);
        x.prices(20, 41);
        due("the way is cheaper than the loss", x.cost(0), 40);
        x.drive();
        x.sight(2, 99, 0, 0);
        due("a drive that came later", x.cost(2), 41);
    }

    @Says("FAST and LOSS: 1. NONE.")
    static void pricesNotAsSaidAreNone() {
        RoadTrace x = oneRoad(40, ROAD, 0);
        x.drive();
        x.sight(0, 0, 0, 0);
        x.sight(0, 4000, 2, 0);
        x.sight(0, 4099, 3, 0);
        int[] fasts = {Integer.MIN_VALUE, -1, 0, 101, Integer.MAX_VALUE};
        for (int fast : fasts) {
            due("fast " + fast, x.prices(fast, 1), NONE);
        }
        int[] losses = {Integer.MIN_VALUE, -1, 0, 10000, Integer.MAX_VALUE};
        for (int loss : losses) {
            due("loss " + loss, x.prices(1, loss), NONE);
        }
        due("neither has changed", x.cost(0), 240);
        due("the least", x.prices(1, 1), 1);
        due("the most", x.prices(100, 9999), 1);
        due("is taken", x.cost(0), 40 + 9999);
    }

    @Says("How many SPOTS a SIGHT has (i -1), or the i-th one.")
    static void spotTellsHowManyAndWhich() {
        RoadTrace x = twins();
        x.drive();
        x.sight(0, 2000, 0, 10);
        x.sight(0, 2000, 1, 20);
        x.sight(0, 2099, 2, 60);
        due("six", x.spot(0, 0, -1), 6);
        due("the first", x.spot(0, 0, 0), 1);
        due("the fourth", x.spot(0, 0, 3), 6);
        due("the last", x.spot(0, 0, 5), 8);
        due("ten", x.spot(0, 1, -1), 10);
        due("the tenth", x.spot(0, 1, 9), 9);
        due("none", x.spot(0, 2, -1), 0);
        x.road(1, 1, ROAD, 0);
        due("a road that came later", x.spot(0, 0, -1), 9);
        due("ten and no more", x.spot(0, 1, -1), 10);
        // 2, 7, 12 are off 0, 1, 3, 6, 8, 11, 13 are off 100, and of those off 400 the least number is 0.
        due("the ten", spots(x, 0, 1), "0 1 2 3 6 7 8 11 12 13");
    }

    @Says("How many SPOTS a SIGHT has (i -1), or the i-th one. NONE.")
    static void spotThatIsNot() {
        RoadTrace x = twins();
        due("no drive", x.spot(0, 0, -1), NONE);
        x.drive();
        due("no sight", x.spot(0, 0, -1), NONE);
        x.sight(0, 2000, 0, 10);
        x.sight(0, 2099, 1, 60);
        due("behind the last spot", x.spot(0, 0, 6), NONE);
        due("behind ten", x.spot(0, 0, 10), NONE);
        due("of none", x.spot(0, 1, 0), NONE);
        int[] wild = {Integer.MIN_VALUE, -3, -2, 11, 20, 200, Integer.MAX_VALUE};
        for (int number : wild) {
            due("i " + number, x.spot(0, 0, number), NONE);
            due("sight " + number, x.spot(0, number, -1), NONE);
            due("drive " + number, x.spot(number, 0, -1), NONE);
        }
        due("sight -1", x.spot(0, -1, -1), NONE);
        due("sight 2", x.spot(0, 2, -1), NONE);
        due("drive 1", x.spot(1, 0, -1), NONE);
    }

    @Says("OFF of a POINT and a SIGHT.")
    static void offIsOfAnyPoint() {
        RoadTrace x = oneRoad(40, TUNNEL, 0);
        x.drive();
        x.sight(0, 2003, 0, 0);
        due("of a tunnel's point, farther than the bound", x.off(0, 0, 2), 9);
        due("off a", x.off(0, 0, 0), 400 + 9);
        due("off b", x.off(0, 0, 4), 400 + 9);
        x.knot(99, 99);
        x.road(2, 1, ROAD, 0);
        x.sight(0, 0, 1, 0);
        due("the farthest", x.off(0, 1, 9), 2 * 99 * 99);
        // (24.75, 24.75) is 99 quarters off each way: 19602 of 16.
        due("a quarter of it, the rest away", x.off(0, 1, 6), 1225);
    }

    @Says("OFF of a POINT and a SIGHT. NONE.")
    static void offThatIsNot() {
        RoadTrace x = line();
        due("no drive", x.off(0, 0, 0), NONE);
        x.drive();
        due("no sight", x.off(0, 0, 0), NONE);
        x.sight(0, 0, 0, 0);
        due("the last point", x.off(0, 0, 9), 6400);
        due("behind the last point", x.off(0, 0, 10), NONE);
        int[] wild = {Integer.MIN_VALUE, -5, -1, 150, Integer.MAX_VALUE};
        for (int number : wild) {
            due("point " + number, x.off(0, 0, number), NONE);
            due("sight " + number, x.off(0, number, 0), NONE);
            due("drive " + number, x.off(number, 0, 0), NONE);
        }
        due("sight 1", x.off(0, 1, 0), NONE);
        due("drive 1", x.off(1, 0, 0), NONE);
    }
}
