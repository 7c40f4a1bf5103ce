/** No call throws or fails to end, whatever comes: wild numbers in every place, on an empty desk, one in use, a full one. */
public final class WildTest {
    private static final int[] WILD = {Integer.MIN_VALUE, Integer.MIN_VALUE + 1, -1000000, -101, -100, -99, -6, -5, -2,
        -1, 0, 1, 2, 3, 4, 5, 6, 15, 16, 19, 20, 29, 30, 60, 61, 99, 100, 149, 150, 200, 201, 9999, 10000, 10001,
        100000, 100001, 1000000, Integer.MAX_VALUE - 1, Integer.MAX_VALUE};

    public static void main(String[] args) {
        callAll(new RoadTrace());
        RoadTrace used = Sentences.line();
        used.road(2, 90, Sentences.ONEWAY, 0);
        used.drive();
        used.sight(0, 0, 0, 25);
        used.sight(0, 4000, 10000, 25);
        callAll(used);
        callAll(Sentences.fullest());
        System.out.println("nothing was thrown");
    }

    private static void callAll(RoadTrace x) {
        for (int p : WILD) {
            callWithOne(x, p);
            for (int q : WILD) {
                callWithTwo(x, p, q);
                for (int r : WILD) {
                    callWithThree(x, p, q, r);
                }
            }
        }
    }

    private static void callWithOne(RoadTrace x, int p) {
        x.cost(p);
        x.list(p);
        x.check(p);
        x.toll(p);
        x.against(p);
        x.count(p);
        x.drop(p);
    }

    private static void callWithTwo(RoadTrace x, int p, int q) {
        x.knot(p, q);
        x.way(p, q);
        x.fees(p, q);
        x.prices(p, q);
        x.laid(p, q);
        x.sure(p, q);
        x.speed(p, q);
    }

    private static void callWithThree(RoadTrace x, int p, int q, int r) {
        x.bar(p, q, r);
        x.spot(p, q, r);
        x.off(p, q, r);
        x.road(p, q, r, 0);
        x.road(p, q, Sentences.TOLLED, r);
        x.sight(0, p, q, r);
    }
}
