import java.util.ArrayList;
import java.util.Arrays;
import java.util.List;
import java.util.Random;

/**
 * Long runs of calls, the same ones each time, against a second desk that follows the document's words as they
 * stand: WAYS by going on till nothing gets less, ROWS by trying every one of them, or from the back where they
 * are too many.
 */
public final class OracleTest {
    private static final int NONE = -1, FULL = -2, STATE = -3, NO_WAY = -4, LEFT = -5;
    private static final int CALLS = 512;
    private static final int RUNS = 900;

    private static int calls = 0;
    private static int wrong = 0;

    public static void main(String[] args) {
        int runs = args.length > 0 ? Integer.parseInt(args[0]) : RUNS;
        int seed = args.length > 1 ? Integer.parseInt(args[1]) : 0;
        for (int run = 0; run < runs && wrong < 20; run++) {
            new Run(run, new Random(seed * 1000003L + run)).go();
        }
        System.out.println(calls - wrong + " of " + calls + " answers are as due");
        if (wrong != 0) {
            System.exit(1);
        }
    }

    /** One run of calls on both desks. */
    private static final class Run {
        final int number;
        final Random random;
        final RoadTrace desk = new RoadTrace();
        final Model model = new Model();
        final StringBuilder told = new StringBuilder();
        final int side;
        final int longest;
        final int manySights;
        final int manyRoads;
        final int[] tick = new int[6];
        int done = 0;

        Run(int number, Random random) {
            this.number = number;
            this.random = random;
            side = new int[] {4, 9, 30, 100}[random.nextInt(4)];
            longest = new int[] {2, 6, 40, 200}[random.nextInt(4)];
            manySights = number % 6 == 5 ? 20 : 4;
            manyRoads = number % 6 == 5 ? 30 : 4 + random.nextInt(8);
        }

        void go() {
            int knots = 2 + random.nextInt(manyRoads > 12 ? 14 : 5);
            for (int i = 0; i < knots; i++) {
                call("knot", random.nextInt(side), random.nextInt(side));
            }
            for (int i = 0; i < manyRoads / 2 + 1; i++) {
                randomRoad();
            }
            call("drive");
            while (done < CALLS && wrong < 20) {
                step();
            }
        }

        void step() {
            int kind = random.nextInt(100);
            if (kind < 2) {
                call("knot", wild(100), wild(100));
            } else if (kind < 6) {
                if (model.roads.size() < manyRoads) {
                    randomRoad();
                }
            } else if (kind < 14) {
                call("bar", road(), road(), random.nextInt(8) == 0 ? wild(2) : random.nextInt(2));
            } else if (kind < 24) {
                call("way", point(), point());
                call("fees", point(), point());
            } else if (kind < 26) {
                if (model.drives.size() < 3 || random.nextInt(4) == 0) {
                    call("drive");
                }
            } else if (kind < 42) {
                randomSight();
            } else if (kind < 45) {
                call("drop", drive());
            } else if (kind < 48) {
                call("prices", 1 + random.nextInt(random.nextBoolean() ? 100 : 5),
                    1 + random.nextInt(random.nextBoolean() ? 300 : 20));
            } else if (kind < 49) {
                call("prices", wild(100), wild(9999));
            } else {
                ask(kind);
            }
        }

        void ask(int kind) {
            if (kind < 55) {
                call("spot", drive(), sight(), random.nextInt(12) - 1);
            } else if (kind < 59) {
                call("off", drive(), sight(), point());
            } else if (kind < 63) {
                call("cost", drive());
            } else if (kind < 70) {
                call("laid", drive(), sight());
            } else if (kind < 77) {
                randomRow();
            } else if (kind < 78) {
                call("check", wild(3));
                call("list", wild(150));
            } else if (kind < 86) {
                call("sure", drive(), random.nextInt(10) == 0 ? wild(100000)
                    : random.nextInt(new int[] {1, 5, 50, 500, 5000}[random.nextInt(5)]));
            } else if (kind < 89) {
                call("toll", drive());
            } else if (kind < 94) {
                call("speed", drive(), sight());
            } else if (kind < 97) {
                call("against", road());
            } else {
                call("count", random.nextInt(7) - 1);
            }
        }

        void randomRoad() {
            int knots = model.knots.size();
            int kind = random.nextInt(4);
            int fee = kind == 3 ? 1 + random.nextInt(random.nextBoolean() ? 3 : 99) : 0;
            if (random.nextInt(15) == 0) {
                call("road", wild(1516), wild(200), wild(4), wild(99));
            } else {
                call("road", 100 * random.nextInt(knots) + random.nextInt(knots), 1 + random.nextInt(longest), kind, fee);
            }
        }

        void randomSight() {
            int drive = drive();
            if (random.nextInt(15) == 0) {
                call("sight", drive, wild(9999), wild(10000), wild(60));
                return;
            }
            if (drive >= 0 && drive < model.drives.size()) {
                if (model.drives.get(drive).size() >= manySights && manySights < 20) {
                    return;
                }
                tick[drive] = Math.min(10000, tick[drive] + random.nextInt(random.nextBoolean() ? 4 : 40));
            }
            int where = 100 * random.nextInt(side) + random.nextInt(side);
            int at = drive >= 0 && drive < 6 ? tick[drive] : 0;
            call("sight", drive, where, at, random.nextInt(random.nextBoolean() ? 61 : 6));
        }

        void randomRow() {
            int drive = drive();
            if (drive < 0 || drive >= model.drives.size()) {
                call("check", drive);
                return;
            }
            int sights = model.drives.get(drive).size();
            int many = random.nextInt(12) == 0 ? random.nextInt(22) : sights;
            boolean asLaid = random.nextInt(3) == 0;
            // A row that does not fit and has no way is told apart by one reading of the document alone.
            boolean mayNotFit = random.nextInt(6) == 0;
            for (int i = 0; i < many; i++) {
                int point = random.nextInt(4) == 0 ? LEFT : mayNotFit ? point() : spotOf(drive, i);
                call("list", asLaid && i < sights ? model.laid(drive, i) : point);
            }
            call("check", drive);
        }

        int spotOf(int drive, int sight) {
            int many = model.spot(drive, sight, -1);
            return many > 0 ? model.spot(drive, sight, random.nextInt(many)) : LEFT;
        }

        int wild(int most) {
            int which = random.nextInt(12);
            return which == 0 ? -1 : which == 1 ? most + 1 : which == 2 ? Integer.MIN_VALUE
                : which == 3 ? Integer.MAX_VALUE : which == 4 ? 0 : which == 5 ? most : random.nextInt(most + 1);
        }

        int drive() {
            return random.nextInt(30) == 0 ? wild(6) : random.nextInt(model.drives.size());
        }

        int sight() {
            return random.nextInt(30) == 0 ? wild(20) : random.nextInt(manySights);
        }

        int road() {
            return random.nextInt(30) == 0 ? wild(29) : random.nextInt(Math.max(1, model.roads.size()));
        }

        int point() {
            return random.nextInt(40) == 0 ? wild(149) : random.nextInt(Math.max(1, 5 * model.roads.size()));
        }

        void call(String name, int... with) {
            if (done >= CALLS) {
                return;
            }
            done++;
            calls++;
            int got = Calls.ofDesk(desk, name, with);
            int want = Calls.ofModel(model, name, with);
            String row = name + Arrays.toString(with) + " answered " + got;
            told.append("  ").append(row).append('\n');
            if (got != want) {
                wrong++;
                System.out.println("run " + number + ":\n" + (wrong == 1 ? told.toString() : "") + row + ", due is " + want);
            }
        }
    }

    private static final class Calls {
        static int ofDesk(RoadTrace x, String name, int[] p) {
            switch (name) {
                case "knot": return x.knot(p[0], p[1]);
                case "road": return x.road(p[0], p[1], p[2], p[3]);
                case "bar": return x.bar(p[0], p[1], p[2]);
                case "way": return x.way(p[0], p[1]);
                case "fees": return x.fees(p[0], p[1]);
                case "drive": return x.drive();
                case "sight": return x.sight(p[0], p[1], p[2], p[3]);
                case "drop": return x.drop(p[0]);
                case "prices": return x.prices(p[0], p[1]);
                case "spot": return x.spot(p[0], p[1], p[2]);
                case "off": return x.off(p[0], p[1], p[2]);
                case "cost": return x.cost(p[0]);
                case "laid": return x.laid(p[0], p[1]);
                case "check": return x.check(p[0]);
                case "list": return x.list(p[0]);
                case "sure": return x.sure(p[0], p[1]);
                case "toll": return x.toll(p[0]);
                case "speed": return x.speed(p[0], p[1]);
                case "against": return x.against(p[0]);
                default: return x.count(p[0]);
            }
        }

        static int ofModel(Model x, String name, int[] p) {
            switch (name) {
                case "knot": return x.knot(p[0], p[1]);
                case "road": return x.road(p[0], p[1], p[2], p[3]);
                case "bar": return x.bar(p[0], p[1], p[2]);
                case "way": return x.way(p[0], p[1]);
                case "fees": return x.fees(p[0], p[1]);
                case "drive": return x.drive();
                case "sight": return x.sight(p[0], p[1], p[2], p[3]);
                case "drop": return x.drop(p[0]);
                case "prices": return x.prices(p[0], p[1]);
                case "spot": return x.spot(p[0], p[1], p[2]);
                case "off": return x.off(p[0], p[1], p[2]);
                case "cost": return x.cost(p[0]);
                case "laid": return x.laid(p[0], p[1]);
                case "check": return x.check(p[0]);
                case "list": return x.list(p[0]);
                case "sure": return x.sure(p[0], p[1]);
                case "toll": return x.toll(p[0]);
                case "speed": return x.speed(p[0], p[1]);
                case "against": return x.against(p[0]);
                default: return x.count(p[0]);
            }
        }
    }

    private record Knot(int x, int y) { }

    private record Road(int a, int b, int length, int kind, int fee) {
        boolean mayGoFrom(int knot) {
            return knot == a || (knot == b && kind != 1);
        }

        int otherEnd(int knot) {
            return knot == a ? b : a;
        }

        int placeOf(int knot) {
            return knot == a ? 0 : 4;
        }
    }

    private record Sight(int x, int y, int tick, int bound) { }

    private record Row(int cost, int[] points) implements Comparable<Row> {
        @Override
        public int compareTo(Row other) {
            if (cost != other.cost) {
                return Integer.compare(cost, other.cost);
            }
            for (int i = 0; i < points.length; i++) {
                if (points[i] != other.points[i]) {
                    int one = points[i] == LEFT ? 1000 : points[i];
                    return Integer.compare(one, other.points[i] == LEFT ? 1000 : other.points[i]);
                }
            }
            return 0;
        }
    }

    /** The document, read slowly. */
    private static final class Model {
        final List<Knot> knots = new ArrayList<>();
        final List<Road> roads = new ArrayList<>();
        final List<List<Sight>> drives = new ArrayList<>();
        final List<Integer> list = new ArrayList<>();
        final boolean[][] barred = new boolean[30][30];
        final long[][][] known = new long[150][][];
        final List<List<Row>> ends = new ArrayList<>(Arrays.asList(null, null, null, null, null, null));
        int fast = 20;
        int loss = 200;

        void changed() {
            Arrays.fill(known, null);
            for (int i = 0; i < 6; i++) {
                ends.set(i, null);
            }
        }

        static boolean in(int number, int least, int most) {
            return least <= number && number <= most;
        }

        boolean isPoint(int point) {
            return in(point, 0, 5 * roads.size() - 1);
        }

        boolean isSight(int drive, int sight) {
            return in(drive, 0, drives.size() - 1) && in(sight, 0, drives.get(drive).size() - 1);
        }

        int knot(int x, int y) {
            if (!in(x, 0, 99) || !in(y, 0, 99)) {
                return NONE;
            }
            if (knots.size() == 16) {
                return FULL;
            }
            knots.add(new Knot(x, y));
            return knots.size() - 1;
        }

        int road(int ends, int length, int kind, int fee) {
            int last = knots.size() - 1;
            if (ends < 0 || !in(ends / 100, 0, last) || !in(ends % 100, 0, last) || ends / 100 == ends % 100) {
                return NONE;
            }
            if (!in(length, 1, 200) || !in(kind, 0, 3) || !(kind == 3 ? in(fee, 1, 99) : fee == 0)) {
                return NONE;
            }
            if (roads.size() == 30) {
                return FULL;
            }
            changed();
            roads.add(new Road(ends / 100, ends % 100, length, kind, fee));
            return roads.size() - 1;
        }

        int bar(int r, int s, int is) {
            int last = roads.size() - 1;
            if (!in(r, 0, last) || !in(s, 0, last) || !in(is, 0, 1)) {
                return NONE;
            }
            Road one = roads.get(r);
            Road other = roads.get(s);
            if (one.a != other.a && one.a != other.b && one.b != other.a && one.b != other.b) {
                return NONE;
            }
            int was = barred[r][s] ? 1 : 0;
            barred[r][s] = is == 1;
            changed();
            return was;
        }

        /** Length and fees of the least way, or null. */
        long[] least(int from, int to) {
            if (known[from] == null) {
                known[from] = leastToAll(from);
            }
            return known[from][to];
        }

        long[][] leastToAll(int from) {
            long[][] best = new long[5 * roads.size()][];
            // stands[r][e]: what it took to come along r to its knot a (e is 0) or b (e is 1).
            long[][][] stands = new long[roads.size()][2][];
            int r = from / 5;
            int k = from % 5;
            Road first = roads.get(r);
            for (int to = 5 * r; to < 5 * r + 5; to++) {
                if (to > from || first.kind != 1) {
                    take(best, to, part(first, Math.abs(to - from)));
                }
            }
            take(stands[r], 1, part(first, 4 - k));
            if (first.kind != 1 || k == 0) {
                take(stands[r], 0, part(first, k));
            }
            boolean changes = true;
            while (changes) {
                changes = false;
                for (int on = 0; on < roads.size(); on++) {
                    for (int e = 0; e < 2; e++) {
                        if (stands[on][e] != null) {
                            changes |= goOn(on, e == 0 ? roads.get(on).a : roads.get(on).b, stands[on][e], stands, best);
                        }
                    }
                }
            }
            best[from] = new long[] {0, 0};
            return best;
        }

        boolean goOn(int on, int knot, long[] so, long[][][] stands, long[][] best) {
            boolean changes = false;
            for (int s = 0; s < roads.size(); s++) {
                Road next = roads.get(s);
                if ((next.a == knot || next.b == knot) && next.mayGoFrom(knot) && !barred[on][s]) {
                    for (int k = 0; k < 5; k++) {
                        take(best, 5 * s + k, plus(so, part(next, Math.abs(k - next.placeOf(knot)))));
                    }
                    changes |= take(stands[s], next.otherEnd(knot) == next.a ? 0 : 1, plus(so, part(next, 4)));
                }
            }
            return changes;
        }

        static long[] part(Road road, int parts) {
            return new long[] {(long) parts * road.length, parts > 0 ? road.fee : 0};
        }

        static long[] plus(long[] one, long[] other) {
            return new long[] {one[0] + other[0], one[1] + other[1]};
        }

        static boolean take(long[][] into, int at, long[] way) {
            long[] had = into[at];
            if (had == null || way[0] < had[0] || (way[0] == had[0] && way[1] < had[1])) {
                into[at] = way;
                return true;
            }
            return false;
        }

        int way(int from, int to) {
            if (!isPoint(from) || !isPoint(to)) {
                return NONE;
            }
            return least(from, to) == null ? NO_WAY : (int) least(from, to)[0];
        }

        int fees(int from, int to) {
            if (!isPoint(from) || !isPoint(to)) {
                return NONE;
            }
            return least(from, to) == null ? NO_WAY : (int) least(from, to)[1];
        }

        int drive() {
            if (drives.size() == 6) {
                return FULL;
            }
            drives.add(new ArrayList<>());
            return drives.size() - 1;
        }

        int sight(int drive, int where, int tick, int bound) {
            if (!in(drive, 0, drives.size() - 1) || !in(where, 0, 9999) || !in(tick, 0, 10000) || !in(bound, 0, 60)) {
                return NONE;
            }
            List<Sight> sights = drives.get(drive);
            if (!sights.isEmpty() && tick <= sights.get(sights.size() - 1).tick) {
                return NONE;
            }
            if (sights.size() == 20) {
                return FULL;
            }
            sights.add(new Sight(where / 100, where % 100, tick, bound));
            ends.set(drive, null);
            return sights.size() - 1;
        }

        int drop(int drive) {
            if (!in(drive, 0, drives.size() - 1)) {
                return NONE;
            }
            List<Sight> sights = drives.get(drive);
            if (sights.isEmpty()) {
                return STATE;
            }
            sights.remove(sights.size() - 1);
            ends.set(drive, null);
            return sights.size();
        }

        int prices(int fast, int loss) {
            if (!in(fast, 1, 100) || !in(loss, 1, 9999)) {
                return NONE;
            }
            this.fast = fast;
            this.loss = loss;
            changed();
            return 1;
        }

        int offOf(Sight sight, int point) {
            Road road = roads.get(point / 5);
            Knot a = knots.get(road.a);
            Knot b = knots.get(road.b);
            double x = a.x + point % 5 * 0.25 * (b.x - a.x) - sight.x;
            double y = a.y + point % 5 * 0.25 * (b.y - a.y) - sight.y;
            return (int) Math.floor(x * x + y * y);
        }

        List<Integer> spotsOf(Sight sight) {
            List<Integer> near = new ArrayList<>();
            for (int point = 0; point < 5 * roads.size(); point++) {
                if (roads.get(point / 5).kind != 2 && offOf(sight, point) <= sight.bound * sight.bound) {
                    near.add(point);
                }
            }
            near.sort((one, other) -> offOf(sight, one) != offOf(sight, other)
                ? Integer.compare(offOf(sight, one), offOf(sight, other)) : Integer.compare(one, other));
            List<Integer> spots = new ArrayList<>(near.subList(0, Math.min(10, near.size())));
            spots.sort(Integer::compare);
            return spots;
        }

        int spot(int drive, int sight, int i) {
            if (!isSight(drive, sight)) {
                return NONE;
            }
            List<Integer> spots = spotsOf(drives.get(drive).get(sight));
            return i == -1 ? spots.size() : in(i, 0, spots.size() - 1) ? spots.get(i) : NONE;
        }

        int off(int drive, int sight, int point) {
            return isSight(drive, sight) && isPoint(point) ? offOf(drives.get(drive).get(sight), point) : NONE;
        }

        /** What it costs to go from a point at a sight to one at a later sight; NONE if that may not be. */
        int legCost(Sight one, int from, Sight other, int to) {
            long[] way = least(from, to);
            return way == null || way[0] > fast * 4L * (other.tick - one.tick) ? NONE : (int) (way[0] / 4);
        }

        /** COST of a row, or NONE if one of its ways may not be. */
        int costOf(List<Sight> sights, int[] points) {
            int sum = 0;
            int last = -1;
            for (int i = 0; i < points.length; i++) {
                if (points[i] == LEFT) {
                    sum += loss;
                    continue;
                }
                sum += offOf(sights.get(i), points[i]);
                if (last >= 0) {
                    int leg = legCost(sights.get(last), points[last], sights.get(i), points[i]);
                    if (leg == NONE) {
                        return NONE;
                    }
                    sum += leg;
                }
                last = i;
            }
            return sum;
        }

        List<Row> endsOf(int drive) {
            if (ends.get(drive) == null) {
                List<Sight> sights = drives.get(drive);
                ends.set(drive, sights.size() <= 4 ? endsByAllRows(sights) : new FromTheBack(this, sights).ends());
            }
            return ends.get(drive);
        }

        List<Row> endsByAllRows(List<Sight> sights) {
            List<List<Integer>> choices = new ArrayList<>();
            for (Sight sight : sights) {
                List<Integer> choice = new ArrayList<>(spotsOf(sight));
                choice.add(LEFT);
                choices.add(choice);
            }
            Row[] best = new Row[sights.size() * 150 + 1];
            tryRows(sights, choices, new int[sights.size()], 0, best);
            List<Row> found = new ArrayList<>();
            for (Row row : best) {
                if (row != null) {
                    found.add(row);
                }
            }
            return found;
        }

        void tryRows(List<Sight> sights, List<List<Integer>> choices, int[] points, int at, Row[] best) {
            if (at < points.length) {
                for (int point : choices.get(at)) {
                    points[at] = point;
                    tryRows(sights, choices, points, at + 1, best);
                }
                return;
            }
            int cost = costOf(sights, points);
            if (cost == NONE) {
                return;
            }
            int end = best.length - 1;
            for (int i = 0; i < points.length; i++) {
                end = points[i] == LEFT ? end : i * 150 + points[i];
            }
            if (best[end] == null || cost <= best[end].cost) {
                Row row = new Row(cost, points.clone());
                if (best[end] == null || row.compareTo(best[end]) < 0) {
                    best[end] = row;
                }
            }
        }

        Row laidOf(int drive) {
            Row least = null;
            for (Row row : endsOf(drive)) {
                if (least == null || row.compareTo(least) < 0) {
                    least = row;
                }
            }
            return least;
        }

        int cost(int drive) {
            return in(drive, 0, drives.size() - 1) ? laidOf(drive).cost : NONE;
        }

        int laid(int drive, int sight) {
            return isSight(drive, sight) ? laidOf(drive).points[sight] : NONE;
        }

        int check(int drive) {
            if (!in(drive, 0, drives.size() - 1)) {
                return NONE;
            }
            int[] points = new int[list.size()];
            for (int i = 0; i < points.length; i++) {
                points[i] = list.get(i);
            }
            list.clear();
            List<Sight> sights = drives.get(drive);
            if (points.length != sights.size()) {
                return STATE;
            }
            for (int i = 0; i < points.length; i++) {
                if (points[i] != LEFT && !spotsOf(sights.get(i)).contains(points[i])) {
                    return STATE;
                }
            }
            int cost = costOf(sights, points);
            return cost == NONE ? NO_WAY : cost;
        }

        int list(int point) {
            if (point != LEFT && !isPoint(point)) {
                return NONE;
            }
            if (list.size() == 20) {
                return FULL;
            }
            list.add(point);
            return list.size();
        }

        int sure(int drive, int d) {
            if (!in(drive, 0, drives.size() - 1) || !in(d, 0, 100000)) {
                return NONE;
            }
            int[] first = null;
            int same = drives.get(drive).size();
            int most = laidOf(drive).cost + d;
            for (Row row : endsOf(drive)) {
                if (row.cost <= most) {
                    first = first == null ? row.points : first;
                    int differs = Arrays.mismatch(first, row.points);
                    same = differs < 0 ? same : Math.min(same, differs);
                }
            }
            return same;
        }

        int nextOf(int[] points, int sight) {
            for (int i = sight + 1; i < points.length; i++) {
                if (points[i] != LEFT) {
                    return i;
                }
            }
            return -1;
        }

        int toll(int drive) {
            if (!in(drive, 0, drives.size() - 1)) {
                return NONE;
            }
            int[] points = laidOf(drive).points;
            int sum = 0;
            for (int i = 0; i < points.length; i++) {
                if (points[i] != LEFT && nextOf(points, i) >= 0) {
                    sum += (int) least(points[i], points[nextOf(points, i)])[1];
                }
            }
            return sum;
        }

        int speed(int drive, int sight) {
            if (!isSight(drive, sight)) {
                return NONE;
            }
            int[] points = laidOf(drive).points;
            int next = nextOf(points, sight);
            if (points[sight] == LEFT || next < 0) {
                return STATE;
            }
            List<Sight> sights = drives.get(drive);
            return (int) least(points[sight], points[next])[0] / (4 * (sights.get(next).tick - sights.get(sight).tick));
        }

        int against(int road) {
            if (!in(road, 0, roads.size() - 1)) {
                return NONE;
            }
            Road was = roads.get(road);
            if (was.kind != 1) {
                return STATE;
            }
            int[] costs = new int[6];
            for (int i = 0; i < drives.size(); i++) {
                costs[i] = cost(i);
            }
            roads.set(road, new Road(was.a, was.b, was.length, 0, 0));
            changed();
            int less = 0;
            for (int i = 0; i < drives.size(); i++) {
                less += cost(i) < costs[i] ? 1 : 0;
            }
            roads.set(road, was);
            changed();
            return less;
        }

        int count(int what) {
            int sights = 0;
            for (List<Sight> drive : drives) {
                sights += drive.size();
            }
            int[] all = {knots.size(), roads.size(), drives.size(), sights, list.size()};
            return in(what, 0, 4) ? all[what] : NONE;
        }
    }

    /** ENDS of a drive with many sights: the least rest behind each choice, then the first choice that keeps to it. */
    private static final class FromTheBack {
        private static final int NEVER = 100000000;
        final Model model;
        final List<Sight> sights;
        final List<List<Integer>> spots = new ArrayList<>();
        final int[][][][] legs;

        FromTheBack(Model model, List<Sight> sights) {
            this.model = model;
            this.sights = sights;
            for (Sight sight : sights) {
                spots.add(model.spotsOf(sight));
            }
            legs = new int[sights.size()][sights.size()][10][10];
            for (int i = 0; i < sights.size(); i++) {
                for (int j = i + 1; j < sights.size(); j++) {
                    for (int p = 0; p < spots.get(i).size(); p++) {
                        for (int q = 0; q < spots.get(j).size(); q++) {
                            int leg = model.legCost(sights.get(i), spots.get(i).get(p), sights.get(j), spots.get(j).get(q));
                            legs[i][j][p][q] = leg == NONE ? NEVER : leg;
                        }
                    }
                }
            }
        }

        List<Row> ends() {
            List<Row> found = new ArrayList<>();
            int[] none = new int[sights.size()];
            Arrays.fill(none, LEFT);
            found.add(new Row(model.loss * none.length, none));
            for (int i = 0; i < sights.size(); i++) {
                for (int p = 0; p < spots.get(i).size(); p++) {
                    found.add(endAt(i, p));
                }
            }
            return found;
        }

        /** rest[j][q]: the least from sight j with its spot q up to the end, what is LEFT behind j too. */
        Row endAt(int end, int spot) {
            int[][] rest = new int[end + 1][10];
            rest[end][spot] = offOf(end, spot) + model.loss * (sights.size() - 1 - end);
            for (int i = end - 1; i >= 0; i--) {
                for (int p = 0; p < spots.get(i).size(); p++) {
                    rest[i][p] = NEVER;
                    for (int j = i + 1; j <= end; j++) {
                        rest[i][p] = Math.min(rest[i][p], offOf(i, p) + onTo(i, p, j, end, spot, rest));
                    }
                }
            }
            return firstRow(end, spot, rest);
        }

        int onTo(int i, int p, int j, int end, int spot, int[][] rest) {
            int best = NEVER;
            for (int q = 0; q < spots.get(j).size(); q++) {
                if (j < end || q == spot) {
                    int leg = i < 0 ? 0 : legs[i][j][p][q];
                    best = Math.min(best, leg + model.loss * (j - i - 1) + rest[j][q]);
                }
            }
            return best;
        }

        Row firstRow(int end, int spot, int[][] rest) {
            int least = NEVER;
            for (int j = 0; j <= end; j++) {
                least = Math.min(least, onTo(-1, 0, j, end, spot, rest));
            }
            int[] points = new int[sights.size()];
            Arrays.fill(points, LEFT);
            int i = -1;
            int p = 0;
            int due = least;
            for (int j = 0; j <= end; j++) {
                for (int q = 0; q < spots.get(j).size(); q++) {
                    int leg = i < 0 ? 0 : legs[i][j][p][q];
                    if ((j < end || q == spot) && leg + model.loss * (j - i - 1) + rest[j][q] == due) {
                        points[j] = spots.get(j).get(q);
                        due = rest[j][q] - offOf(j, q);
                        i = j;
                        p = q;
                        break;
                    }
                }
            }
            return new Row(least, points);
        }

        int offOf(int sight, int spot) {
            return model.offOf(sights.get(sight), spots.get(sight).get(spot));
        }
    }
}
