/** A desk that lays drives onto a net of roads. The words in capitals are those of the document's terms. */
public final class RoadTrace {
    public static final int NONE = -1, FULL = -2, STATE = -3, NO_WAY = -4;

    private static final int LEFT = -5;

    private static final int MAX_KNOTS = 16;
    private static final int MAX_ROADS = 30;
    private static final int MAX_LANES = 2 * MAX_ROADS;
    private static final int MAX_DRIVES = 6;
    private static final int MAX_SIGHTS = 20;
    private static final int MAX_SPOTS = 10;

    private static final int MAX_PLACE = 99;
    private static final int MAX_LENGTH = 200;
    private static final int MAX_FEE = 99;
    private static final int MAX_TICK = 10000;
    private static final int MAX_BOUND = 60;
    private static final int MAX_FAST = 100;
    private static final int MAX_LOSS = 9999;
    private static final int MAX_SURE = 100000;

    private static final int KIND_ROAD = 0;
    private static final int KIND_ONEWAY = 1;
    private static final int KIND_TUNNEL = 2;
    private static final int KIND_TOLLED = 3;

    /** Two numbers 0 .. 99 come as one: the first times this, and the second. */
    private static final int PAIR = 100;
    private static final int POINTS_OF_ROAD = 5;
    private static final int QUARTERS = 4;

    /**
     * A WAY is one number, its LENGTH times this and its FEES, so that the lesser number is the lesser WAY.
     * A LEAST WAY goes at most 62 times onto a ROAD: FEES stay under 6139, LENGTH under 49601, all within an int.
     */
    private static final int WEIGHT = 10000;
    private static final int FAR = 2000000000;

    /** In place of a slot: no SPOT at all. */
    private static final int NO_SLOT = -1;

    private final Net net;
    private final Ways ways;
    private final Laying laying;
    private final Drive[] drives;
    private int driveCount;
    private final int[] told;
    private int toldCount;
    private final int[] costs;

    public RoadTrace() {
        net = new Net();
        ways = new Ways(net);
        laying = new Laying(net, ways);
        drives = new Drive[MAX_DRIVES];
        driveCount = 0;
        told = new int[MAX_SIGHTS];
        toldCount = 0;
        costs = new int[MAX_DRIVES];
    }

    public int knot(int x, int y) {
        if (!isWithin(x, 0, MAX_PLACE) || !isWithin(y, 0, MAX_PLACE)) {
            return NONE;
        }
        return net.addKnot(x, y);
    }

    public int road(int ends, int length, int kind, int fee) {
        int a = ends / PAIR;
        int b = ends % PAIR;
        if (!net.hasKnot(a) || !net.hasKnot(b) || a == b || !isWithin(length, 1, MAX_LENGTH)) {
            return NONE;
        }
        if (!isWithin(kind, KIND_ROAD, KIND_TOLLED) || !isFeeOfKind(fee, kind)) {
            return NONE;
        }
        forgetWays();
        return net.addRoad(a, b, length, kind, fee);
    }

    public int bar(int r, int s, int is) {
        if (!net.hasRoad(r) || !net.hasRoad(s) || !isWithin(is, 0, 1) || !net.haveCommonKnot(r, s)) {
            return NONE;
        }
        int was = net.isBarred(r, s) ? 1 : 0;
        if (was != is) {
            forgetWays();
            net.setBarred(r, s, is == 1);
        }
        return was;
    }

    public int way(int from, int to) {
        if (!net.hasPoint(from) || !net.hasPoint(to)) {
            return NONE;
        }
        int least = ways.least(from, to);
        return least == FAR ? NO_WAY : least / WEIGHT;
    }

    public int fees(int from, int to) {
        if (!net.hasPoint(from) || !net.hasPoint(to)) {
            return NONE;
        }
        int least = ways.least(from, to);
        return least == FAR ? NO_WAY : least % WEIGHT;
    }

    public int drive() {
        if (driveCount >= MAX_DRIVES) {
            return FULL;
        }
        drives[driveCount] = new Drive();
        driveCount++;
        return driveCount - 1;
    }

    public int sight(int drive, int where, int tick, int bound) {
        Drive found = findDrive(drive);
        if (found == null || !isWithin(where, 0, PAIR * PAIR - 1) || !isWithin(bound, 0, MAX_BOUND)) {
            return NONE;
        }
        if (!isWithin(tick, 0, MAX_TICK) || tick <= found.lastTick()) {
            return NONE;
        }
        laying.forget();
        return found.addSight(where / PAIR, where % PAIR, tick, bound);
    }

    public int drop(int drive) {
        Drive found = findDrive(drive);
        if (found == null) {
            return NONE;
        }
        if (found.sights == 0) {
            return STATE;
        }
        laying.forget();
        found.sights--;
        return found.sights;
    }

    public int prices(int fast, int loss) {
        if (!isWithin(fast, 1, MAX_FAST) || !isWithin(loss, 1, MAX_LOSS)) {
            return NONE;
        }
        laying.forget();
        laying.fast = fast;
        laying.loss = loss;
        return 1;
    }

    public int spot(int drive, int sight, int i) {
        Drive found = findDrive(drive);
        if (found == null || !found.hasSight(sight)) {
            return NONE;
        }
        laying.gather(found);
        int count = laying.spotCount[sight];
        if (i == -1) {
            return count;
        }
        return i >= 0 && i < count ? laying.spotPoint[sight * MAX_SPOTS + i] : NONE;
    }

    public int off(int drive, int sight, int point) {
        Drive found = findDrive(drive);
        if (found == null || !found.hasSight(sight) || !net.hasPoint(point)) {
            return NONE;
        }
        return net.offFrom(point, found.x[sight], found.y[sight]);
    }

    public int cost(int drive) {
        return laying.settle(findDrive(drive));
    }

    public int laid(int drive, int sight) {
        Drive found = findDrive(drive);
        if (found == null || !found.hasSight(sight)) {
            return NONE;
        }
        laying.settle(found);
        return laying.leastRow[sight];
    }

    public int check(int drive) {
        Drive found = findDrive(drive);
        if (found == null) {
            return NONE;
        }
        int count = toldCount;
        toldCount = 0;
        if (count != found.sights) {
            return STATE;
        }
        laying.gather(found);
        return laying.fits(told) ? laying.costOfRow(told) : STATE;
    }

    public int list(int point) {
        if (point != LEFT && !net.hasPoint(point)) {
            return NONE;
        }
        if (toldCount >= MAX_SIGHTS) {
            return FULL;
        }
        told[toldCount] = point;
        toldCount++;
        return toldCount;
    }

    public int sure(int drive, int d) {
        Drive found = findDrive(drive);
        if (found == null || !isWithin(d, 0, MAX_SURE)) {
            return NONE;
        }
        return laying.sameInEnds(laying.settle(found) + d);
    }

    public int toll(int drive) {
        Drive found = findDrive(drive);
        if (found == null) {
            return NONE;
        }
        laying.settle(found);
        return laying.feesOfLeastRow();
    }

    public int speed(int drive, int sight) {
        Drive found = findDrive(drive);
        if (found == null || !found.hasSight(sight)) {
            return NONE;
        }
        laying.settle(found);
        return laying.speedBehind(sight);
    }

    public int against(int road) {
        if (!net.hasRoad(road)) {
            return NONE;
        }
        if (net.kind[road] != KIND_ONEWAY) {
            return STATE;
        }
        for (int i = 0; i < driveCount; i++) {
            costs[i] = laying.settle(drives[i]);
        }
        changeKind(road, KIND_ROAD);
        int cheaper = 0;
        for (int i = 0; i < driveCount; i++) {
            if (laying.settle(drives[i]) < costs[i]) {
                cheaper++;
            }
        }
        changeKind(road, KIND_ONEWAY);
        return cheaper;
    }

    public int count(int what) {
        switch (what) {
            case 0:
                return net.knots;
            case 1:
                return net.roads;
            case 2:
                return driveCount;
            case 3:
                return countSights();
            case 4:
                return toldCount;
            default:
                return NONE;
        }
    }

    private static boolean isWithin(int number, int least, int most) {
        return number >= least && number <= most;
    }

    private static boolean isFeeOfKind(int fee, int kind) {
        return kind == KIND_TOLLED ? isWithin(fee, 1, MAX_FEE) : fee == 0;
    }

    private Drive findDrive(int number) {
        return number >= 0 && number < driveCount ? drives[number] : null;
    }

    private int countSights() {
        int all = 0;
        for (int i = 0; i < driveCount; i++) {
            Drive found = findDrive(i);
            if (found != null) {
                all += found.sights;
            }
        }
        return all;
    }

    private void changeKind(int road, int kind) {
        forgetWays();
        net.setKind(road, kind);
    }

    private void forgetWays() {
        ways.forget();
        laying.forget();
    }

    /**
     * KNOTS, ROADS and TURNS. A lane is a ROAD gone in one direction: 2 times the ROAD towards a, and 1 more
     * towards b. To have gone a lane is also to stand at its far KNOT on its ROAD, which is all a TURN asks.
     */
    private static final class Net {
        int knots;
        final int[] knotX = new int[MAX_KNOTS];
        final int[] knotY = new int[MAX_KNOTS];
        int roads;
        final int[] length = new int[MAX_ROADS];
        final int[] kind = new int[MAX_ROADS];
        final int[] fee = new int[MAX_ROADS];
        /** One bit for each ROAD that may not be turned onto. */
        final int[] barredOnto = new int[MAX_ROADS];
        /** The KNOT at which a lane begins; NONE if it may not be gone. */
        final int[] laneStart = new int[MAX_LANES];
        final int[] laneEnd = new int[MAX_LANES];

        boolean hasKnot(int knot) {
            return knot >= 0 && knot < knots;
        }

        boolean hasRoad(int road) {
            return road >= 0 && road < roads;
        }

        boolean hasPoint(int point) {
            return point >= 0 && point < POINTS_OF_ROAD * roads;
        }

        int addKnot(int x, int y) {
            if (knots >= MAX_KNOTS) {
                return FULL;
            }
            knotX[knots] = x;
            knotY[knots] = y;
            knots++;
            return knots - 1;
        }

        int addRoad(int a, int b, int roadLength, int roadKind, int roadFee) {
            if (roads >= MAX_ROADS) {
                return FULL;
            }
            int road = roads;
            roads++;
            length[road] = roadLength;
            fee[road] = roadFee;
            laneEnd[2 * road] = a;
            laneEnd[2 * road + 1] = b;
            laneStart[2 * road + 1] = a;
            setKind(road, roadKind);
            return road;
        }

        void setKind(int road, int roadKind) {
            kind[road] = roadKind;
            laneStart[2 * road] = roadKind == KIND_ONEWAY ? NONE : laneEnd[2 * road + 1];
        }

        boolean haveCommonKnot(int r, int s) {
            return isAtKnot(s, laneEnd[2 * r]) || isAtKnot(s, laneEnd[2 * r + 1]);
        }

        private boolean isAtKnot(int road, int knot) {
            return laneEnd[2 * road] == knot || laneEnd[2 * road + 1] == knot;
        }

        boolean isBarred(int r, int s) {
            return ((barredOnto[r] >> s) & 1) == 1;
        }

        void setBarred(int r, int s, boolean is) {
            int bit = 1 << s;
            barredOnto[r] = is ? (barredOnto[r] | bit) : (barredOnto[r] & ~bit);
        }

        int offFrom(int point, int x, int y) {
            int road = point / POINTS_OF_ROAD;
            int k = point % POINTS_OF_ROAD;
            int dx = quartersAlong(knotX[laneEnd[2 * road]], knotX[laneEnd[2 * road + 1]], k) - QUARTERS * x;
            int dy = quartersAlong(knotY[laneEnd[2 * road]], knotY[laneEnd[2 * road + 1]], k) - QUARTERS * y;
            return (dx * dx + dy * dy) / (QUARTERS * QUARTERS);
        }

        private static int quartersAlong(int a, int b, int k) {
            return QUARTERS * a + k * (b - a);
        }

        /** What it takes to go so many quarters of a ROAD; FEES are for more than 0 alone. */
        int weightOfPart(int road, int parts) {
            return parts > 0 ? parts * length[road] * WEIGHT + fee[road] : 0;
        }
    }

    /** LEAST WAYS, from tables that are made when they are first asked for and hold till the net changes. */
    private static final class Ways {
        private final Net net;
        /** For each lane gone, for each lane: the least to go in between, till the TURN onto the second one. */
        private final int[] between = new int[MAX_LANES * MAX_LANES];
        private final boolean[] isKnown = new boolean[MAX_LANES];
        private final boolean[] isDone = new boolean[MAX_LANES];

        Ways(Net net) {
            this.net = net;
        }

        void forget() {
            for (int lane = 0; lane < MAX_LANES; lane++) {
                isKnown[lane] = false;
            }
        }

        /** LENGTH and FEES of the LEAST WAY as one number, or FAR. */
        int least(int from, int to) {
            if (from == to) {
                return 0;
            }
            int road = from / POINTS_OF_ROAD;
            int k = from % POINTS_OF_ROAD;
            know(2 * road);
            know(2 * road + 1);
            int best = alongOneRoad(from, to);
            best = Math.min(best, throughTurns(2 * road + 1, net.weightOfPart(road, QUARTERS - k), to));
            // At a itself a TURN is open even on a ONEWAY, as nothing of it is gone.
            if (net.kind[road] != KIND_ONEWAY || k == 0) {
                best = Math.min(best, throughTurns(2 * road, net.weightOfPart(road, k), to));
            }
            return best;
        }

        private int alongOneRoad(int from, int to) {
            int road = from / POINTS_OF_ROAD;
            if (to / POINTS_OF_ROAD != road || (to < from && net.kind[road] == KIND_ONEWAY)) {
                return FAR;
            }
            return net.weightOfPart(road, Math.abs(to - from));
        }

        private int throughTurns(int gone, int weight, int to) {
            int road = to / POINTS_OF_ROAD;
            int k = to % POINTS_OF_ROAD;
            int towardsA = between[gone * MAX_LANES + 2 * road];
            int towardsB = between[gone * MAX_LANES + 2 * road + 1];
            int best = FAR;
            if (towardsA != FAR) {
                best = weight + towardsA + net.weightOfPart(road, QUARTERS - k);
            }
            if (towardsB != FAR) {
                best = Math.min(best, weight + towardsB + net.weightOfPart(road, k));
            }
            return best;
        }

        private void know(int gone) {
            if (isKnown[gone]) {
                return;
            }
            isKnown[gone] = true;
            int row = gone * MAX_LANES;
            int lanes = 2 * net.roads;
            for (int lane = 0; lane < lanes; lane++) {
                between[row + lane] = FAR;
                isDone[lane] = false;
            }
            turnFrom(gone, 0, row);
            for (int round = 0; round < lanes; round++) {
                int lane = nearestOpen(row, lanes);
                if (lane == NONE) {
                    break;
                }
                isDone[lane] = true;
                turnFrom(lane, between[row + lane] + net.weightOfPart(lane / 2, QUARTERS), row);
            }
        }

        private int nearestOpen(int row, int lanes) {
            int nearest = NONE;
            int best = FAR;
            for (int lane = 0; lane < lanes; lane++) {
                if (between[row + lane] < best && !isDone[lane]) {
                    nearest = lane;
                    best = between[row + lane];
                }
            }
            return nearest;
        }

        private void turnFrom(int gone, int weight, int row) {
            int knot = net.laneEnd[gone];
            int barred = net.barredOnto[gone / 2];
            int lanes = 2 * net.roads;
            for (int lane = 0; lane < lanes; lane++) {
                if (net.laneStart[lane] == knot && ((barred >> (lane / 2)) & 1) == 0 && weight < between[row + lane]) {
                    between[row + lane] = weight;
                }
            }
        }
    }

    /** The SIGHTS of a DRIVE. */
    private static final class Drive {
        int sights;
        final int[] x = new int[MAX_SIGHTS];
        final int[] y = new int[MAX_SIGHTS];
        final int[] tick = new int[MAX_SIGHTS];
        final int[] bound = new int[MAX_SIGHTS];

        boolean hasSight(int sight) {
            return sight >= 0 && sight < sights;
        }

        int lastTick() {
            return sights > 0 ? tick[sights - 1] : -1;
        }

        int addSight(int atX, int atY, int atTick, int within) {
            if (sights >= MAX_SIGHTS) {
                return FULL;
            }
            x[sights] = atX;
            y[sights] = atY;
            tick[sights] = atTick;
            bound[sights] = within;
            sights++;
            return sights - 1;
        }
    }

    /**
     * SPOTS, ENDS and LAID of one DRIVE, kept till another one is asked for or something changes.
     * A slot is 10 times a SIGHT and the place of a SPOT among those of the SIGHT.
     */
    private static final class Laying {
        int fast = 20;
        int loss = 200;
        final int[] spotCount = new int[MAX_SIGHTS];
        final int[] spotPoint = new int[MAX_SIGHTS * MAX_SPOTS];
        final int[] leastRow = new int[MAX_SIGHTS];

        private final Net net;
        private final Ways ways;
        private final int[] spotOff = new int[MAX_SIGHTS * MAX_SPOTS];
        /** For each slot: COST of the best ROW that ends there, without what is LEFT behind it. */
        private final int[] costTo = new int[MAX_SIGHTS * MAX_SPOTS];
        /** For each slot: the one ahead of it in that ROW, or NO_SLOT. */
        private final int[] slotAhead = new int[MAX_SIGHTS * MAX_SPOTS];
        private final int[] oneRow = new int[MAX_SIGHTS];
        private final int[] otherRow = new int[MAX_SIGHTS];
        private Drive gathered;
        private boolean isSettled;
        private int leastCost;
        private int sights;

        Laying(Net net, Ways ways) {
            this.net = net;
            this.ways = ways;
        }

        void forget() {
            gathered = null;
        }

        void gather(Drive drive) {
            if (gathered == drive) {
                return;
            }
            gathered = drive;
            isSettled = false;
            sights = drive.sights;
            for (int sight = 0; sight < sights; sight++) {
                findSpots(sight, drive.x[sight], drive.y[sight], drive.bound[sight]);
            }
        }

        /** Finds ENDS and LAID of a DRIVE: COST of LAID. NONE: there is no DRIVE. */
        int settle(Drive drive) {
            if (drive == null) {
                return NONE;
            }
            gather(drive);
            if (isSettled) {
                return leastCost;
            }
            for (int sight = 0; sight < sights; sight++) {
                for (int i = 0; i < spotCount[sight]; i++) {
                    findRowTo(sight, sight * MAX_SPOTS + i, drive.tick);
                }
            }
            chooseLeast();
            isSettled = true;
            return leastCost;
        }

        private void findSpots(int sight, int x, int y, int bound) {
            spotCount[sight] = 0;
            int points = POINTS_OF_ROAD * net.roads;
            for (int point = 0; point < points; point++) {
                if (net.kind[point / POINTS_OF_ROAD] != KIND_TUNNEL) {
                    int distance = net.offFrom(point, x, y);
                    if (distance <= bound * bound) {
                        addSpot(sight, point, distance);
                    }
                }
            }
        }

        /** POINTS come in order of their numbers, so of like ones the newest is the one to leave out. */
        private void addSpot(int sight, int point, int distance) {
            int first = sight * MAX_SPOTS;
            if (spotCount[sight] >= MAX_SPOTS) {
                int worst = worstSlot(first);
                if (spotOff[worst] <= distance) {
                    return;
                }
                for (int slot = worst; slot < first + MAX_SPOTS - 1; slot++) {
                    spotPoint[slot] = spotPoint[slot + 1];
                    spotOff[slot] = spotOff[slot + 1];
                }
                spotCount[sight] = MAX_SPOTS - 1;
            }
            spotPoint[first + spotCount[sight]] = point;
            spotOff[first + spotCount[sight]] = distance;
            spotCount[sight]++;
        }

        private int worstSlot(int first) {
            int worst = first;
            for (int slot = first; slot < first + MAX_SPOTS; slot++) {
                if (spotOff[slot] >= spotOff[worst]) {
                    worst = slot;
                }
            }
            return worst;
        }

        private void findRowTo(int sight, int slot, int[] tick) {
            int best = loss * sight;
            int bestAhead = NO_SLOT;
            for (int earlier = sight - 1; earlier >= 0; earlier--) {
                int lost = loss * (sight - earlier - 1);
                int most = longestLeg(tick[sight] - tick[earlier]);
                for (int i = 0; i < spotCount[earlier]; i++) {
                    int ahead = earlier * MAX_SPOTS + i;
                    int sum = costTo[ahead] + lost;
                    // A WAY only adds to the sum, so behind near SIGHTS most WAYS from far ones need no look.
                    int leg = sum > best ? NO_WAY : legLength(spotPoint[ahead], spotPoint[slot], most);
                    if (leg >= 0) {
                        sum += leg / QUARTERS;
                        if (sum < best || (sum == best && isRowFirst(ahead, bestAhead))) {
                            best = sum;
                            bestAhead = ahead;
                        }
                    }
                }
            }
            costTo[slot] = best + spotOff[slot];
            slotAhead[slot] = bestAhead;
        }

        private int longestLeg(int ticks) {
            return fast * QUARTERS * ticks;
        }

        private int legLength(int from, int to, int most) {
            int least = ways.least(from, to);
            return least == FAR || least / WEIGHT > most ? NO_WAY : least / WEIGHT;
        }

        private void chooseLeast() {
            int bestEnd = NO_SLOT;
            leastCost = costOfEnd(NO_SLOT);
            for (int sight = 0; sight < sights; sight++) {
                for (int i = 0; i < spotCount[sight]; i++) {
                    int end = sight * MAX_SPOTS + i;
                    int sum = costOfEnd(end);
                    if (sum < leastCost || (sum == leastCost && isRowFirst(end, bestEnd))) {
                        leastCost = sum;
                        bestEnd = end;
                    }
                }
            }
            writeRow(bestEnd, leastRow);
        }

        private int costOfEnd(int end) {
            return end == NO_SLOT ? loss * sights : costTo[end] + loss * (sights - 1 - end / MAX_SPOTS);
        }

        private void writeRow(int end, int[] row) {
            for (int sight = 0; sight < sights; sight++) {
                row[sight] = LEFT;
            }
            int slot = end;
            for (int step = 0; step < sights && slot != NO_SLOT; step++) {
                row[slot / MAX_SPOTS] = spotPoint[slot];
                slot = slotAhead[slot];
            }
        }

        private boolean isRowFirst(int end, int otherEnd) {
            writeRow(end, oneRow);
            writeRow(otherEnd, otherRow);
            int differs = countSame(oneRow, otherRow);
            if (differs >= sights || oneRow[differs] == LEFT) {
                return false;
            }
            return otherRow[differs] == LEFT || oneRow[differs] < otherRow[differs];
        }

        private int countSame(int[] row, int[] other) {
            int same = 0;
            while (same < sights && row[same] == other[same]) {
                same++;
            }
            return same;
        }

        /** LAID is one of the ENDS, so all say the same where each says what LAID says. */
        int sameInEnds(int most) {
            int same = costOfEnd(NO_SLOT) <= most ? sameInEnd(NO_SLOT) : sights;
            for (int sight = 0; sight < sights; sight++) {
                for (int i = 0; i < spotCount[sight]; i++) {
                    int end = sight * MAX_SPOTS + i;
                    if (costOfEnd(end) <= most) {
                        same = Math.min(same, sameInEnd(end));
                    }
                }
            }
            return same;
        }

        private int sameInEnd(int end) {
            writeRow(end, oneRow);
            return countSame(oneRow, leastRow);
        }

        boolean fits(int[] row) {
            for (int sight = 0; sight < sights; sight++) {
                if (row[sight] != LEFT && findSlot(sight, row[sight]) == NO_SLOT) {
                    return false;
                }
            }
            return true;
        }

        private int findSlot(int sight, int point) {
            for (int i = 0; i < spotCount[sight]; i++) {
                if (spotPoint[sight * MAX_SPOTS + i] == point) {
                    return sight * MAX_SPOTS + i;
                }
            }
            return NO_SLOT;
        }

        int costOfRow(int[] row) {
            int sum = 0;
            int earlier = NONE;
            for (int sight = 0; sight < sights; sight++) {
                int slot = findSlot(sight, row[sight]);
                if (slot == NO_SLOT) {
                    sum += loss;
                    continue;
                }
                sum += spotOff[slot];
                if (earlier != NONE) {
                    int leg = legLength(row[earlier], row[sight], longestLeg(ticksBetween(earlier, sight)));
                    if (leg < 0) {
                        return NO_WAY;
                    }
                    sum += leg / QUARTERS;
                }
                earlier = sight;
            }
            return sum;
        }

        private int ticksBetween(int earlier, int later) {
            return gathered == null ? 0 : gathered.tick[later] - gathered.tick[earlier];
        }

        int feesOfLeastRow() {
            int sum = 0;
            for (int sight = 0; sight < sights; sight++) {
                int next = nextNotLeft(sight);
                if (leastRow[sight] != LEFT && next != NONE) {
                    int least = ways.least(leastRow[sight], leastRow[next]);
                    sum += least == FAR ? 0 : least % WEIGHT;
                }
            }
            return sum;
        }

        int speedBehind(int sight) {
            int next = nextNotLeft(sight);
            if (leastRow[sight] == LEFT || next == NONE) {
                return STATE;
            }
            int least = ways.least(leastRow[sight], leastRow[next]);
            int ticks = ticksBetween(sight, next);
            return least == FAR || ticks <= 0 ? STATE : least / WEIGHT / (QUARTERS * ticks);
        }

        private int nextNotLeft(int sight) {
            for (int later = sight + 1; later < sights; later++) {
                if (leastRow[later] != LEFT) {
                    return later;
                }
            }
            return NONE;
        }
    }
}
