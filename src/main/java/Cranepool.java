import java.util.Arrays;
import java.util.NoSuchElementException;

public final class Cranepool {
    private static final int SIDE = 40;
    private static final int FARTHEST = 56;
    private static final int SQUARE_SIDE = 5;
    private static final int SQUARES_IN_ROW = 8;
    private static final int MOST_RADIUS = 40;
    private static final int MOST_WEIGHT = 999;
    private static final int MOST_MOMENT = 9999;
    private static final int MOST_WIND = 40;
    private static final int STORM = 20;
    private static final int MOST_CRANES = 5;
    private static final int MOST_LIFTS = 40;
    private static final int MOST_POURS = 6;
    private static final int FEWEST_LOADS = 2;
    private static final int MOST_LOADS = 8;
    private static final int HOUR = 60;
    private static final int HOURS = 24;
    private static final int DAY = 1440;
    private static final int MOST_PASS = 240;
    private static final int NONE = -1;

    private static final char WAITS = 'w';
    private static final char PLANNED = 'p';
    private static final char UNDER_WAY = 'u';
    private static final char DONE = 'd';
    private static final char FREE = '-';

    private static final class Crane {
        final int column;
        final int row;
        final int radius;
        final int weight;
        final int moment;
        // Bit n stands for a permit for the hour n.
        int permits;

        Crane(int column, int row, int radius, int weight, int moment) {
            this.column = column;
            this.row = row;
            this.radius = radius;
            this.weight = weight;
            this.moment = moment;
        }

        int squareTo(int toColumn, int toRow) {
            int columns = toColumn - column;
            int rows = toRow - row;
            return columns * columns + rows * rows;
        }

        boolean reaches(int toColumn, int toRow) {
            return squareTo(toColumn, toRow) <= radius * radius;
        }

        boolean reachesEnds(Lift lift) {
            return reaches(lift.column, lift.row) && reaches(lift.toColumn, lift.toRow);
        }

        int strengthAt(int toColumn, int toRow, int wind) {
            if (wind > STORM) {
                return 0;
            }
            int square = squareTo(toColumn, toRow);
            int distance = 1;
            while (distance < FARTHEST && distance * distance < square) {
                distance++;
            }
            return Math.min(weight, moment / distance) * (100 - 3 * wind) / 100;
        }

        boolean bearsAtEnds(Lift lift, int wind) {
            return lift.weight <= strengthAt(lift.column, lift.row, wind)
                && lift.weight <= strengthAt(lift.toColumn, lift.toRow, wind);
        }

        boolean hasHour(int hour) {
            return ((permits >> hour) & 1) == 1;
        }

        /** The last hour from start to end (this one not included) that has no permit, -1 if each has one. */
        int lastClosedHour(int start, int end) {
            for (int hour = (end - 1) / HOUR; hour >= start / HOUR; hour--) {
                if (!hasHour(hour)) {
                    return hour;
                }
            }
            return NONE;
        }

        int minutesAllowed() {
            return Integer.bitCount(permits) * HOUR;
        }
    }

    private static final class Lift {
        final int column;
        final int row;
        final int toColumn;
        final int toRow;
        final int weight;
        final int minutes;
        final int pour;
        final long air;
        char state = WAITS;
        int crane = NONE;
        int start = NONE;

        Lift(int column, int row, int toColumn, int toRow, int weight, int minutes, int pour) {
            this.column = column;
            this.row = row;
            this.toColumn = toColumn;
            this.toRow = toRow;
            this.weight = weight;
            this.minutes = minutes;
            this.pour = pour;
            this.air = airBetween(column, row, toColumn, toRow);
        }

        int end() {
            return start + minutes;
        }

        boolean hasCrane() {
            return state != WAITS;
        }

        boolean isOn(int number) {
            return hasCrane() && crane == number;
        }

        boolean meets(int from, int behind) {
            return hasCrane() && start < behind && from < end();
        }

        boolean sharesAir(Lift other) {
            return (air & other.air) != 0;
        }

        void put(int number, int minute) {
            state = PLANNED;
            crane = number;
            start = minute;
        }

        void takeBack() {
            state = WAITS;
            crane = NONE;
            start = NONE;
        }
    }

    private static final class Pour {
        final int first;
        final int loads;
        final int wait;

        Pour(int first, int loads, int wait) {
            this.first = first;
            this.loads = loads;
            this.wait = wait;
        }
    }

    // Each row is filled from the front; behind its count it holds null.
    private final Crane[] cranes = new Crane[MOST_CRANES];
    private final Lift[] lifts = new Lift[MOST_LIFTS];
    private final Pour[] pours = new Pour[MOST_POURS];
    private int craneCount;
    private int liftCount;
    private int pourCount;
    private int wind;
    private int present;
    // Both are filled anew by each call that needs them, so that calls make no rows.
    private final int[] rowStarts = new int[MOST_LOADS];
    private final int[] dayRow = new int[DAY];

    public Cranepool() {
    }

    public int addCrane(int column, int row, int radius, int weight, int moment)
        throws IllegalArgumentException, IllegalStateException {
        if (!isPlace(column, row) || !isFrom(1, radius, MOST_RADIUS)
            || !isFrom(1, weight, MOST_WEIGHT) || !isFrom(1, moment, MOST_MOMENT)) {
            throw new IllegalArgumentException();
        }
        if (craneCount >= cranes.length) {
            throw new IllegalStateException();
        }
        cranes[craneCount] = new Crane(column, row, radius, weight, moment);
        craneCount++;
        return craneCount - 1;
    }

    public int permit(int crane, int hour, int hours) throws NoSuchElementException, IllegalArgumentException {
        Crane hook = craneNumbered(crane);
        if (hook == null) {
            throw new NoSuchElementException();
        }
        if (!areHours(hour, hours)) {
            throw new IllegalArgumentException();
        }
        hook.permits |= bitsOfHours(hour, hours);
        return Integer.bitCount(hook.permits);
    }

    public int endPermit(int crane, int hour, int hours) throws NoSuchElementException, IllegalArgumentException {
        Crane hook = craneNumbered(crane);
        if (hook == null) {
            throw new NoSuchElementException();
        }
        if (!areHours(hour, hours)) {
            throw new IllegalArgumentException();
        }
        hook.permits &= ~bitsOfHours(hour, hours);
        return takeBackUnfit();
    }

    public int setWind(int wind) throws IllegalArgumentException {
        if (!isFrom(0, wind, MOST_WIND)) {
            throw new IllegalArgumentException();
        }
        this.wind = wind;
        return takeBackUnfit();
    }

    public int addLift(int column, int row, int toColumn, int toRow, int weight, int minutes)
        throws IllegalArgumentException, IllegalStateException {
        if (!isPlace(column, row) || !isPlace(toColumn, toRow) || !isBurden(weight, minutes)) {
            throw new IllegalArgumentException();
        }
        if (liftCount >= lifts.length) {
            throw new IllegalStateException();
        }
        keepLift(new Lift(column, row, toColumn, toRow, weight, minutes, NONE));
        return liftCount - 1;
    }

    public int addPour(int column, int row, int toColumn, int toRow, int weight, int minutes, int lifts, int wait)
        throws IllegalArgumentException, IllegalStateException {
        if (!isPlace(column, row) || !isPlace(toColumn, toRow) || !isBurden(weight, minutes)
            || !isFrom(FEWEST_LOADS, lifts, MOST_LOADS) || !isFrom(0, wait, HOUR)) {
            throw new IllegalArgumentException();
        }
        if (pourCount >= pours.length || liftCount + lifts > this.lifts.length) {
            throw new IllegalStateException();
        }
        pours[pourCount] = new Pour(liftCount, lifts, wait);
        for (int load = 0; load < lifts; load++) {
            keepLift(new Lift(column, row, toColumn, toRow, weight, minutes, pourCount));
        }
        pourCount++;
        return pourCount - 1;
    }

    public int plan(int lift, int crane)
        throws NoSuchElementException, IllegalStateException, UnsupportedOperationException {
        Lift load = liftNumbered(lift);
        if (load == null || craneNumbered(crane) == null) {
            throw new NoSuchElementException();
        }
        if (load.state != WAITS || load.pour != NONE) {
            throw new IllegalStateException();
        }
        int start = firstFit(load, crane, present);
        if (start == NONE) {
            throw new UnsupportedOperationException();
        }
        load.put(crane, start);
        return start;
    }

    public int planAt(int lift, int crane, int minute)
        throws NoSuchElementException, IllegalStateException, UnsupportedOperationException {
        Lift load = liftNumbered(lift);
        if (load == null || craneNumbered(crane) == null) {
            throw new NoSuchElementException();
        }
        if (load.state != WAITS || load.pour != NONE) {
            throw new IllegalStateException();
        }
        if (obstacle(load, crane, minute) != FREE) {
            throw new UnsupportedOperationException();
        }
        load.put(crane, minute);
        return load.end();
    }

    public int planPour(int pour, int crane)
        throws NoSuchElementException, IllegalStateException, UnsupportedOperationException {
        Pour row = pourNumbered(pour);
        if (row == null || craneNumbered(crane) == null) {
            throw new NoSuchElementException();
        }
        if (countOfPour(pour, WAITS) < row.loads) {
            throw new IllegalStateException();
        }
        if (!findRowStarts(row, crane)) {
            throw new UnsupportedOperationException();
        }
        for (int load = 0; load < row.loads && load < rowStarts.length; load++) {
            Lift lift = liftNumbered(row.first + load);
            if (lift != null) {
                lift.put(crane, rowStarts[load]);
            }
        }
        return rowStarts[0];
    }

    public int unplan(int lift) throws NoSuchElementException, IllegalStateException {
        Lift load = liftNumbered(lift);
        if (load == null) {
            throw new NoSuchElementException();
        }
        if (load.state != PLANNED) {
            throw new IllegalStateException();
        }
        if (load.pour == NONE) {
            load.takeBack();
            return 1;
        }
        int count = 0;
        for (Lift other : lifts) {
            if (other != null && other.pour == load.pour && other.state == PLANNED) {
                other.takeBack();
                count++;
            }
        }
        return count;
    }

    public int pass(int minutes) throws IllegalArgumentException, IllegalStateException {
        if (!isFrom(1, minutes, MOST_PASS)) {
            throw new IllegalArgumentException();
        }
        if (present + minutes > DAY) {
            throw new IllegalStateException();
        }
        // What a lift becomes depends on the present minute alone, so that all minutes pass at once.
        present += minutes;
        int done = 0;
        for (Lift lift : lifts) {
            if (lift != null && (lift.state == PLANNED || lift.state == UNDER_WAY)) {
                if (lift.end() <= present) {
                    lift.state = DONE;
                    done++;
                } else if (lift.start < present) {
                    lift.state = UNDER_WAY;
                }
            }
        }
        return done;
    }

    public int now() {
        return present;
    }

    public int cranes() {
        return craneCount;
    }

    public int lifts() {
        return liftCount;
    }

    public int limit(int crane, int column, int row) throws NoSuchElementException, IllegalArgumentException {
        Crane hook = craneNumbered(crane);
        if (hook == null) {
            throw new NoSuchElementException();
        }
        if (!isPlace(column, row)) {
            throw new IllegalArgumentException();
        }
        return hook.reaches(column, row) ? hook.strengthAt(column, row, wind) : 0;
    }

    public boolean overlap(int crane, int other) throws NoSuchElementException {
        Crane one = craneNumbered(crane);
        Crane two = craneNumbered(other);
        if (one == null || two == null) {
            throw new NoSuchElementException();
        }
        return countCommonPlaces(one, two) > 0;
    }

    public int bothReach(int crane, int other) throws NoSuchElementException {
        Crane one = craneNumbered(crane);
        Crane two = craneNumbered(other);
        if (one == null || two == null) {
            throw new NoSuchElementException();
        }
        return countCommonPlaces(one, two);
    }

    public char reason(int lift, int crane, int minute) throws NoSuchElementException {
        Lift load = liftNumbered(lift);
        if (load == null || craneNumbered(crane) == null) {
            throw new NoSuchElementException();
        }
        return obstacle(load, crane, minute);
    }

    public int earliest(int lift, int crane) throws NoSuchElementException, UnsupportedOperationException {
        Lift load = liftNumbered(lift);
        if (load == null || craneNumbered(crane) == null) {
            throw new NoSuchElementException();
        }
        int start = firstFit(load, crane, present);
        if (start == NONE) {
            throw new UnsupportedOperationException();
        }
        return start;
    }

    public int earliestByMinutes(int lift, int crane) throws NoSuchElementException, UnsupportedOperationException {
        Lift load = liftNumbered(lift);
        if (load == null || craneNumbered(crane) == null) {
            throw new NoSuchElementException();
        }
        // What lasts is asked once: no minute would change it.
        boolean mayFit = lastingObstacle(load, crane) == FREE;
        for (int minute = present; mayFit && minute < DAY; minute++) {
            if (passingObstacle(load, crane, minute) == FREE) {
                return minute;
            }
        }
        throw new UnsupportedOperationException();
    }

    public char stateOf(int lift) throws NoSuchElementException {
        Lift load = liftNumbered(lift);
        if (load == null) {
            throw new NoSuchElementException();
        }
        return load.state;
    }

    public int startOf(int lift) throws NoSuchElementException, IllegalStateException {
        Lift load = liftNumbered(lift);
        if (load == null) {
            throw new NoSuchElementException();
        }
        if (!load.hasCrane()) {
            throw new IllegalStateException();
        }
        return load.start;
    }

    public int craneOf(int lift) throws NoSuchElementException, IllegalStateException {
        Lift load = liftNumbered(lift);
        if (load == null) {
            throw new NoSuchElementException();
        }
        if (!load.hasCrane()) {
            throw new IllegalStateException();
        }
        return load.crane;
    }

    public int pourOf(int lift) throws NoSuchElementException {
        Lift load = liftNumbered(lift);
        if (load == null) {
            throw new NoSuchElementException();
        }
        return load.pour;
    }

    public long airOf(int lift) throws NoSuchElementException {
        Lift load = liftNumbered(lift);
        if (load == null) {
            throw new NoSuchElementException();
        }
        return load.air;
    }

    public boolean shareAir(int lift, int other) throws NoSuchElementException {
        Lift one = liftNumbered(lift);
        Lift two = liftNumbered(other);
        if (one == null || two == null) {
            throw new NoSuchElementException();
        }
        return one.sharesAir(two);
    }

    public int liftAt(int crane, int minute) throws NoSuchElementException, IllegalArgumentException {
        if (craneNumbered(crane) == null) {
            throw new NoSuchElementException();
        }
        if (!isMinute(minute)) {
            throw new IllegalArgumentException();
        }
        for (int number = 0; number < lifts.length; number++) {
            Lift lift = lifts[number];
            if (lift != null && lift.isOn(crane) && lift.meets(minute, minute + 1)) {
                return number;
            }
        }
        return NONE;
    }

    public int liftByMinutes(int crane, int minute) throws NoSuchElementException, IllegalArgumentException {
        if (craneNumbered(crane) == null) {
            throw new NoSuchElementException();
        }
        if (!isMinute(minute)) {
            throw new IllegalArgumentException();
        }
        fillDayRow(crane);
        return minute < dayRow.length ? dayRow[minute] : NONE;
    }

    public int freeMinutes(int crane) throws NoSuchElementException {
        Crane hook = craneNumbered(crane);
        if (hook == null) {
            throw new NoSuchElementException();
        }
        return hook.minutesAllowed() - countAllowedWork(crane, hook);
    }

    public int atWork(int minute) throws IllegalArgumentException {
        if (!isMinute(minute)) {
            throw new IllegalArgumentException();
        }
        // A crane never has two lifts in one minute, so that its lifts count as it does.
        int count = 0;
        for (Lift lift : lifts) {
            if (lift != null && lift.meets(minute, minute + 1)) {
                count++;
            }
        }
        return count;
    }

    public long airAt(int minute) throws IllegalArgumentException {
        if (!isMinute(minute)) {
            throw new IllegalArgumentException();
        }
        return airInMinute(minute);
    }

    public int squaresAt(int minute) throws IllegalArgumentException {
        if (!isMinute(minute)) {
            throw new IllegalArgumentException();
        }
        return Long.bitCount(airInMinute(minute));
    }

    public int pours() {
        return pourCount;
    }

    public int firstOf(int pour) throws NoSuchElementException {
        Pour row = pourNumbered(pour);
        if (row == null) {
            throw new NoSuchElementException();
        }
        return row.first;
    }

    public int loadsOf(int pour) throws NoSuchElementException {
        Pour row = pourNumbered(pour);
        if (row == null) {
            throw new NoSuchElementException();
        }
        return row.loads;
    }

    public int longestWait(int pour) throws NoSuchElementException, IllegalStateException {
        Pour row = pourNumbered(pour);
        if (row == null) {
            throw new NoSuchElementException();
        }
        if (countOfPour(pour, WAITS) > 0) {
            throw new IllegalStateException();
        }
        int longest = 0;
        for (int load = 1; load < row.loads; load++) {
            Lift ahead = liftNumbered(row.first + load - 1);
            Lift behind = liftNumbered(row.first + load);
            if (ahead != null && behind != null) {
                longest = Math.max(longest, behind.start - ahead.end());
            }
        }
        return longest;
    }

    public boolean isBroken(int pour) throws NoSuchElementException {
        if (pourNumbered(pour) == null) {
            throw new NoSuchElementException();
        }
        return countOfPour(pour, WAITS) > 0
            && (countOfPour(pour, UNDER_WAY) > 0 || countOfPour(pour, DONE) > 0);
    }

    public int waiting() {
        int count = 0;
        for (Lift lift : lifts) {
            if (lift != null && lift.state == WAITS) {
                count++;
            }
        }
        return count;
    }

    public int minutesOf(int crane) throws NoSuchElementException {
        if (craneNumbered(crane) == null) {
            throw new NoSuchElementException();
        }
        int sum = 0;
        for (Lift lift : lifts) {
            if (lift != null && lift.isOn(crane)) {
                sum += lift.minutes;
            }
        }
        return sum;
    }

    public long lifted() {
        long sum = 0;
        for (Lift lift : lifts) {
            if (lift != null && lift.state == DONE) {
                sum += lift.weight;
            }
        }
        return sum;
    }

    public int code(int crane) throws NoSuchElementException {
        Crane hook = craneNumbered(crane);
        if (hook == null) {
            throw new NoSuchElementException();
        }
        return hook.column | (hook.row << 6) | (hook.radius << 12) | (wind << 18);
    }

    public float workShare(int crane) throws NoSuchElementException, ArithmeticException {
        Crane hook = craneNumbered(crane);
        if (hook == null) {
            throw new NoSuchElementException();
        }
        int allowed = hook.minutesAllowed();
        if (allowed == 0) {
            throw new ArithmeticException();
        }
        return (float) countAllowedWork(crane, hook) / (float) allowed;
    }

    public double meanStart() throws ArithmeticException {
        int sum = 0;
        int count = 0;
        for (Lift lift : lifts) {
            if (lift != null && lift.hasCrane()) {
                sum += lift.start;
                count++;
            }
        }
        if (count == 0) {
            throw new ArithmeticException();
        }
        return (double) sum / (double) count;
    }

    private static boolean isFrom(int least, int number, int most) {
        return number >= least && number <= most;
    }

    private static boolean isPlace(int column, int row) {
        return isFrom(0, column, SIDE - 1) && isFrom(0, row, SIDE - 1);
    }

    private static boolean isBurden(int weight, int minutes) {
        return isFrom(1, weight, MOST_WEIGHT) && isFrom(1, minutes, HOUR);
    }

    private static boolean isMinute(int minute) {
        return isFrom(0, minute, DAY - 1);
    }

    private static boolean areHours(int hour, int hours) {
        return isFrom(0, hour, HOURS - 1) && isFrom(1, hours, HOURS - hour);
    }

    private static int bitsOfHours(int hour, int hours) {
        return ((1 << hours) - 1) << hour;
    }

    private static long airBetween(int column, int row, int toColumn, int toRow) {
        int left = Math.min(column, toColumn) / SQUARE_SIDE;
        int right = Math.max(column, toColumn) / SQUARE_SIDE;
        int top = Math.min(row, toRow) / SQUARE_SIDE;
        int bottom = Math.max(row, toRow) / SQUARE_SIDE;
        long air = 0;
        for (int down = top; down <= bottom; down++) {
            for (int across = left; across <= right; across++) {
                air |= 1L << (SQUARES_IN_ROW * down + across);
            }
        }
        return air;
    }

    private static int countCommonPlaces(Crane one, Crane two) {
        int count = 0;
        for (int column = 0; column < SIDE; column++) {
            for (int row = 0; row < SIDE; row++) {
                if (one.reaches(column, row) && two.reaches(column, row)) {
                    count++;
                }
            }
        }
        return count;
    }

    private Crane craneNumbered(int number) {
        return number >= 0 && number < cranes.length ? cranes[number] : null;
    }

    private Lift liftNumbered(int number) {
        return number >= 0 && number < lifts.length ? lifts[number] : null;
    }

    private Pour pourNumbered(int number) {
        return number >= 0 && number < pours.length ? pours[number] : null;
    }

    private void keepLift(Lift lift) {
        if (liftCount < lifts.length) {
            lifts[liftCount] = lift;
            liftCount++;
        }
    }

    /** The reason why a lift does not fit, as if it waited. */
    private char obstacle(Lift load, int crane, int minute) {
        char lasting = lastingObstacle(load, crane);
        return lasting == FREE ? passingObstacle(load, crane, minute) : lasting;
    }

    /** The reason that holds for every minute, as long as the wind stays. */
    private char lastingObstacle(Lift load, int crane) {
        Crane hook = craneNumbered(crane);
        if (hook == null || !hook.reachesEnds(load)) {
            return 'r';
        }
        return hook.bearsAtEnds(load, wind) ? FREE : 'g';
    }

    private char passingObstacle(Lift load, int crane, int minute) {
        if (minute < present || minute > DAY - load.minutes) {
            return 'm';
        }
        Crane hook = craneNumbered(crane);
        int behind = minute + load.minutes;
        if (hook == null || hook.lastClosedHour(minute, behind) != NONE) {
            return 'h';
        }
        char found = FREE;
        for (Lift other : lifts) {
            if (other != null && other != load && other.meets(minute, behind)) {
                if (other.crane == crane) {
                    return 'c';
                }
                if (other.sharesAir(load)) {
                    found = 'a';
                }
            }
        }
        return found;
    }

    /** The first minute, not less than from, that a lift fits from, -1 if there is none. */
    private int firstFit(Lift load, int crane, int from) {
        return lastingObstacle(load, crane) == FREE ? nextFit(load, crane, from) : NONE;
    }

    /** The same for a lift without a lasting obstacle, found from one obstacle's end to the next. */
    private int nextFit(Lift load, int crane, int from) {
        Crane hook = craneNumbered(crane);
        int minute = from;
        for (int jump = 0; jump <= DAY && hook != null && minute <= DAY - load.minutes; jump++) {
            int next = behindObstacle(load, crane, hook, minute);
            if (next == minute) {
                return minute;
            }
            minute = next;
        }
        return NONE;
    }

    /** The minute behind something that is in a lift's way, or the lift's own minute if nothing is. */
    private int behindObstacle(Lift load, int crane, Crane hook, int minute) {
        int behind = minute + load.minutes;
        int closed = hook.lastClosedHour(minute, behind);
        if (closed != NONE) {
            return (closed + 1) * HOUR;
        }
        for (Lift other : lifts) {
            if (other != null && other != load && other.meets(minute, behind)
                && (other.crane == crane || other.sharesAir(load))) {
                return other.end();
            }
        }
        return minute;
    }

    /** Fills rowStarts with the starts of a pour's lifts, and tells whether there are such starts. */
    private boolean findRowStarts(Pour row, int crane) {
        Lift load = liftNumbered(row.first);
        if (load == null) {
            return false;
        }
        int start = firstFit(load, crane, present);
        for (int attempt = 0; attempt <= DAY && start != NONE; attempt++) {
            if (fillRowStarts(row, load, crane, start)) {
                return true;
            }
            start = nextFit(load, crane, start + 1);
        }
        return false;
    }

    /** As the lifts of a pour are alike and all wait, the first one stands for each. */
    private boolean fillRowStarts(Pour row, Lift load, int crane, int first) {
        int start = first;
        for (int number = 0; number < row.loads && number < rowStarts.length; number++) {
            rowStarts[number] = start;
            int behind = start + load.minutes;
            if (number + 1 < row.loads) {
                start = nextFit(load, crane, behind);
                if (start == NONE || start - behind > row.wait) {
                    return false;
                }
            }
        }
        return true;
    }

    private int countOfPour(int pour, char state) {
        int count = 0;
        for (Lift lift : lifts) {
            if (lift != null && lift.pour == pour && lift.state == state) {
                count++;
            }
        }
        return count;
    }

    private int takeBackUnfit() {
        int count = 0;
        for (Lift lift : lifts) {
            if (lift != null && lift.state == PLANNED && !stillFits(lift)) {
                lift.takeBack();
                count++;
            }
        }
        return count;
    }

    /** Only wind and permits can turn against a lift that is planned. */
    private boolean stillFits(Lift lift) {
        Crane hook = craneNumbered(lift.crane);
        return hook != null && hook.bearsAtEnds(lift, wind)
            && hook.lastClosedHour(lift.start, lift.end()) == NONE;
    }

    private int countAllowedWork(int crane, Crane hook) {
        int count = 0;
        for (Lift lift : lifts) {
            if (lift != null && lift.isOn(crane)) {
                for (int minute = lift.start; minute < lift.end(); minute++) {
                    if (hook.hasHour(minute / HOUR)) {
                        count++;
                    }
                }
            }
        }
        return count;
    }

    private void fillDayRow(int crane) {
        Arrays.fill(dayRow, NONE);
        for (int number = 0; number < lifts.length; number++) {
            Lift lift = lifts[number];
            if (lift != null && lift.isOn(crane)) {
                for (int minute = Math.max(0, lift.start); minute < lift.end() && minute < dayRow.length; minute++) {
                    dayRow[minute] = number;
                }
            }
        }
    }

    private long airInMinute(int minute) {
        long air = 0;
        for (Lift lift : lifts) {
            if (lift != null && lift.meets(minute, minute + 1)) {
                air |= lift.air;
            }
        }
        return air;
    }
}
