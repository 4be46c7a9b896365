import java.io.IOException;

/** A test for each sentence of the document that is not about exceptions, at the bounds that the sentence names. */
public final class CranepoolSentences extends Checks {
    public static void main(String[] args) throws IOException {
        whatItIs();
        terms();
        siteAndCranes();
        distance();
        reach();
        limitOfWeightAndMoment();
        wind();
        lifts();
        air();
        minutesAndPermits();
        minutesOfLift();
        fitting();
        fittingTime();
        fittingOthers();
        reasonOrder();
        pours();
        poursPlanned();
        poursMovedLater();
        poursBroken();
        minutePasses();
        windOrPermitChanges();
        hoursAndMinutesOfPromises();
        questionsOfPromises();
        sharedAndMissing();
        bitsOfPromises();
        waitsOfPours();
        circlesAtTheBorder();
        cranesInAMinute();
        sharesAndMeans();
        Document.dueSentences(CranepoolSentences::isAskedFor);
        finish();
    }

    /** All sentences of the sections, and those of the promises that tell a bound, a condition or a special answer. */
    private static boolean isAskedFor(String sentence) {
        boolean otherTest = sentence.contains("| Throws ") || sentence.startsWith("Exceptions")
            || sentence.startsWith("Not promised") || sentence.contains("| A building site with");
        boolean plain = sentence.startsWith("Promise ") && !sentence.matches(".*\\|.*(\\d| if |same one).*");
        return !otherTest && !plain;
    }

    private static void sentence(String heading, String words) {
        Document.sentence(heading, words);
    }

    private static void whatItIs() {
        sentence("What it is", "An object is used for at most 512 calls after it has been made;"
            + " what later calls answer is free.");
        Cranepool site = oneCrane();
        cornerLift(site, 60);
        cornerLift(site, 60);
        site.planAt(1, 0, 480);
        for (int call = 6; call <= 511; call++) {
            int again = call % 2;
            due("call " + call, again == 0 ? 0 : 1, () -> again == 0 ? site.plan(0, 0) : site.unplan(0));
        }
        due("call 512", 480, () -> site.startOf(1));
    }

    private static void terms() {
        sentence("Terms", "Where a lift fits is found from one plan to the next, and minute by minute.");
        Cranepool site = twoCranes();
        int[] minutes = {7, 60, 13, 1, 30, 22, 45, 60};
        for (int lift = 0; lift < minutes.length; lift++) {
            cornerLift(site, minutes[lift]);
        }
        site.endPermit(0, 1, 1);
        site.endPermit(1, 3, 2);
        int[] starts = {10, 120, 30, 300, 200, 70, 1000, 600};
        for (int lift = 0; lift < starts.length; lift++) {
            site.planAt(lift, lift % 2, starts[lift]);
        }
        // Each one as if it waited, for the crane 0 without the hour 1 and the crane 1 without the hours 3 and 4.
        int[][] earliest = {{0, 0}, {120, 92}, {17, 17}, {0, 0}, {180, 301}, {230, 43}, {230, 301}, {230, 301}};
        for (int lift = 0; lift < starts.length; lift++) {
            int load = lift;
            for (int crane = 0; crane < 2; crane++) {
                int hook = crane;
                due("from plan to plan, " + load + ", " + hook, earliest[load][hook], () -> site.earliest(load, hook));
                due("by minutes, " + load + ", " + hook, earliest[load][hook],
                    () -> site.earliestByMinutes(load, hook));
            }
        }
        noAirShared();
    }

    private static void noAirShared() {
        sentence("Terms", "No two hooks share air, and no pour waits beyond its limit.");
        Cranepool site = twoCranes();
        for (int lift = 0; lift < 8; lift++) {
            site.addLift(5 * lift, 5, 5 * lift + 9 - 5 * (lift / 7), 5, 1, 20);
        }
        int[] waits = {0, 9, 60};
        for (int wait : waits) {
            site.addPour(12, 5, 12, 5, 1, 15, 3, wait);
        }
        for (int lift = 0; lift < 8; lift++) {
            site.plan(lift, lift % 2);
        }
        for (int pour = 0; pour < waits.length; pour++) {
            int row = pour;
            site.planPour(row, row % 2);
            due("wait of pour " + row + " is in its limit", true, () -> site.longestWait(row) <= waits[row]);
        }
        for (int minute = 0; minute < 130; minute++) {
            int one = site.liftAt(0, minute);
            int two = site.liftAt(1, minute);
            if (one >= 0 && two >= 0) {
                due("air in minute " + minute, false, () -> site.shareAir(one, two));
            }
        }
    }

    private static void siteAndCranes() {
        sentence("Site and cranes", "The site has places with a column and a row, from 0 to 39 each.");
        Cranepool site = new Cranepool();
        due("first place", 0, () -> site.addCrane(0, 0, 40, 1, 40));
        due("last place", 1, () -> site.addCrane(39, 39, 40, 1, 40));
        due("corner", 2, () -> site.addCrane(0, 39, 40, 1, 40));
        due("other corner", 3, () -> site.addCrane(39, 0, 40, 1, 40));
        int[][] noPlaces = {{-1, 0}, {0, -1}, {40, 0}, {0, 40}, {-1, 39}, {39, 40}, {40, 40}};
        for (int[] place : noPlaces) {
            String told = place[0] + ", " + place[1];
            due("a crane at " + told, ARGUMENT, () -> site.addCrane(place[0], place[1], 1, 1, 1));
            due("a lift from " + told, ARGUMENT, () -> site.addLift(place[0], place[1], 0, 0, 1, 1));
            due("a lift to " + told, ARGUMENT, () -> site.addLift(0, 0, place[0], place[1], 1, 1));
            due("a pour from " + told, ARGUMENT, () -> site.addPour(place[0], place[1], 0, 0, 1, 1, 2, 0));
            due("a pour to " + told, ARGUMENT, () -> site.addPour(0, 0, place[0], place[1], 1, 1, 2, 0));
            due("the limit at " + told, ARGUMENT, () -> site.limit(0, place[0], place[1]));
        }
        due("limit at the last column", 1, () -> site.limit(0, 39, 0));
        due("limit at the last row", 1, () -> site.limit(0, 0, 39));
        due("limit at the first place", 1, () -> site.limit(3, 0, 0));

        sentence("Site and cranes", "At most 5 cranes have numbers from 0.");
        due("a fifth crane", 4, () -> site.addCrane(1, 1, 1, 1, 1));
        due("a sixth crane", STATE, () -> site.addCrane(1, 1, 1, 1, 1));
        due("number 4", 1 + 64 + 4096, () -> site.code(4));
        due("number 5", NO_SUCH, () -> site.code(5));

        sentence("Site and cranes", "A crane stands at a place, and has a radius from 1 to 40, a greatest weight"
            + " from 1 to 999, and a moment from 1 to 9999.");
        Cranepool other = new Cranepool();
        for (int i = 0; i < CRANE_LEAST.length; i++) {
            int index = i;
            due("below, " + i, ARGUMENT, () -> addCrane(other, with(CRANE_LEAST, index, CRANE_LEAST[index] - 1)));
            due("above, " + i, ARGUMENT, () -> addCrane(other, with(CRANE_MOST, index, CRANE_MOST[index] + 1)));
        }
        due("all least", 0, () -> addCrane(other, CRANE_LEAST));
        due("all most", 1, () -> addCrane(other, CRANE_MOST));
        due("radius 1", 4096, () -> other.code(0));
        due("weight and moment 1", 1, () -> other.limit(0, 0, 0));
        due("radius 40", 39 + 39 * 64 + 40 * 4096, () -> other.code(1));
        due("weight 999", 999, () -> other.limit(1, 39, 39));
        due("moment 9999, 11 away", 909, () -> other.limit(1, 28, 39));
    }

    private static void distance() {
        sentence("Site and cranes", "The distance of two places is the least number, 1 or more, whose square is not"
            + " less than the sum of the squares of the differences of their columns and of their rows.");
        int[][] places = {{0, 0}, {39, 39}, {20, 13}};
        int[] moments = {1, 40, 997, 9999};
        for (int[] place : places) {
            for (int column = 0; column < 40; column++) {
                Cranepool site = new Cranepool();
                for (int moment : moments) {
                    site.addCrane(place[0], place[1], 40, 999, moment);
                }
                for (int row = 0; row < 40; row++) {
                    dueDistance(site, place, moments, column, row);
                }
            }
        }
    }

    private static void dueDistance(Cranepool site, int[] place, int[] moments, int column, int row) {
        int square = (column - place[0]) * (column - place[0]) + (row - place[1]) * (row - place[1]);
        if (square > 1600) {
            return;
        }
        int distance = 40;
        while (distance > 1 && (distance - 1) * (distance - 1) >= square) {
            distance--;
        }
        for (int i = 0; i < moments.length; i++) {
            int crane = i;
            String told = "moment " + moments[i] + " from " + place[0] + ", " + place[1] + " to " + column + ", " + row;
            due(told, Math.min(999, moments[i] / distance), () -> site.limit(crane, column, row));
        }
    }

    private static void reach() {
        sentence("Site and cranes", "A crane reaches a place if the sum of these squares is not greater than the"
            + " square of its radius.");
        int[] radii = {1, 2, 5, 13, 25, 39, 40};
        for (int radius : radii) {
            for (int column = 0; column < 40; column++) {
                Cranepool site = new Cranepool();
                site.addCrane(11, 7, radius, 999, 9999);
                for (int row = 0; row < 40; row++) {
                    int[] place = {column, row};
                    boolean reached = (column - 11) * (column - 11) + (row - 7) * (row - 7) <= radius * radius;
                    due("radius " + radius + ", " + column + ", " + row, reached,
                        () -> site.limit(0, place[0], place[1]) > 0);
                }
            }
        }
        Cranepool site = new Cranepool();
        site.addCrane(0, 0, 25, 999, 9999);
        site.addLift(7, 24, 20, 15, 1, 1);
        site.addLift(7, 24, 20, 16, 1, 1);
        site.addLift(8, 24, 20, 15, 1, 1);
        due("sums 625 and 625", 'h', () -> site.reason(0, 0, 0));
        due("sums 625 and 656", 'r', () -> site.reason(1, 0, 0));
        due("sums 640 and 625", 'r', () -> site.reason(2, 0, 0));
    }

    private static void limitOfWeightAndMoment() {
        sentence("Site and cranes", "What a crane can lift at a place, its limit there, is found like this: the less"
            + " one of its greatest weight and of its moment divided by the distance of the crane and the place,"
            + " rounded down; of this, as many percent are taken away as 3 times the wind, what is left is rounded"
            + " down.");
        Cranepool site = new Cranepool();
        site.addCrane(0, 0, 40, 50, 203);
        site.addCrane(0, 0, 40, 999, 9999);
        site.addCrane(0, 0, 40, 1, 9999);
        site.addCrane(0, 0, 40, 33, 99);
        site.addCrane(0, 0, 40, 999, 1);
        due("weight is less", 50, () -> site.limit(0, 0, 4));
        due("203 / 5", 40, () -> site.limit(0, 0, 5));
        due("both alike", 33, () -> site.limit(3, 3, 0));
        due("one behind", 24, () -> site.limit(3, 4, 0));
        due("moment 1 at its own place", 1, () -> site.limit(4, 0, 0));
        due("moment 1 at the next place", 1, () -> site.limit(4, 0, 1));
        due("moment 1 at a distance of 2", 0, () -> site.limit(4, 1, 1));
        int[] bases = {50, 999, 1, 33, 1};
        for (int wind = 1; wind <= 20; wind++) {
            int now = wind;
            site.setWind(now);
            for (int crane = 0; crane < bases.length; crane++) {
                int hook = crane;
                int leftInHundredths = 100 * bases[hook] - 3 * now * bases[hook];
                due("weight " + bases[hook] + " in wind " + now, leftInHundredths / 100, () -> site.limit(hook, 0, 0));
            }
            due("203 / 5 in wind " + now, (4000 - 120 * now) / 100, () -> site.limit(0, 3, 4));
        }
    }

    private static void wind() {
        sentence("Site and cranes", "With a wind greater than 20, the limit is 0.");
        Cranepool site = oneCrane();
        int light = site.addLift(20, 20, 20, 20, 1, 1);
        site.setWind(20);
        due("limit with wind 20", 399, () -> site.limit(0, 20, 20));
        due("a lift with wind 20", '-', () -> site.reason(light, 0, 0));
        for (int wind : new int[] {21, 22, 33, 34, 40}) {
            site.setWind(wind);
            due("limit with wind " + wind, 0, () -> site.limit(0, 20, 20));
            due("a lift with wind " + wind, 'g', () -> site.reason(light, 0, 0));
        }

        sentence("Site and cranes", "The wind is from 0 to 40, 0 at first.");
        Cranepool calm = new Cranepool();
        calm.addCrane(0, 0, 1, 999, 9999);
        due("at first", 4096, () -> calm.code(0));
        due("limit at first", 999, () -> calm.limit(0, 0, 0));
        for (int wind : new int[] {-1, 41, Integer.MIN_VALUE, Integer.MAX_VALUE}) {
            due("wind " + wind, ARGUMENT, () -> calm.setWind(wind));
            due("no other wind by it", 4096, () -> calm.code(0));
        }
        for (int wind : new int[] {40, 1, 0}) {
            due("wind " + wind, 0, () -> calm.setWind(wind));
            due("the wind is " + wind, 4096 + wind * 262144, () -> calm.code(0));
        }
    }

    private static void lifts() {
        sentence("Lifts", "At most 40 lifts have numbers from 0.");
        Cranepool site = new Cranepool();
        site.addPour(0, 0, 0, 0, 1, 1, 2, 0);
        for (int lift = 2; lift < 39; lift++) {
            int number = lift;
            due("lift " + number, number, () -> cornerLift(site, 1));
        }
        due("a pour that would be the lifts 39 and 40", STATE, () -> site.addPour(0, 0, 0, 0, 1, 1, 2, 0));
        due("lift 39", 39, () -> cornerLift(site, 1));
        due("lift 40", STATE, () -> cornerLift(site, 1));
        due("state of 39", 'w', () -> site.stateOf(39));
        due("state of 40", NO_SUCH, () -> site.stateOf(40));

        sentence("Lifts", "A lift goes from a place to another place or the same one, has a weight from 1 to 999,"
            + " and takes from 1 to 60 minutes.");
        Cranepool other = oneCrane();
        for (int i = 0; i < LIFT_LEAST.length; i++) {
            int index = i;
            due("below, " + i, ARGUMENT, () -> addLift(other, with(LIFT_LEAST, index, LIFT_LEAST[index] - 1)));
            due("above, " + i, ARGUMENT, () -> addLift(other, with(LIFT_MOST, index, LIFT_MOST[index] + 1)));
        }
        due("all least, the same place", 0, () -> addLift(other, LIFT_LEAST));
        due("all most, the same place", 1, () -> addLift(other, LIFT_MOST));
        due("from the first place to the last", 2, () -> other.addLift(0, 0, 39, 39, 999, 60));
        int own = other.addLift(20, 20, 20, 20, 999, 60);
        due("weight 999 and 60 minutes", 60, () -> other.planAt(own, 0, 0));
        due("1 minute", 61, () -> other.planAt(0, 0, 60));

        states();
    }

    private static void states() {
        sentence("Lifts", "It waits, 'w', is planned, 'p', under way, 'u', or done, 'd'.");
        Cranepool site = oneCrane();
        int lift = cornerLift(site, 60);
        due("added", 'w', () -> site.stateOf(lift));
        site.planAt(lift, 0, 10);
        due("planned", 'p', () -> site.stateOf(lift));
        site.unplan(lift);
        due("unplanned", 'w', () -> site.stateOf(lift));
        site.plan(lift, 0);
        site.pass(59);
        due("59 of its minutes", 'u', () -> site.stateOf(lift));
        site.pass(1);
        due("60 of its minutes", 'd', () -> site.stateOf(lift));
        site.setWind(40);
        site.endPermit(0, 0, 24);
        passTo(site, 1440);
        due("at the day's end", 'd', () -> site.stateOf(lift));
    }

    private static void air() {
        sentence("Air", "The site is cut into 64 squares of 5 columns and 5 rows each; the square of a place has the"
            + " number 8 times its row divided by 5 plus its column divided by 5, both rounded down.");
        for (int row = 0; row < 40; row++) {
            Cranepool site = new Cranepool();
            for (int column = 0; column < 40; column++) {
                int lift = site.addLift(column, row, column, row, 1, 1);
                due("square of " + column + ", " + row, 1L << (8 * (row / 5) + column / 5), () -> site.airOf(lift));
            }
        }

        sentence("Air", "The air of a lift consists of all squares that have a place in the rectangle between its two"
            + " places, these included.");
        for (int from = 0; from < 40; from++) {
            Cranepool site = new Cranepool();
            for (int to = 0; to < 40; to++) {
                int[] places = {from, (7 * from + 3 * to) % 40, to, (11 * to + 30) % 40};
                int lift = site.addLift(places[0], places[1], places[2], places[3], 1, 1);
                String told = places[0] + ", " + places[1] + " to " + places[2] + ", " + places[3];
                due(told, airOfAllPlaces(places), () -> site.airOf(lift));
            }
        }
        Cranepool site = new Cranepool();
        site.addLift(0, 0, 39, 39, 1, 1);
        site.addLift(4, 4, 5, 5, 1, 1);
        due("all squares", -1L, () -> site.airOf(0));
        due("four squares touched at their corner", 0x303L, () -> site.airOf(1));
    }

    private static long airOfAllPlaces(int[] places) {
        long air = 0;
        for (int place = 0; place < 1600; place++) {
            int column = place % 40;
            int row = place / 40;
            boolean across = column >= Math.min(places[0], places[2]) && column <= Math.max(places[0], places[2]);
            boolean down = row >= Math.min(places[1], places[3]) && row <= Math.max(places[1], places[3]);
            if (across && down) {
                air |= 1L << (8 * (row / 5) + column / 5);
            }
        }
        return air;
    }

    private static void minutesAndPermits() {
        sentence("Minutes and permits", "The day has the minutes 0 to 1439 and the hours 0 to 23; the present minute"
            + " is 0 at first, and 1440 at most.");
        Cranepool site = oneCrane();
        due("present minute", 0, site::now);
        int last = cornerLift(site, 1);
        due("in the last minute", 1440, () -> site.planAt(last, 0, 1439));
        due("minute 0", -1, () -> site.liftAt(0, 0));
        due("minute 1439", last, () -> site.liftAt(0, 1439));
        due("minute -1", ARGUMENT, () -> site.liftAt(0, -1));
        due("minute 1440", ARGUMENT, () -> site.liftAt(0, 1440));
        due("hour 0", 24, () -> site.permit(0, 0, 1));
        due("hour 23", 24, () -> site.permit(0, 23, 1));
        due("hour -1", ARGUMENT, () -> site.permit(0, -1, 1));
        due("hour 24", ARGUMENT, () -> site.permit(0, 24, 1));
        due("hour 24 behind 23", ARGUMENT, () -> site.permit(0, 23, 2));
        passTo(site, 1439);
        due("not yet done", 'p', () -> site.stateOf(last));
        due("to 1440, one more done", 1, () -> site.pass(1));
        due("at the day's end", 1440, site::now);
        due("beyond it", STATE, () -> site.pass(1));
        due("still at the day's end", 1440, site::now);
        due("what it did stays", last, () -> site.liftAt(0, 1439));

        sentence("Minutes and permits", "A crane has a permit for some of the hours, none at first.");
        for (int hour = 0; hour < 24; hour++) {
            int only = hour;
            Cranepool other = new Cranepool();
            other.addCrane(0, 0, 1, 1, 1);
            other.addLift(0, 0, 0, 0, 1, 1);
            due("none at first", 'h', () -> other.reason(0, 0, 60 * only));
            other.permit(0, only, 1);
            due("first minute of " + only, '-', () -> other.reason(0, 0, 60 * only));
            due("last minute of " + only, '-', () -> other.reason(0, 0, 60 * only + 59));
            due("minute ahead of " + only, only == 0 ? 'm' : 'h', () -> other.reason(0, 0, 60 * only - 1));
            due("minute behind " + only, only == 23 ? 'm' : 'h', () -> other.reason(0, 0, 60 * only + 60));
            due("minutes of " + only, 60, () -> other.freeMinutes(0));
        }
    }

    private static void minutesOfLift() {
        sentence("Minutes and permits", "A lift that is planned, under way or done has a crane and a start; it has"
            + " the minutes from its start on, as many as it takes.");
        for (int minutes : new int[] {1, 2, 60}) {
            Cranepool site = twoCranes();
            int lift = cornerLift(site, minutes);
            due("waiting, it has no crane", STATE, () -> site.craneOf(lift));
            due("waiting, it has no start", STATE, () -> site.startOf(lift));
            due("waiting, it has no minute", 0, () -> site.minutesOf(1));
            site.planAt(lift, 1, 100);
            dueMinutes(site, lift, minutes, 'p');
            if (minutes > 1) {
                passTo(site, 101);
                dueMinutes(site, lift, minutes, 'u');
            }
            passTo(site, 100 + minutes);
            dueMinutes(site, lift, minutes, 'd');
        }
    }

    private static void dueMinutes(Cranepool site, int lift, int minutes, char state) {
        due("state", state, () -> site.stateOf(lift));
        due("crane", 1, () -> site.craneOf(lift));
        due("start", 100, () -> site.startOf(lift));
        due("ahead of its start", -1, () -> site.liftAt(1, 99));
        due("at its start", lift, () -> site.liftAt(1, 100));
        due("its last minute", lift, () -> site.liftAt(1, 99 + minutes));
        due("behind its last minute", -1, () -> site.liftAt(1, 100 + minutes));
        due("another crane", -1, () -> site.liftAt(0, 100));
        due("how many", minutes, () -> site.minutesOf(1));
    }

    private static final String FITTING = "A lift can be planned for a crane from a minute on if none of these"
        + " reasons applies: 'r', the crane does not reach one of its places; 'g', its weight is greater than the"
        + " limit of the crane at one of its places; 'm', the minute is less than the present one, or the lift would"
        + " not end in this day; 'h', the crane has no permit for an hour in which one of its minutes lies; 'c', the"
        + " crane has another lift, planned or under way or done, in one of its minutes; 'a', another crane has a lift"
        + " in one of its minutes whose air has a square of its air.";

    private static void fitting() {
        sentence("Fitting", FITTING);
        Cranepool site = new Cranepool();
        site.addCrane(10, 10, 5, 50, 200);
        site.permit(0, 0, 24);
        int[][] places = {{10, 10, 10, 10}, {15, 10, 10, 5}, {13, 14, 7, 6}, {15, 11, 10, 10}, {10, 10, 10, 4},
            {16, 10, 4, 10}};
        String reasons = "---rrr";
        for (int i = 0; i < places.length; i++) {
            int[] place = places[i];
            int lift = site.addLift(place[0], place[1], place[2], place[3], 40, 30);
            due("reach, lift " + lift, reasons.charAt(lift), () -> site.reason(lift, 0, 1000));
            due("plan, lift " + lift, reasons.charAt(lift) == '-' ? (Object) (100 * lift + 30) : UNSUPPORTED,
                () -> site.planAt(lift, 0, 100 * lift));
        }
        int[][] loads = {{10, 10, 10, 10, 50}, {10, 10, 10, 10, 51}, {10, 10, 15, 10, 40}, {10, 10, 15, 10, 41},
            {15, 10, 10, 10, 40}, {15, 10, 10, 10, 41}, {14, 10, 12, 10, 50}, {14, 10, 12, 10, 51}};
        String weights = "-g-g-g-g";
        for (int i = 0; i < loads.length; i++) {
            int[] load = loads[i];
            char reason = weights.charAt(i);
            int lift = site.addLift(load[0], load[1], load[2], load[3], load[4], 30);
            due("weight, lift " + lift, reason, () -> site.reason(lift, 0, 1000));
            due("earliest, lift " + lift, reason == '-' ? (Object) 30 : UNSUPPORTED, () -> site.earliest(lift, 0));
        }
    }

    private static void fittingTime() {
        sentence("Fitting", FITTING);
        Cranepool site = oneCrane();
        int hourLong = cornerLift(site, 60);
        int short1 = cornerLift(site, 1);
        due("minute 0", '-', () -> site.reason(hourLong, 0, 0));
        due("minute -1", 'm', () -> site.reason(hourLong, 0, -1));
        due("ends in this day", '-', () -> site.reason(hourLong, 0, 1380));
        due("ends in the next day", 'm', () -> site.reason(hourLong, 0, 1381));
        due("in the last minute", '-', () -> site.reason(short1, 0, 1439));
        due("behind the last minute", 'm', () -> site.reason(short1, 0, 1440));
        for (int minute : new int[] {Integer.MIN_VALUE, Integer.MIN_VALUE + 59, Integer.MAX_VALUE - 60,
            Integer.MAX_VALUE - 59, Integer.MAX_VALUE}) {
            due("minute " + minute, 'm', () -> site.reason(hourLong, 0, minute));
            due("plan in minute " + minute, UNSUPPORTED, () -> site.planAt(hourLong, 0, minute));
        }
        site.pass(75);
        due("one less than the present one", 'm', () -> site.reason(short1, 0, 74));
        due("the present one", '-', () -> site.reason(short1, 0, 75));
        site.endPermit(0, 3, 1);
        due("last minute in hour 2", '-', () -> site.reason(hourLong, 0, 120));
        due("last minute in hour 3", 'h', () -> site.reason(hourLong, 0, 121));
        due("all in hour 3", 'h', () -> site.reason(hourLong, 0, 180));
        due("first minute in hour 3", 'h', () -> site.reason(hourLong, 0, 239));
        due("first minute in hour 4", '-', () -> site.reason(hourLong, 0, 240));
        site.permit(0, 3, 1);
        due("with the permit again", '-', () -> site.reason(hourLong, 0, 180));
    }

    /** The crane 0 has a lift in the minutes 100 to 109 that is planned, then under way, then done. */
    private static void fittingOthers() {
        sentence("Fitting", FITTING);
        for (int present : new int[] {0, 100, 101, 109}) {
            Cranepool site = twoCranes();
            int there = cornerLift(site, 10);
            int same = cornerLift(site, 10);
            int far = farLift(site, 10);
            int touching = site.addLift(5, 0, 5, 4, 1, 10);
            site.planAt(there, 0, 100);
            passTo(site, present);
            for (int minute = Math.max(present, 89); minute <= 111; minute++) {
                int start = minute;
                boolean meets = start >= 91 && start <= 109;
                String told = start + ", at " + present;
                due("c, " + told, meets ? 'c' : '-', () -> site.reason(far, 0, start));
                due("a, " + told, meets ? 'a' : '-', () -> site.reason(same, 1, start));
                due("other air, " + told, '-', () -> site.reason(far, 1, start));
                due("next square, " + told, '-', () -> site.reason(touching, 1, start));
                due("itself, " + told, '-', () -> site.reason(there, 0, start));
                due("itself for another crane, " + told, '-', () -> site.reason(there, 1, start));
            }
        }
        Cranepool site = twoCranes();
        int done = cornerLift(site, 10);
        int other = cornerLift(site, 10);
        site.plan(done, 0);
        site.pass(10);
        due("behind one that is done", 10, () -> site.earliest(other, 0));
        due("a pour's other lifts are in the way", 20, () -> {
            int pour = site.addPour(0, 0, 0, 0, 1, 5, 2, 0);
            site.planPour(pour, 1);
            return site.earliest(other, 0);
        });
        due("also in one's own pour", 'c', () -> site.reason(2, 1, 15));
        due("but not itself", '-', () -> site.reason(2, 1, 10));
    }

    private static void reasonOrder() {
        sentence("Fitting", "The reason is the first one of these in this order.");
        Cranepool site = new Cranepool();
        site.addCrane(10, 10, 5, 50, 200);
        site.addCrane(10, 10, 5, 50, 200);
        site.permit(0, 0, 1);
        site.permit(1, 0, 1);
        int heavyAndFar = site.addLift(10, 10, 10, 16, 51, 10);
        int farAndLight = site.addLift(10, 16, 10, 10, 1, 10);
        int heavy = site.addLift(10, 10, 10, 10, 51, 10);
        int light = site.addLift(10, 10, 10, 10, 1, 10);
        site.planAt(site.addLift(10, 10, 10, 10, 1, 10), 0, 20);
        site.planAt(site.addLift(10, 10, 10, 10, 1, 10), 1, 30);
        due("r, g and m", 'r', () -> site.reason(heavyAndFar, 0, -1));
        due("r and m", 'r', () -> site.reason(farAndLight, 0, 1440));
        due("r and c", 'r', () -> site.reason(farAndLight, 0, 20));
        due("g and m", 'g', () -> site.reason(heavy, 0, 1440));
        due("g and h", 'g', () -> site.reason(heavy, 0, 60));
        due("g, c and a", 'g', () -> site.reason(heavy, 0, 25));
        due("m, with no such hour", 'm', () -> site.reason(light, 0, 1440));
        due("m and h", 'm', () -> site.reason(light, 0, 1431));
        due("h alone", 'h', () -> site.reason(light, 0, 60));
        due("c and a", 'c', () -> site.reason(light, 0, 25));
        due("c and a, the other crane", 'c', () -> site.reason(light, 1, 25));
        due("a alone", 'a', () -> site.reason(light, 1, 20));
        due("a alone, the other crane", 'a', () -> site.reason(light, 0, 30));
        site.pass(25);
        due("m, c and a", 'm', () -> site.reason(light, 0, 24));
        site.endPermit(0, 0, 1);
        due("m and h, in the past", 'm', () -> site.reason(light, 0, 24));
        due("h, c and a", 'h', () -> site.reason(light, 0, 25));
        due("h and a", 'h', () -> site.reason(light, 0, 31));
    }

    private static void pours() {
        sentence("Pours", "At most 6 pours have numbers from 0.");
        Cranepool site = new Cranepool();
        due("no pour at first", NO_SUCH, () -> site.firstOf(0));
        for (int pour = 0; pour < 6; pour++) {
            int number = pour;
            due("pour " + number, number, () -> site.addPour(0, 0, 0, 0, 1, 1, 2, 0));
        }
        due("pour 6", STATE, () -> site.addPour(0, 0, 0, 0, 1, 1, 2, 0));
        due("lifts of 5", 2, () -> site.loadsOf(5));
        due("lifts of 6", NO_SUCH, () -> site.loadsOf(6));
        due("a lift may come still", 12, () -> cornerLift(site, 1));

        sentence("Pours", "A pour is a row of 2 to 8 lifts that are alike, which have the next numbers, and has a"
            + " longest wait from 0 to 60 minutes.");
        Cranepool other = twoCranes();
        for (int i = 0; i < POUR_LEAST.length; i++) {
            int index = i;
            due("below, " + i, ARGUMENT, () -> addPour(other, with(POUR_LEAST, index, POUR_LEAST[index] - 1)));
            due("above, " + i, ARGUMENT, () -> addPour(other, with(POUR_MOST, index, POUR_MOST[index] + 1)));
        }
        cornerLift(other, 1);
        due("all least", 0, () -> addPour(other, POUR_LEAST));
        due("all most", 1, () -> addPour(other, POUR_MOST));
        due("first of the first", 1, () -> other.firstOf(0));
        due("first of the second", 3, () -> other.firstOf(1));
        due("8 lifts", 8, () -> other.loadsOf(1));
        due("11 lifts in all", 11, other::lifts);
        other.addPour(3, 3, 8, 3, 77, 7, 3, 0);
        other.planPour(2, 0);
        for (int lift = 11; lift < 14; lift++) {
            int load = lift;
            due("alike in their pour", 2, () -> other.pourOf(load));
            due("alike in air", 3L, () -> other.airOf(load));
            due("alike in minutes", 7 * (load - 11), () -> other.startOf(load));
        }
        passTo(other, 21);
        due("alike in weight", 231L, other::lifted);
    }

    private static final String PLANNED = "Its lifts are planned together, for one crane: the first one as early as"
        + " it can be planned, and each other one as early as it can be planned from the minute behind the one ahead"
        + " on; if the wait between two of them would be longer than the longest wait, the first one is planned later,"
        + " as early as all of them fit so.";

    private static void poursPlanned() {
        sentence("Pours", PLANNED);
        Cranepool site = oneCrane();
        site.addPour(0, 0, 0, 0, 1, 60, 8, 0);
        due("8 lifts of 60 minutes", 0, () -> site.planPour(0, 0));
        for (int lift = 0; lift < 8; lift++) {
            int load = lift;
            due("start of " + load, 60 * load, () -> site.startOf(load));
            due("crane of " + load, 0, () -> site.craneOf(load));
        }
        site.unplan(0);
        passTo(site, 960);
        due("just to the day's end", 960, () -> site.planPour(0, 0));
        site.unplan(7);
        site.pass(1);
        due("no more", UNSUPPORTED, () -> site.planPour(0, 0));
        due("none of it is planned", 8, site::waiting);

        Cranepool hours = new Cranepool();
        hours.addCrane(0, 0, 1, 1, 1);
        hours.addPour(0, 0, 0, 0, 1, 20, 2, 0);
        due("no permit", UNSUPPORTED, () -> hours.planPour(0, 0));
        hours.permit(0, 23, 1);
        due("in the last hour alone", 1380, () -> hours.planPour(0, 0));
        hours.unplan(0);
        passTo(hours, 1400);
        due("its last minutes", 1400, () -> hours.planPour(0, 0));
        hours.unplan(1);
        passTo(hours, 1401);
        due("room for one of them alone", UNSUPPORTED, () -> hours.planPour(0, 0));
        passTo(hours, 1440);
        due("at the day's end", UNSUPPORTED, () -> hours.planPour(0, 0));
    }

    /** The crane 0 has no permit for the hour 1, or another lift behind the first one of the pour. */
    private static void poursMovedLater() {
        sentence("Pours", PLANNED);
        int[][] hourWithout = {{60, 0, 120}, {59, 120, 150}, {0, 120, 150}};
        for (int[] row : hourWithout) {
            Cranepool site = oneCrane();
            site.endPermit(0, 1, 1);
            site.addPour(0, 0, 0, 0, 1, 30, 2, row[0]);
            site.addPour(0, 0, 0, 0, 1, 60, 2, row[0]);
            due("hour between, 60 minutes, wait " + row[0], row[1], () -> site.planPour(1, 0));
            site.unplan(2);
            due("hour behind, 30 minutes, wait " + row[0], 0, () -> site.planPour(0, 0));
        }
        // From 50 to 54 the crane has another lift: the waits for it are 0 to 14 minutes, for 20 minutes a lift.
        int[][] liftBetween = {{0, 10, 30, 55}, {24, 0, 20, 55}, {25, 0, 20, 55}, {15, 0, 20, 55}, {14, 1, 21, 55},
            {5, 10, 30, 55}, {4, 55, 75, 95}};
        for (int[] row : liftBetween) {
            Cranepool site = oneCrane();
            site.planAt(cornerLift(site, 5), 0, 50);
            site.addPour(0, 0, 0, 0, 1, 20, 3, row[0]);
            boolean never = row[0] == 0;
            due("first, wait " + row[0], never ? 55 : row[1], () -> site.planPour(0, 0));
            due("second, wait " + row[0], never ? 75 : row[2], () -> site.startOf(2));
            due("third, wait " + row[0], never ? 95 : row[3], () -> site.startOf(3));
        }
        // The air is another crane's in 25 to 29 and in 50 to 54: between them is room for one lift of 15 minutes.
        int[][] airBetween = {{10, 5, 30, 55}, {9, 31, 55, 70}, {5, 35, 55, 70}, {4, 55, 70, 85}, {0, 55, 70, 85}};
        for (int[] row : airBetween) {
            Cranepool site = twoCranes();
            site.planAt(cornerLift(site, 5), 1, 25);
            site.planAt(cornerLift(site, 5), 1, 50);
            site.addPour(0, 0, 0, 0, 1, 15, 3, row[0]);
            due("first between airs, wait " + row[0], row[1], () -> site.planPour(0, 0));
            due("second between airs, wait " + row[0], row[2], () -> site.startOf(3));
            due("third between airs, wait " + row[0], row[3], () -> site.startOf(4));
        }
    }

    private static void poursBroken() {
        sentence("Pours", "A pour is broken when one of its lifts waits, and another one is under way or done.");
        Cranepool site = oneCrane();
        site.addPour(0, 0, 0, 0, 1, 60, 2, 0);
        site.addPour(35, 35, 39, 39, 1, 60, 2, 0);
        due("both wait", false, () -> site.isBroken(0));
        site.planPour(0, 0);
        due("both planned", false, () -> site.isBroken(0));
        site.endPermit(0, 1, 1);
        due("one planned, one waits", false, () -> site.isBroken(0));
        site.pass(1);
        due("one under way, one waits", true, () -> site.isBroken(0));
        site.pass(59);
        due("one done, one waits", true, () -> site.isBroken(0));
        due("another pour", false, () -> site.isBroken(1));
        site.planPour(1, 0);
        site.pass(61);
        due("one under way, one planned", false, () -> site.isBroken(1));
        site.pass(60);
        due("one done, one under way", false, () -> site.isBroken(1));
        site.pass(60);
        due("both done", false, () -> site.isBroken(1));
        due("a broken one stays so", true, () -> site.isBroken(0));
    }

    private static void minutePasses() {
        sentence("Time and wind", "When a minute passes, the present minute becomes greater by 1; then each lift that"
            + " is planned or under way is done if its last minute is less than the present one, and otherwise under"
            + " way if its start is less than the present one.");
        Cranepool site = twoCranes();
        Cranepool atOnce = twoCranes();
        for (Cranepool each : new Cranepool[] {site, atOnce}) {
            each.planAt(cornerLift(each, 3), 0, 2);
            each.planAt(farLift(each, 1), 1, 4);
            each.planAt(cornerLift(each, 60), 0, 5);
            cornerLift(each, 1);
        }
        String[] states = {"pppw", "pppw", "pppw", "uppw", "uppw", "ddpw", "dduw"};
        int[] done = {0, 0, 0, 0, 0, 2, 0};
        for (int minute = 0; minute < states.length; minute++) {
            int now = minute;
            due("present minute", now, site::now);
            for (int lift = 0; lift < 4; lift++) {
                int load = lift;
                due("lift " + load + " at " + now, states[now].charAt(load), () -> site.stateOf(load));
            }
            if (now + 1 < states.length) {
                due("done at " + (now + 1), done[now + 1], () -> site.pass(1));
            }
        }
        for (int minute = 7; minute <= 64; minute++) {
            due("none done", 0, () -> site.pass(1));
        }
        due("done behind its last minute", 1, () -> site.pass(1));
        due("all at once", 3, () -> atOnce.pass(65));
        for (int lift = 0; lift < 4; lift++) {
            int load = lift;
            due("state of lift " + load, site.stateOf(load), () -> atOnce.stateOf(load));
        }
        due("none is done twice", 0, () -> atOnce.pass(240));
    }

    private static void windOrPermitChanges() {
        sentence("Time and wind", "When the wind changes, or a permit ends, each lift that is planned, and to which"
            + " the reason 'g' or 'h' applies now for its crane and its start, waits again; other lifts of its pour"
            + " stay as they are.");
        Cranepool site = twoCranes();
        int heavy = site.addLift(20, 20, 20, 20, 970, 10);
        int tooHeavy = site.addLift(20, 20, 20, 20, 969, 10);
        int farEnd = site.addLift(20, 20, 20, 30, 970, 10);
        site.planAt(heavy, 0, 0);
        site.planAt(tooHeavy, 0, 10);
        site.planAt(farEnd, 0, 20);
        due("no wind again", 0, () -> site.setWind(0));
        due("weight 970 and 969 with the limit 969", 2, () -> site.setWind(1));
        due("970 waits", 'w', () -> site.stateOf(heavy));
        due("969 stays", 'p', () -> site.stateOf(tooHeavy));
        due("970 waits, as heavy", 'w', () -> site.stateOf(farEnd));
        due("the same wind again", 0, () -> site.setWind(1));
        due("less wind plans none", 0, () -> site.setWind(0));
        due("still waiting", 'w', () -> site.stateOf(heavy));
        windAtOneEnd();
        permitOfEachMinute();
        pourInHours();
    }

    private static void windAtOneEnd() {
        Cranepool site = oneCrane();
        int to = site.addLift(20, 20, 20, 31, 909, 10);
        int from = site.addLift(20, 31, 20, 20, 909, 10);
        int near = site.addLift(20, 20, 20, 20, 909, 10);
        site.plan(to, 0);
        site.plan(from, 0);
        site.plan(near, 0);
        due("at one of both places alone", 2, () -> site.setWind(1));
        due("to a place too far", 'w', () -> site.stateOf(to));
        due("from a place too far", 'w', () -> site.stateOf(from));
        due("near enough", 'p', () -> site.stateOf(near));
    }

    private static void permitOfEachMinute() {
        int[][] rows = {{119, 0}, {120, 1}, {179, 1}, {180, 0}};
        for (int[] row : rows) {
            Cranepool site = twoCranes();
            site.planAt(cornerLift(site, 1), 0, row[0]);
            site.planAt(farLift(site, 60), 1, 120);
            due("the hour 2 and the minute " + row[0], row[1], () -> site.endPermit(0, 2, 1));
            due("state then", row[1] == 1 ? 'w' : 'p', () -> site.stateOf(0));
            due("another crane's lift", 'p', () -> site.stateOf(1));
        }
        int[][] across = {{60, 0}, {61, 1}, {239, 1}, {240, 0}};
        for (int[] row : across) {
            Cranepool site = oneCrane();
            site.planAt(cornerLift(site, 60), 0, row[0]);
            due("the hours 2 and 3 and the start " + row[0], row[1], () -> site.endPermit(0, 2, 2));
        }
    }

    private static void pourInHours() {
        Cranepool site = oneCrane();
        site.addPour(0, 0, 0, 0, 5, 60, 4, 0);
        site.planPour(0, 0);
        site.pass(61);
        due("one of the pour", 1, () -> site.endPermit(0, 3, 1));
        String states = "dupw";
        for (int lift = 0; lift < 4; lift++) {
            int load = lift;
            due("lift " + load, states.charAt(load), () -> site.stateOf(load));
        }
        due("the hours of those that are done and under way", 0, () -> site.endPermit(0, 0, 2));
        due("a storm", 1, () -> site.setWind(21));
        due("done stays", 'd', () -> site.stateOf(0));
        due("under way stays", 'u', () -> site.stateOf(1));
        due("planned waits", 'w', () -> site.stateOf(2));
        site.pass(60);
        due("under way becomes done in the storm", 'd', () -> site.stateOf(1));
    }

    private static void hoursAndMinutesOfPromises() {
        Cranepool site = new Cranepool();
        site.addCrane(0, 0, 1, 1, 1);
        int[] wrongHours = {0, 25, -1, Integer.MIN_VALUE, Integer.MAX_VALUE};
        sentence("Promise 3: permit", "- `hours`: how many hours, 1 to 24");
        for (int hours : wrongHours) {
            due("hours " + hours, ARGUMENT, () -> site.permit(0, 0, hours));
        }
        due("1 hour", 1, () -> site.permit(0, 12, 1));
        due("to the last hour", 12, () -> site.permit(0, 12, 12));
        due("beyond it", ARGUMENT, () -> site.permit(0, 12, 13));
        due("24 hours", 24, () -> site.permit(0, 0, 24));

        sentence("Promise 4: endPermit", "- `hours`: how many hours, 1 to 24");
        for (int hours : wrongHours) {
            due("hours " + hours, ARGUMENT, () -> site.endPermit(0, 0, hours));
        }
        due("beyond the last hour", ARGUMENT, () -> site.endPermit(0, 12, 13));
        due("all are left", 1440, () -> site.freeMinutes(0));
        site.endPermit(0, 12, 1);
        due("1 hour ends", 1380, () -> site.freeMinutes(0));
        site.endPermit(0, 12, 12);
        due("12 hours end", 720, () -> site.freeMinutes(0));
        site.endPermit(0, 0, 24);
        due("24 hours end", 0, () -> site.freeMinutes(0));

        sentence("Promise 12: pass", "- `minutes`: the number of minutes, 1 to 240");
        for (int minutes : new int[] {0, 241, -1, Integer.MIN_VALUE, Integer.MAX_VALUE}) {
            due("minutes " + minutes, ARGUMENT, () -> site.pass(minutes));
        }
        due("1 minute", 0, () -> site.pass(1));
        due("240 minutes", 0, () -> site.pass(240));
        due("241 then", 241, site::now);
        due("nothing is greater by it", 1, site::cranes);

        sentence("Promise 11: unplan", "Lets a lift that is planned wait again; if it is one of a pour, all lifts of"
            + " this pour that are planned.");
        Cranepool other = twoCranes();
        cornerLift(other, 10);
        cornerLift(other, 10);
        other.addPour(0, 0, 0, 0, 1, 10, 8, 0);
        other.addPour(35, 35, 35, 35, 1, 10, 2, 0);
        other.plan(0, 0);
        other.plan(1, 0);
        other.planPour(0, 0);
        other.planPour(1, 1);
        due("the last one of 8", 8, () -> other.unplan(9));
        due("the first one waits", 'w', () -> other.stateOf(2));
        due("another pour stays", 'p', () -> other.stateOf(10));
        due("one without a pour", 1, () -> other.unplan(1));
        due("another one without a pour stays", 'p', () -> other.stateOf(0));
        other.planPour(0, 0);
        other.pass(25);
        due("two are no more planned", 6, () -> other.unplan(4));
    }

    private static void questionsOfPromises() {
        Cranepool site = new Cranepool();
        site.addCrane(10, 10, 5, 50, 200);
        site.addCrane(20, 10, 5, 50, 200);
        site.addCrane(21, 10, 5, 50, 200);
        site.addCrane(13, 14, 1, 1, 1);
        site.permit(0, 0, 1);
        int lift = site.addLift(10, 10, 10, 10, 1, 60);

        sentence("Promise 16: limit", "Returns the limit, 0 if the crane does not reach the place.");
        due("reached", 40, () -> site.limit(0, 13, 14));
        due("not reached", 0, () -> site.limit(0, 14, 14));
        due("reached at the edge", 40, () -> site.limit(0, 5, 10));
        due("not reached behind the edge", 0, () -> site.limit(0, 4, 10));

        sentence("Promise 17: overlap", "Returns true if so.");
        due("they touch at 15, 10", true, () -> site.overlap(0, 1));
        due("one more apart", false, () -> site.overlap(0, 2));
        due("the other way round", false, () -> site.overlap(2, 0));
        due("one at the other's edge", true, () -> site.overlap(3, 0));
        due("the same one", true, () -> site.overlap(3, 3));

        sentence("Promise 18: bothReach", "- `other`: another crane, or the same one");
        due("one place", 1, () -> site.bothReach(0, 1));
        due("none", 0, () -> site.bothReach(2, 0));
        due("the same one", 81, () -> site.bothReach(0, 0));
        due("the same one, radius 1", 5, () -> site.bothReach(3, 3));
        due("two of its five places and itself", 3, () -> site.bothReach(0, 3));

        sentence("Promise 19: reason", "Returns the letter, '-' if there is none.");
        due("none", '-', () -> site.reason(lift, 0, 0));
        due("a minute later", 'h', () -> site.reason(lift, 0, 1));

        sentence("Promise 19: reason", "Returns the reason why a lift cannot be planned for a crane from a minute on,"
            + " as if it waited.");
        site.plan(lift, 0);
        due("planned", '-', () -> site.reason(lift, 0, 0));
        site.pass(1);
        due("under way", 'm', () -> site.reason(lift, 0, 0));
        due("under way, the next hour", 'h', () -> site.reason(lift, 0, 1));
        site.permit(0, 1, 2);
        due("under way, with a permit", '-', () -> site.reason(lift, 0, 1));
        site.pass(59);
        due("done", 'm', () -> site.reason(lift, 0, 59));
        due("done, from the present minute on", '-', () -> site.reason(lift, 0, 60));
        asIfItWaited();
    }

    private static void asIfItWaited() {
        sentence("Promise 20: earliest", "Returns the earliest minute from which a lift can be planned for a crane, as"
            + " if it waited, found from one plan to the next.");
        Cranepool site = twoCranes();
        int lift = cornerLift(site, 10);
        int other = cornerLift(site, 10);
        int pour = site.addPour(0, 0, 0, 0, 1, 10, 2, 0);
        site.planAt(lift, 0, 5);
        due("planned", 0, () -> site.earliest(lift, 0));
        due("planned, for another crane", 0, () -> site.earliest(lift, 1));
        due("another one", 15, () -> site.earliest(other, 1));
        site.pass(6);
        due("under way", 6, () -> site.earliest(lift, 0));
        site.pass(9);
        due("done", 15, () -> site.earliest(lift, 0));
        site.planPour(pour, 0);
        due("first one of a pour", 15, () -> site.earliest(2, 0));
        due("second one of a pour, behind the first", 25, () -> site.earliest(3, 0));
        passTo(site, 1431);
        due("too late in the day", UNSUPPORTED, () -> site.earliest(other, 0));
        due("too late in the day, done long ago", UNSUPPORTED, () -> site.earliest(lift, 0));
    }

    private static void sharedAndMissing() {
        Cranepool site = twoCranes();
        cornerLift(site, 10);
        site.addPour(35, 35, 39, 39, 1, 10, 2, 0);
        site.addLift(4, 4, 5, 5, 1, 10);
        site.addLift(5, 5, 5, 5, 1, 10);

        sentence("Promise 25: pourOf", "Returns the pour, -1 if it is of none.");
        int[] pourOf = {-1, 0, 0, -1, -1};
        for (int i = 0; i < pourOf.length; i++) {
            int lift = i;
            due("lift " + lift, pourOf[lift], () -> site.pourOf(lift));
        }

        sentence("Promise 27: shareAir", "- `other`: another lift, or the same one");
        due("the same one", true, () -> site.shareAir(0, 0));
        due("another one", true, () -> site.shareAir(0, 3));
        due("another one without", false, () -> site.shareAir(0, 4));
        sentence("Promise 27: shareAir", "Returns true if so.");
        due("a square of four", true, () -> site.shareAir(4, 3));
        due("the squares 0 and 63", false, () -> site.shareAir(0, 2));
        due("the square 63", true, () -> site.shareAir(1, 2));

        site.planAt(0, 0, 0);
        site.planAt(3, 0, 1430);
        String none = "Returns the lift, -1 if it has none.";
        int[][] rows = {{0, 0}, {9, 0}, {10, -1}, {1429, -1}, {1430, 3}, {1439, 3}};
        for (int[] row : rows) {
            sentence("Promise 28: liftAt", none);
            due("minute " + row[0], row[1], () -> site.liftAt(0, row[0]));
            due("crane 1, minute " + row[0], -1, () -> site.liftAt(1, row[0]));
            sentence("Promise 29: liftByMinutes", none);
            due("minute " + row[0], row[1], () -> site.liftByMinutes(0, row[0]));
            due("crane 1, minute " + row[0], -1, () -> site.liftByMinutes(1, row[0]));
        }

        sentence("Promise 38: isBroken", "Returns true if it is.");
        site.planPour(0, 1);
        due("planned", false, () -> site.isBroken(0));
        site.pass(10);
        site.unplan(2);
        due("one done, one waits", true, () -> site.isBroken(0));
    }

    private static void bitsOfPromises() {
        sentence("Promise 26: airOf", "Returns the air of a lift as bits, the square 0 as 1, the square 1 as 2, and so"
            + " on.");
        Cranepool site = new Cranepool();
        int[][] places = {{0, 0}, {5, 0}, {39, 0}, {0, 5}, {30, 35}, {35, 35}};
        long[] bits = {1L, 2L, 128L, 256L, 1L << 62, Long.MIN_VALUE};
        for (int i = 0; i < places.length; i++) {
            int lift = site.addLift(places[i][0], places[i][1], places[i][0], places[i][1], 1, 1);
            due("place " + places[i][0] + ", " + places[i][1], bits[lift], () -> site.airOf(lift));
        }

        sentence("Promise 42: code", "Returns a number that shows a crane: the column in the lowest 6 bits, the row in"
            + " the next 6 bits, the radius in the next 6 bits, and the wind in the next 6 bits.");
        site.addCrane(0, 0, 1, 999, 9999);
        site.addCrane(39, 0, 1, 999, 9999);
        site.addCrane(0, 39, 1, 999, 9999);
        site.addCrane(0, 0, 40, 999, 9999);
        site.addCrane(39, 39, 40, 1, 1);
        int[] codes = {0x1000, 0x1027, 0x19C0, 0x28000, 0x289E7};
        for (int i = 0; i < codes.length; i++) {
            int crane = i;
            site.setWind(0);
            due("crane " + crane, codes[crane], () -> site.code(crane));
            site.setWind(40);
            due("crane " + crane + " in the wind", codes[crane] + 0xA00000, () -> site.code(crane));
        }
    }

    private static void waitsOfPours() {
        sentence("Promise 37: longestWait", "Returns the longest wait between two lifts of a pour, one behind the"
            + " other.");
        Cranepool site = oneCrane();
        site.planAt(cornerLift(site, 10), 0, 0);
        site.addPour(0, 0, 0, 0, 1, 10, 3, 60);
        site.planAt(cornerLift(site, 10), 0, 500);
        site.pass(100);
        site.planPour(0, 0);
        due("lifts ahead of the pour and behind it do not count", 0, () -> site.longestWait(0));
        site.unplan(1);
        site.planAt(cornerLift(site, 60), 0, 110);
        site.planAt(cornerLift(site, 7), 0, 185);
        due("the first one is ahead of 110 still", 100, () -> site.planPour(0, 0));
        due("60 minutes, then 12", 60, () -> site.longestWait(0));
        site.pass(240);
        due("when all are done", 60, () -> site.longestWait(0));
    }

    private static void circlesAtTheBorder() {
        sentence("Promise 18: bothReach", "Returns the number of places that two cranes reach.");
        int[][] corners = {{0, 0}, {39, 0}, {0, 39}, {39, 39}};
        for (int[] corner : corners) {
            Cranepool site = new Cranepool();
            site.addCrane(corner[0], corner[1], 1, 1, 1);
            site.addCrane(20, 20, 40, 1, 1);
            site.addCrane(20, 20, 19, 1, 1);
            String told = corner[0] + ", " + corner[1];
            due("places at " + told, 3, () -> site.bothReach(0, 0));
            due("and of the whole site", 3, () -> site.bothReach(0, 1));
            due("the whole site", 1600, () -> site.bothReach(1, 1));
            due("none at " + told, 0, () -> site.bothReach(0, 2));
            due("overlap at " + told, true, () -> site.overlap(1, 0));
            due("no overlap at " + told, false, () -> site.overlap(2, 0));
        }
    }

    /** The five cranes have a lift each, the crane n in the minutes n to 4 and in the last minute of the day. */
    private static void cranesInAMinute() {
        Cranepool site = new Cranepool();
        for (int crane = 0; crane < 5; crane++) {
            site.addCrane(20, 20, 40, 999, 9999);
            site.permit(crane, 0, 24);
            site.planAt(site.addLift(5 * crane, 0, 5 * crane, 0, 1, 5 - crane), crane, crane);
            site.planAt(site.addLift(5 * crane, 39, 5 * crane, 39, 1, 1), crane, 1439);
        }
        int[][] rows = {{0, 1}, {1, 2}, {3, 4}, {4, 5}, {5, 0}, {1438, 0}, {1439, 5}};
        for (int[] row : rows) {
            long air = ((1L << row[1]) - 1) << (row[0] == 1439 ? 56 : 0);
            sentence("Promise 31: atWork", "Returns how many cranes have a lift in a minute.");
            due("minute " + row[0], row[1], () -> site.atWork(row[0]));
            sentence("Promise 32: airAt", "Returns the air of all lifts that cranes have in a minute, as bits.");
            due("minute " + row[0], air, () -> site.airAt(row[0]));
            sentence("Promise 33: squaresAt", "Returns the number of squares of the air of all lifts that cranes have"
                + " in a minute.");
            due("minute " + row[0], row[1], () -> site.squaresAt(row[0]));
        }
        site.pass(3);
        sentence("Promise 31: atWork", "Returns how many cranes have a lift in a minute.");
        due("a minute that has passed", 3, () -> site.atWork(2));
    }

    private static void sharesAndMeans() {
        String free = "Returns for how many minutes of the day a crane has a permit and no lift.";
        String share = "Returns the share of the minutes for which a crane has a permit in which it has a lift: the sum"
            + " of minutes with both divided by that of all for which it has a permit, both converted to float.";
        Cranepool site = new Cranepool();
        site.addCrane(0, 0, 1, 1, 1);
        for (int hours = 1; hours <= 24; hours++) {
            site.permit(0, hours - 1, 1);
            int minutes = 60 * hours;
            sentence("Promise 30: freeMinutes", free);
            due("hours " + hours, minutes, () -> site.freeMinutes(0));
            sentence("Promise 43: workShare", share);
            due("hours " + hours, 0.0f, () -> site.workShare(0));
        }
        for (int lift = 0; lift < 3; lift++) {
            site.addLift(0, 0, 0, 0, 1, 1);
        }
        site.planAt(0, 0, 1439);
        due("one minute of the day", 1.0f / 1440.0f, () -> site.workShare(0));
        sentence("Promise 30: freeMinutes", free);
        due("all but one minute", 1439, () -> site.freeMinutes(0));

        sentence("Promise 44: meanStart", "Returns the mean start of all lifts that are planned, under way or done: the"
            + " sum divided by their number, both converted to double.");
        due("greatest start", 1439.0, site::meanStart);
        site.plan(1, 0);
        site.planAt(2, 0, 2);
        due("three, one of them from 0 on", 1441.0 / 3.0, site::meanStart);
        site.unplan(1);
        due("half of an odd sum", 720.5, site::meanStart);
        site.unplan(0);
        due("one", 2.0, site::meanStart);
        site.pass(3);
        due("one that is done", 2.0, site::meanStart);
    }
}
