import java.lang.reflect.InvocationTargetException;
import java.lang.reflect.Method;
import java.util.ArrayList;
import java.util.Arrays;
import java.util.List;
import java.util.NoSuchElementException;

/** Compares made-up runs of calls with a plain model that keeps rows of all minutes and tries every minute. */
public final class CranepoolModelRuns {
    /** Each call with the kinds of its numbers; the first ones change the site and are called more often. */
    private static final String[] CHANGES = {
        "addCrane column row radius weight moment", "permit crane hour hours", "permit crane hour hours",
        "endPermit crane hour hours", "setWind wind", "addLift column row column row load minutes",
        "addLift column row column row load minutes", "addPour column row column row load minutes loads wait",
        "plan lift crane", "plan lift crane", "planAt lift crane minute", "planAt lift crane minute",
        "planPour pour crane", "planPour pour crane", "unplan lift", "pass pass"};
    private static final String[] QUESTIONS = {
        "now", "cranes", "lifts", "limit crane column row", "overlap crane crane", "bothReach crane crane",
        "reason lift crane minute", "reason lift crane minute", "earliest lift crane", "earliestByMinutes lift crane",
        "stateOf lift", "startOf lift", "craneOf lift", "pourOf lift", "airOf lift", "shareAir lift lift",
        "liftAt crane minute", "liftByMinutes crane minute", "freeMinutes crane", "atWork minute", "airAt minute",
        "squaresAt minute", "pours", "firstOf pour", "loadsOf pour", "longestWait pour", "isBroken pour", "waiting",
        "minutesOf crane", "lifted", "code crane", "workShare crane", "meanStart"};
    /** Where cranes are strong and lifts are many: the calls that make pours wait for other lifts. */
    private static final String[] CROWDED = {
        "planAt lift crane minute", "planAt lift crane minute", "planAt lift crane minute", "plan lift crane",
        "planPour pour crane", "planPour pour crane", "planPour pour crane", "unplan lift", "unplan lift",
        "longestWait pour", "isBroken pour", "pass pass"};
    private static final int CROWDED_STYLE = 4;
    private static final int RUNS = 1000;
    /** With the questions about each lift at a run's end, no object has more than 512 calls. */
    private static final int CALLS = 350;

    private static long seed;

    public static void main(String[] args) throws IllegalAccessException {
        int calls = 0;
        int wrong = 0;
        for (int run = 0; run < RUNS && wrong < 5; run++) {
            seed = run * 7919L + 17;
            int style = run % 2 == 0 ? next(4) : CROWDED_STYLE;
            Cranepool site = new Cranepool();
            Model model = new Model();
            List<String> told = new ArrayList<>();
            boolean same = true;
            for (int call = 0; call < CALLS && same; call++) {
                String[] words = pick(call, style).split(" ");
                Object[] numbers = numbers(words, model, style);
                Object due = answer(model, words[0], numbers);
                Object got = answer(site, words[0], numbers);
                told.add(words[0] + Arrays.toString(numbers) + " = " + due);
                same = due.equals(got);
                calls++;
                if (!same) {
                    System.out.println("run " + run + ": " + String.join("; ", told) + " -- but answered " + got);
                }
            }
            same = same && sameStates(run, site, model);
            wrong += same ? 0 : 1;
        }
        System.out.println(calls + " calls compared, " + wrong + " runs differ");
        if (wrong > 0) {
            System.exit(1);
        }
    }

    private static boolean sameStates(int run, Cranepool site, Model model) throws IllegalAccessException {
        for (int lift = 0; lift < model.lifts(); lift++) {
            for (String name : new String[] {"stateOf", "startOf", "craneOf", "pourOf"}) {
                Object[] numbers = {lift};
                Object due = answer(model, name, numbers);
                Object got = answer(site, name, numbers);
                if (!due.equals(got)) {
                    System.out.println("run " + run + ", at its end: " + name + "(" + lift + ") = " + got + ", due " + due);
                    return false;
                }
            }
        }
        return true;
    }

    private static int next(int bound) {
        seed = seed * 6364136223846793005L + 1442695040888963407L;
        return (int) Math.floorMod(seed >>> 33, (long) bound);
    }

    private static String pick(int call, int style) {
        if (call < 3) {
            return CHANGES[0];
        }
        if (call < 6) {
            return CHANGES[1];
        }
        if (call < 20 + 5 * style) {
            return CHANGES[5 + next(3)];
        }
        if (style == CROWDED_STYLE) {
            return pickCrowded();
        }
        String chosen = next(5) < 3 ? CHANGES[next(CHANGES.length)] : QUESTIONS[next(QUESTIONS.length)];
        boolean rare = chosen.startsWith("endPermit") || chosen.startsWith("setWind") || chosen.startsWith("pass");
        return rare && next(4) != 0 ? CHANGES[8 + next(6)] : chosen;
    }

    private static String pickCrowded() {
        int chosen = next(20);
        if (chosen < CROWDED.length) {
            return CROWDED[chosen];
        }
        // Permits and the wind change seldom, or hardly a lift would stay planned.
        return chosen == CROWDED.length ? CHANGES[1 + next(4)] : QUESTIONS[next(QUESTIONS.length)];
    }

    private static Object[] numbers(String[] words, Model model, int style) {
        Object[] numbers = new Object[words.length - 1];
        for (int i = 1; i < words.length; i++) {
            numbers[i - 1] = next(60) == 0 ? odd()
                : style == CROWDED_STYLE ? crowdedNumber(words[i], model) : number(words[i], model, style);
        }
        return numbers;
    }

    private static int odd() {
        int[] odd = {-1, 0, 1, 5, 6, 8, 9, 20, 21, 24, 25, 39, 40, 41, 60, 61, 240, 241, 999, 1000, 1439, 1440, 9999, 10000,
            Integer.MAX_VALUE, Integer.MIN_VALUE};
        return odd[next(odd.length)];
    }

    private static int number(String kind, Model model, int style) {
        switch (kind) {
            case "crane":
                return next(Math.max(1, model.cranes()));
            case "lift":
                return next(Math.max(1, model.lifts()));
            case "pour":
                return next(Math.max(1, model.pours()));
            case "column":
            case "row":
                return style == 0 ? next(40) : 10 + next(style * 8);
            case "radius":
                return style == 0 ? 1 + next(40) : 15 + next(26);
            case "weight":
                return 1 + next(style == 1 ? 60 : 999);
            case "moment":
                return 1 + next(style == 1 ? 600 : 9999);
            case "load":
                return 1 + next(style == 1 ? 30 : next(2) == 0 ? 999 : 80);
            case "minutes":
                return 1 + next(style == 3 ? 12 : 60);
            case "loads":
                return 2 + next(7);
            case "wait":
                return next(61) * next(2);
            case "hour":
                return next(next(3) == 0 ? 24 : 8);
            case "hours":
                return 1 + next(next(3) == 0 ? 17 : 4);
            case "wind":
                return next(next(3) == 0 ? 41 : 12);
            case "pass":
                return 1 + next(next(6) == 0 ? 240 : 40);
            case "minute":
                return next(4) == 0 ? next(1440) : model.now() - 5 + next(200);
            default:
                throw new IllegalStateException(kind);
        }
    }

    private static int crowdedNumber(String kind, Model model) {
        switch (kind) {
            case "column":
            case "row":
                return 14 + next(10);
            case "radius":
                return 30 + next(11);
            case "weight":
                return 500 + next(500);
            case "moment":
                return 5000 + next(5000);
            case "load":
                return 1 + next(next(3) == 0 ? 600 : 150);
            case "minutes":
                return 1 + next(25);
            case "wait":
                return next(61);
            case "hour":
                return next(12);
            case "hours":
                return 1 + next(12);
            default:
                return number(kind, model, CROWDED_STYLE);
        }
    }

    private static Object answer(Object on, String name, Object[] numbers) throws IllegalAccessException {
        Class<?>[] kinds = new Class<?>[numbers.length];
        Arrays.fill(kinds, int.class);
        try {
            Method method = on.getClass().getDeclaredMethod(name, kinds);
            return method.invoke(on, numbers);
        } catch (NoSuchMethodException e) {
            throw new IllegalStateException(name, e);
        } catch (InvocationTargetException e) {
            return e.getCause().getClass().getName();
        }
    }

    /** The document once more, as slow and as plain as can be. */
    static final class Model {
        private static final class Lift {
            int[] places;
            int weight;
            int minutes;
            int pour = -1;
            char state = 'w';
            int start;
            int crane;
        }

        private final List<int[]> cranes = new ArrayList<>();
        private final List<boolean[]> permits = new ArrayList<>();
        private final List<Lift> lifts = new ArrayList<>();
        private final List<int[]> pours = new ArrayList<>();
        private int wind;
        private int now;

        public int addCrane(int column, int row, int radius, int weight, int moment) {
            place(column, row);
            range(radius >= 1 && radius <= 40 && weight >= 1 && weight <= 999 && moment >= 1 && moment <= 9999);
            state(cranes.size() < 5);
            cranes.add(new int[] {column, row, radius, weight, moment});
            permits.add(new boolean[24]);
            return cranes.size() - 1;
        }

        public int permit(int crane, int hour, int hours) {
            exists(crane, cranes.size());
            hours(hour, hours);
            for (int i = 0; i < hours; i++) {
                permits.get(crane)[hour + i] = true;
            }
            int count = 0;
            for (boolean has : permits.get(crane)) {
                count += has ? 1 : 0;
            }
            return count;
        }

        public int endPermit(int crane, int hour, int hours) {
            exists(crane, cranes.size());
            hours(hour, hours);
            for (int i = 0; i < hours; i++) {
                permits.get(crane)[hour + i] = false;
            }
            return settle();
        }

        public int setWind(int wind) {
            range(wind >= 0 && wind <= 40);
            this.wind = wind;
            return settle();
        }

        private int settle() {
            int count = 0;
            for (int i = 0; i < lifts.size(); i++) {
                Lift lift = lifts.get(i);
                if (lift.state == 'p') {
                    char reason = reason(i, lift.crane, lift.start);
                    if (reason == 'g' || reason == 'h') {
                        lift.state = 'w';
                        count++;
                    }
                }
            }
            return count;
        }

        public int addLift(int column, int row, int toColumn, int toRow, int weight, int minutes) {
            burden(column, row, toColumn, toRow, weight, minutes);
            state(lifts.size() < 40);
            Lift lift = new Lift();
            lift.places = new int[] {column, row, toColumn, toRow};
            lift.weight = weight;
            lift.minutes = minutes;
            lifts.add(lift);
            return lifts.size() - 1;
        }

        public int addPour(int column, int row, int toColumn, int toRow, int weight, int minutes, int loads, int wait) {
            burden(column, row, toColumn, toRow, weight, minutes);
            range(loads >= 2 && loads <= 8 && wait >= 0 && wait <= 60);
            state(pours.size() < 6 && lifts.size() + loads <= 40);
            pours.add(new int[] {lifts.size(), loads, wait});
            for (int i = 0; i < loads; i++) {
                lifts.get(addLift(column, row, toColumn, toRow, weight, minutes)).pour = pours.size() - 1;
            }
            return pours.size() - 1;
        }

        public int plan(int lift, int crane) {
            exists(lift, lifts.size());
            exists(crane, cranes.size());
            state(lifts.get(lift).state == 'w' && lifts.get(lift).pour < 0);
            int start = from(lift, crane, now);
            supported(start >= 0);
            put(lift, crane, start);
            return start;
        }

        public int planAt(int lift, int crane, int minute) {
            exists(lift, lifts.size());
            exists(crane, cranes.size());
            state(lifts.get(lift).state == 'w' && lifts.get(lift).pour < 0);
            supported(reason(lift, crane, minute) == '-');
            put(lift, crane, minute);
            return minute + lifts.get(lift).minutes;
        }

        private void put(int lift, int crane, int start) {
            lifts.get(lift).state = 'p';
            lifts.get(lift).crane = crane;
            lifts.get(lift).start = start;
        }

        public int planPour(int pour, int crane) {
            exists(pour, pours.size());
            exists(crane, cranes.size());
            int[] row = pours.get(pour);
            for (int i = 0; i < row[1]; i++) {
                state(lifts.get(row[0] + i).state == 'w');
            }
            for (int first = now; first < 1440; first++) {
                if (reason(row[0], crane, first) == '-' && putAll(row, crane, first)) {
                    return first;
                }
            }
            throw new UnsupportedOperationException();
        }

        /** Really plans one lift behind the other, and takes all back if one does not fit. */
        private boolean putAll(int[] row, int crane, int first) {
            put(row[0], crane, first);
            for (int i = 1; i < row[1]; i++) {
                int end = lifts.get(row[0] + i - 1).start + lifts.get(row[0]).minutes;
                int start = from(row[0] + i, crane, end);
                if (start < 0 || start - end > row[2]) {
                    for (int k = 0; k < i; k++) {
                        lifts.get(row[0] + k).state = 'w';
                    }
                    return false;
                }
                put(row[0] + i, crane, start);
            }
            return true;
        }

        public int unplan(int lift) {
            exists(lift, lifts.size());
            state(lifts.get(lift).state == 'p');
            int count = 0;
            for (int i = 0; i < lifts.size(); i++) {
                Lift other = lifts.get(i);
                boolean together = i == lift || other.pour >= 0 && other.pour == lifts.get(lift).pour;
                if (together && other.state == 'p') {
                    count++;
                }
            }
            int pour = lifts.get(lift).pour;
            for (int i = 0; i < lifts.size(); i++) {
                if (i == lift || pour >= 0 && lifts.get(i).pour == pour && lifts.get(i).state == 'p') {
                    lifts.get(i).state = 'w';
                }
            }
            return count;
        }

        public int pass(int minutes) {
            range(minutes >= 1 && minutes <= 240);
            state(now + minutes <= 1440);
            int count = 0;
            for (int i = 0; i < minutes; i++) {
                now++;
                for (Lift lift : lifts) {
                    if (lift.state == 'p' || lift.state == 'u') {
                        if (lift.start + lift.minutes - 1 < now) {
                            lift.state = 'd';
                            count++;
                        } else if (lift.start < now) {
                            lift.state = 'u';
                        }
                    }
                }
            }
            return count;
        }

        public int now() {
            return now;
        }

        public int cranes() {
            return cranes.size();
        }

        public int lifts() {
            return lifts.size();
        }

        public int limit(int crane, int column, int row) {
            exists(crane, cranes.size());
            place(column, row);
            int[] hook = cranes.get(crane);
            int square = (column - hook[0]) * (column - hook[0]) + (row - hook[1]) * (row - hook[1]);
            if (square > hook[2] * hook[2] || wind > 20) {
                return 0;
            }
            int distance = Math.max(1, (int) Math.ceil(Math.sqrt(square)));
            int most = Math.min(hook[3], hook[4] / distance);
            return (int) Math.floor((most * 100 - most * 3 * wind) / 100.0);
        }

        private boolean reaches(int crane, int column, int row) {
            int[] hook = cranes.get(crane);
            return Math.pow(column - hook[0], 2) + Math.pow(row - hook[1], 2) <= Math.pow(hook[2], 2);
        }

        public boolean overlap(int crane, int other) {
            return bothReach(crane, other) > 0;
        }

        public int bothReach(int crane, int other) {
            exists(crane, cranes.size());
            exists(other, cranes.size());
            int count = 0;
            for (int place = 0; place < 1600; place++) {
                count += reaches(crane, place % 40, place / 40) && reaches(other, place % 40, place / 40) ? 1 : 0;
            }
            return count;
        }

        public char reason(int lift, int crane, int minute) {
            exists(lift, lifts.size());
            exists(crane, cranes.size());
            Lift load = lifts.get(lift);
            int[] at = load.places;
            if (!reaches(crane, at[0], at[1]) || !reaches(crane, at[2], at[3])) {
                return 'r';
            }
            if (load.weight > limit(crane, at[0], at[1]) || load.weight > limit(crane, at[2], at[3])) {
                return 'g';
            }
            if (minute < now || (long) minute + load.minutes > 1440) {
                return 'm';
            }
            for (int i = 0; i < load.minutes; i++) {
                if (!permits.get(crane)[(minute + i) / 60]) {
                    return 'h';
                }
            }
            boolean air = false;
            for (int i = 0; i < lifts.size(); i++) {
                Lift other = lifts.get(i);
                if (i != lift && other.state != 'w' && together(other, minute, load.minutes)) {
                    if (other.crane == crane) {
                        return 'c';
                    }
                    air |= shareAir(i, lift);
                }
            }
            return air ? 'a' : '-';
        }

        private static boolean together(Lift lift, int minute, int minutes) {
            for (int i = 0; i < minutes; i++) {
                if (minute + i >= lift.start && minute + i < lift.start + lift.minutes) {
                    return true;
                }
            }
            return false;
        }

        private int from(int lift, int crane, int from) {
            for (int minute = from; minute < 1440; minute++) {
                if (reason(lift, crane, minute) == '-') {
                    return minute;
                }
            }
            return -1;
        }

        public int earliest(int lift, int crane) {
            exists(lift, lifts.size());
            exists(crane, cranes.size());
            int start = from(lift, crane, now);
            supported(start >= 0);
            return start;
        }

        public int earliestByMinutes(int lift, int crane) {
            return earliest(lift, crane);
        }

        public char stateOf(int lift) {
            exists(lift, lifts.size());
            return lifts.get(lift).state;
        }

        public int startOf(int lift) {
            state(stateOf(lift) != 'w');
            return lifts.get(lift).start;
        }

        public int craneOf(int lift) {
            state(stateOf(lift) != 'w');
            return lifts.get(lift).crane;
        }

        public int pourOf(int lift) {
            exists(lift, lifts.size());
            return lifts.get(lift).pour;
        }

        public long airOf(int lift) {
            exists(lift, lifts.size());
            int[] at = lifts.get(lift).places;
            long air = 0;
            for (int column = Math.min(at[0], at[2]); column <= Math.max(at[0], at[2]); column++) {
                for (int row = Math.min(at[1], at[3]); row <= Math.max(at[1], at[3]); row++) {
                    air |= 1L << (8 * (row / 5) + column / 5);
                }
            }
            return air;
        }

        public boolean shareAir(int lift, int other) {
            return (airOf(lift) & airOf(other)) != 0;
        }

        private int[] row(int crane) {
            int[] row = new int[1440];
            Arrays.fill(row, -1);
            for (int i = 0; i < lifts.size(); i++) {
                Lift lift = lifts.get(i);
                for (int k = 0; lift.state != 'w' && lift.crane == crane && k < lift.minutes; k++) {
                    row[lift.start + k] = i;
                }
            }
            return row;
        }

        public int liftAt(int crane, int minute) {
            exists(crane, cranes.size());
            minute(minute);
            return row(crane)[minute];
        }

        public int liftByMinutes(int crane, int minute) {
            return liftAt(crane, minute);
        }

        private int[] countMinutes(int crane) {
            exists(crane, cranes.size());
            int[] row = row(crane);
            int[] count = new int[2];
            for (int minute = 0; minute < 1440; minute++) {
                if (permits.get(crane)[minute / 60]) {
                    count[row[minute] < 0 ? 0 : 1]++;
                }
            }
            return count;
        }

        public int freeMinutes(int crane) {
            return countMinutes(crane)[0];
        }

        public int atWork(int minute) {
            minute(minute);
            int count = 0;
            for (int crane = 0; crane < cranes.size(); crane++) {
                count += row(crane)[minute] >= 0 ? 1 : 0;
            }
            return count;
        }

        public long airAt(int minute) {
            minute(minute);
            long air = 0;
            for (int crane = 0; crane < cranes.size(); crane++) {
                int lift = row(crane)[minute];
                air |= lift < 0 ? 0 : airOf(lift);
            }
            return air;
        }

        public int squaresAt(int minute) {
            long air = airAt(minute);
            int count = 0;
            for (int square = 0; square < 64; square++) {
                count += (air >>> square & 1) == 1 ? 1 : 0;
            }
            return count;
        }

        public int pours() {
            return pours.size();
        }

        public int firstOf(int pour) {
            exists(pour, pours.size());
            return pours.get(pour)[0];
        }

        public int loadsOf(int pour) {
            exists(pour, pours.size());
            return pours.get(pour)[1];
        }

        public int longestWait(int pour) {
            exists(pour, pours.size());
            int[] row = pours.get(pour);
            int longest = 0;
            for (int i = 0; i < row[1]; i++) {
                Lift lift = lifts.get(row[0] + i);
                state(lift.state != 'w');
                if (i > 0) {
                    longest = Math.max(longest, lift.start - lifts.get(row[0] + i - 1).start - lift.minutes);
                }
            }
            return longest;
        }

        public boolean isBroken(int pour) {
            exists(pour, pours.size());
            boolean waits = false;
            boolean begun = false;
            for (Lift lift : lifts) {
                waits |= lift.pour == pour && lift.state == 'w';
                begun |= lift.pour == pour && (lift.state == 'u' || lift.state == 'd');
            }
            return waits && begun;
        }

        public int waiting() {
            int count = 0;
            for (Lift lift : lifts) {
                count += lift.state == 'w' ? 1 : 0;
            }
            return count;
        }

        public int minutesOf(int crane) {
            exists(crane, cranes.size());
            int count = 0;
            for (int lift : row(crane)) {
                count += lift < 0 ? 0 : 1;
            }
            return count;
        }

        public long lifted() {
            long sum = 0;
            for (Lift lift : lifts) {
                sum += lift.state == 'd' ? lift.weight : 0;
            }
            return sum;
        }

        public int code(int crane) {
            exists(crane, cranes.size());
            int[] hook = cranes.get(crane);
            return hook[0] + 64 * (hook[1] + 64 * (hook[2] + 64 * wind));
        }

        public float workShare(int crane) {
            int[] count = countMinutes(crane);
            if (count[0] + count[1] == 0) {
                throw new ArithmeticException();
            }
            return (float) count[1] / (float) (count[0] + count[1]);
        }

        public double meanStart() {
            int sum = 0;
            int count = 0;
            for (Lift lift : lifts) {
                if (lift.state != 'w') {
                    sum += lift.start;
                    count++;
                }
            }
            if (count == 0) {
                throw new ArithmeticException();
            }
            return (double) sum / (double) count;
        }

        private static void burden(int column, int row, int toColumn, int toRow, int weight, int minutes) {
            place(column, row);
            place(toColumn, toRow);
            range(weight >= 1 && weight <= 999 && minutes >= 1 && minutes <= 60);
        }

        private static void place(int column, int row) {
            range(column >= 0 && column <= 39 && row >= 0 && row <= 39);
        }

        private static void minute(int minute) {
            range(minute >= 0 && minute <= 1439);
        }

        private static void hours(int hour, int hours) {
            range(hour >= 0 && hour <= 23 && hours >= 1 && hours <= 24 && hour + hours <= 24);
        }

        private static void exists(int number, int count) {
            if (number < 0 || number >= count) {
                throw new NoSuchElementException();
            }
        }

        private static void range(boolean holds) {
            if (!holds) {
                throw new IllegalArgumentException();
            }
        }

        private static void state(boolean holds) {
            if (!holds) {
                throw new IllegalStateException();
            }
        }

        private static void supported(boolean holds) {
            if (!holds) {
                throw new UnsupportedOperationException();
            }
        }
    }
}
