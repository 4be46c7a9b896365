import java.io.IOException;
import java.util.ArrayList;
import java.util.EnumMap;
import java.util.List;
import java.util.Map;
import java.util.function.Function;

/**
 * A test for each sentence of the document about exceptions: what is refused, by which exception, and that nothing is
 * changed by it. Each refused call is made on a site of its own, whose answers are then compared with those of a site
 * on which it was not made.
 */
public final class CranepoolRefusals extends Checks {
    private interface Asked {
        Object answer(Cranepool site, int[] numbers);
    }

    private enum Site {
        EMPTY, BUSY, FULL, OVER
    }

    private static final int MOST_CALLS = 512;
    private static final int MOST_CALLS_TO_BUILD = 60;

    // The lifts and pours of the busy site, by what they are at its present minute, 300.
    private static final int IS_DONE = 0;
    private static final int UNDER_WAY = 1;
    private static final int PLANNED = 2;
    private static final int WAITS = 3;
    private static final int TOO_HEAVY = 4;
    private static final int OF_BROKEN = 5;
    private static final int OF_PLANNED = 8;
    private static final int OF_WAITING = 10;
    private static final int BUSY_LIFTS = 12;
    private static final int BROKEN = 0;
    private static final int ALL_PLANNED = 1;
    private static final int ALL_WAIT = 2;
    private static final int BUSY_POURS = 3;
    private static final int WITHOUT_PERMIT = 2;
    private static final int BUSY_CRANES = 3;

    /** What each site answers when nothing was refused on it. */
    private static final Map<Site, List<Object>> UNTOUCHED = new EnumMap<>(Site.class);

    public static void main(String[] args) throws IOException {
        for (Site kind : Site.values()) {
            UNTOUCHED.put(kind, answers(make(kind)));
        }
        busySiteIsAsTold();
        adding();
        permits();
        winds();
        planning();
        planningPours();
        unplanning();
        passing();
        cranesAndPlaces();
        liftsAndCranes();
        liftsAlone();
        cranesAlone();
        minutesAlone();
        poursAlone();
        sharesAndMeans();
        order();
        Document.dueSentences(sentence -> sentence.contains("| Throws ") || sentence.startsWith("Exceptions"));
        finish();
    }

    private static Cranepool make(Site kind) {
        switch (kind) {
            case EMPTY:
                return new Cranepool();
            case BUSY:
                return busy();
            case FULL:
                return full();
            default:
                Cranepool site = busy();
                passTo(site, 1440);
                return site;
        }
    }

    private static Cranepool busy() {
        Cranepool site = new Cranepool();
        site.addCrane(10, 10, 15, 50, 400);
        site.addCrane(25, 10, 12, 80, 500);
        site.addCrane(10, 30, 9, 20, 100);
        site.permit(0, 0, 8);
        site.permit(1, 0, 24);
        site.addLift(5, 5, 9, 9, 30, 30);
        site.addLift(8, 8, 8, 8, 10, 60);
        site.addLift(5, 5, 5, 5, 20, 20);
        site.addLift(5, 5, 5, 5, 10, 20);
        site.addLift(5, 5, 14, 12, 999, 30);
        site.addPour(25, 10, 26, 11, 40, 60, 3, 0);
        site.addPour(27, 10, 28, 11, 20, 20, 2, 30);
        site.addPour(15, 10, 16, 11, 20, 20, 2, 30);
        site.planAt(IS_DONE, 0, 0);
        site.pass(200);
        site.planPour(BROKEN, 1);
        site.planAt(UNDER_WAY, 0, 290);
        site.planAt(PLANNED, 0, 400);
        site.pass(100);
        site.endPermit(1, 6, 1);
        site.permit(1, 6, 1);
        site.planPour(ALL_PLANNED, 1);
        site.setWind(2);
        return site;
    }

    private static Cranepool full() {
        Cranepool site = new Cranepool();
        for (int crane = 0; crane < 5; crane++) {
            site.addCrane(8 * crane, 20, 20, 100 + crane, 2000);
            site.permit(crane, 4 * crane, 6);
        }
        for (int pour = 0; pour < 6; pour++) {
            site.addPour(6 * pour, 20, 6 * pour, 22, 3 + pour, 20, 5, 10 * pour);
        }
        for (int lift = 30; lift < 40; lift++) {
            site.addLift(lift - 30, 20, lift - 30, 25, lift, lift);
        }
        site.planPour(0, 0);
        site.planPour(3, 2);
        site.plan(30, 0);
        site.plan(35, 1);
        site.pass(130);
        return site;
    }

    /** What a site answers to so many calls that a change would show in one of them. */
    private static List<Object> answers(Cranepool site) {
        List<Object> told = new ArrayList<>();
        Call[] whole = {site::now, site::cranes, site::lifts, site::pours, site::waiting, site::lifted,
            site::meanStart};
        for (Call call : whole) {
            told.add(answerOf(call));
        }
        int cranes = site.cranes();
        for (int i = 0; i < cranes; i++) {
            int crane = i;
            Call[] calls = {() -> site.code(crane), () -> site.freeMinutes(crane), () -> site.minutesOf(crane),
                () -> site.workShare(crane), () -> site.limit(crane, 12, 20), () -> site.bothReach(crane, 0)};
            for (Call call : calls) {
                told.add(answerOf(call));
            }
            for (int minute = 0; minute < 480; minute += 40) {
                int at = minute;
                told.add(answerOf(() -> site.liftByMinutes(crane, at)));
            }
        }
        for (int minute = 5; minute < 480; minute += 60) {
            int at = minute;
            told.add(answerOf(() -> site.airAt(at)));
        }
        int lifts = site.lifts();
        for (int i = 0; i < lifts; i++) {
            int lift = i;
            Call[] calls = {() -> site.stateOf(lift), () -> site.startOf(lift), () -> site.craneOf(lift),
                () -> site.pourOf(lift), () -> site.airOf(lift)};
            for (Call call : calls) {
                told.add(answerOf(call));
            }
        }
        for (int i = 0; i < Math.min(lifts, 12); i++) {
            int lift = i;
            told.add(answerOf(() -> site.reason(lift, 0, 310)));
            told.add(answerOf(() -> site.earliest(lift, 1)));
        }
        for (int i = 0; i < site.pours(); i++) {
            int pour = i;
            Call[] calls = {() -> site.firstOf(pour), () -> site.loadsOf(pour), () -> site.longestWait(pour),
                () -> site.isBroken(pour)};
            for (Call call : calls) {
                told.add(answerOf(call));
            }
        }
        answersThatChange(site, told);
        // Later calls than the 512th may answer anything: such a comparison would prove nothing.
        due("calls on one site are few enough", true, () -> told.size() + MOST_CALLS_TO_BUILD < MOST_CALLS);
        return told;
    }

    private static void answersThatChange(Cranepool site, List<Object> told) {
        Call[] last = {() -> site.addCrane(1, 1, 40, 9, 9), () -> site.addLift(1, 1, 1, 1, 1, 1),
            () -> site.addPour(1, 1, 1, 1, 1, 1, 2, 0), () -> site.pass(1), () -> site.permit(0, 9, 1),
            () -> site.planPour(ALL_WAIT, 1), () -> site.plan(WAITS, 0), () -> site.setWind(20),
            () -> site.endPermit(0, 0, 24), site::waiting};
        for (Call call : last) {
            told.add(answerOf(call));
        }
    }

    private static void busySiteIsAsTold() {
        part = "the busy site";
        Cranepool site = make(Site.BUSY);
        String states = "dupwwduwppww";
        for (int i = 0; i < BUSY_LIFTS; i++) {
            int lift = i;
            due("state of " + lift, states.charAt(lift), () -> site.stateOf(lift));
        }
        due("the first pour is broken", true, () -> site.isBroken(BROKEN));
        due("one more could be planned", '-', () -> site.reason(WAITS, 0, 350));
        due("the last pour could be planned", '-', () -> site.reason(OF_WAITING, 1, 800));
        due("one is too heavy", 'g', () -> site.reason(TOO_HEAVY, 0, 350));
        due("a crane without a permit", ARITHMETIC, () -> site.workShare(WITHOUT_PERMIT));
        due("present minute", 300, site::now);
    }

    private static void sentence(String promise, String words) {
        Document.sentence("Promise " + promise, words);
    }

    @SafeVarargs
    private static void refused(Class<?> want, Site kind, Function<Cranepool, Object>... calls) {
        for (int i = 0; i < calls.length; i++) {
            int number = i;
            Cranepool site = make(kind);
            due("call " + i + " on the site " + kind, want, () -> calls[number].apply(site));
            due("the site " + kind + " behind call " + i, UNTOUCHED.get(kind), () -> answers(site));
        }
    }

    /** Each number in turn, just out of its range and far out of it; the others are in theirs. */
    private static void refusedOutOfRange(Site kind, int[] least, int[] most, Asked asked) {
        for (int i = 0; i < least.length; i++) {
            int[] wrong = {least[i] - 1, most[i] + 1, Integer.MIN_VALUE, Integer.MAX_VALUE};
            for (int number : wrong) {
                int[] low = least.clone();
                int[] high = most.clone();
                low[i] = number;
                high[i] = number;
                refused(ARGUMENT, kind, site -> asked.answer(site, low), site -> asked.answer(site, high));
            }
        }
    }

    /** Each number in turn is that of nothing, just behind the last one, ahead of the first one or far off. */
    private static void refusedNoSuch(int[] counts, Asked asked) {
        for (int i = 0; i < counts.length; i++) {
            int[] none = {-1, counts[i], 40, Integer.MIN_VALUE, Integer.MAX_VALUE};
            for (int number : none) {
                int[] numbers = new int[counts.length];
                numbers[i] = number;
                refused(NO_SUCH, Site.BUSY, site -> asked.answer(site, numbers));
            }
        }
        refused(NO_SUCH, Site.EMPTY, site -> asked.answer(site, new int[counts.length]));
    }

    private static void adding() {
        sentence("2: addCrane", "Throws `IllegalArgumentException` if a number is out of range");
        Asked crane = Checks::addCrane;
        refusedOutOfRange(Site.BUSY, CRANE_LEAST, CRANE_MOST, crane);
        refusedOutOfRange(Site.EMPTY, CRANE_LEAST, CRANE_MOST, crane);
        sentence("2: addCrane", "Throws `IllegalStateException` if there are 5 cranes");
        refused(STATE, Site.FULL, site -> crane.answer(site, CRANE_LEAST), site -> crane.answer(site, CRANE_MOST));

        sentence("6: addLift", "Throws `IllegalArgumentException` if a number is out of range");
        Asked lift = Checks::addLift;
        refusedOutOfRange(Site.BUSY, LIFT_LEAST, LIFT_MOST, lift);
        refusedOutOfRange(Site.EMPTY, LIFT_LEAST, LIFT_MOST, lift);
        sentence("6: addLift", "Throws `IllegalStateException` if there are 40 lifts");
        refused(STATE, Site.FULL, site -> lift.answer(site, LIFT_LEAST), site -> lift.answer(site, LIFT_MOST));

        sentence("7: addPour", "Throws `IllegalArgumentException` if a number is out of range");
        Asked pour = Checks::addPour;
        refusedOutOfRange(Site.BUSY, POUR_LEAST, POUR_MOST, pour);
        refusedOutOfRange(Site.EMPTY, POUR_LEAST, POUR_MOST, pour);
        String full = "Throws `IllegalStateException` if there are 6 pours, or there would be more than 40 lifts";
        sentence("7: addPour", full);
        refused(STATE, Site.FULL, site -> pour.answer(site, POUR_LEAST), site -> pour.answer(site, POUR_MOST));
        for (int loads = 2; loads <= 8; loads++) {
            int number = loads;
            Cranepool site = new Cranepool();
            for (int i = 0; i < 41 - number; i++) {
                cornerLift(site, 1);
            }
            due("41 lifts by " + number, STATE, () -> site.addPour(0, 0, 0, 0, 1, 1, number, 0));
            due("no pour by it", 0, site::pours);
            due("no lifts by it", 41 - number, site::lifts);
            if (number > 2) {
                due("40 lifts", 0, () -> site.addPour(0, 0, 0, 0, 1, 1, number - 1, 0));
            }
        }
    }

    private static void permits() {
        String noCrane = "Throws `NoSuchElementException` if there is no such crane";
        String noHour = "Throws `IllegalArgumentException` if an hour is out of range";
        int[][] wrong = {{-1, 1}, {-1, 2}, {24, 1}, {0, 0}, {0, 25}, {0, -1}, {23, 2}, {1, 24}, {12, 13},
            {Integer.MIN_VALUE, 1}, {Integer.MAX_VALUE, 1}, {Integer.MAX_VALUE, 24}, {0, Integer.MIN_VALUE},
            {23, Integer.MAX_VALUE}, {Integer.MIN_VALUE, Integer.MIN_VALUE}};
        sentence("3: permit", noCrane);
        refusedNoSuch(new int[] {BUSY_CRANES}, (site, n) -> site.permit(n[0], 0, 24));
        sentence("3: permit", noHour);
        for (int[] hours : wrong) {
            refused(ARGUMENT, Site.BUSY, site -> site.permit(WITHOUT_PERMIT, hours[0], hours[1]));
        }
        sentence("4: endPermit", noCrane);
        refusedNoSuch(new int[] {BUSY_CRANES}, (site, n) -> site.endPermit(n[0], 0, 24));
        sentence("4: endPermit", noHour);
        for (int[] hours : wrong) {
            refused(ARGUMENT, Site.BUSY, site -> site.endPermit(0, hours[0], hours[1]),
                site -> site.endPermit(1, hours[0], hours[1]));
        }
    }

    private static void winds() {
        sentence("5: setWind", "Throws `IllegalArgumentException` if the wind is out of range");
        for (int wind : new int[] {-1, 41, Integer.MIN_VALUE, Integer.MAX_VALUE}) {
            refused(ARGUMENT, Site.BUSY, site -> site.setWind(wind));
            refused(ARGUMENT, Site.EMPTY, site -> site.setWind(wind));
        }
    }

    private static final String NO_LIFT_OR_CRANE =
        "Throws `NoSuchElementException` if there is no such lift or no such crane";
    private static final String NOT_WAITING =
        "Throws `IllegalStateException` if it does not wait, or is one of a pour";

    private static void planning() {
        int[] counts = {BUSY_LIFTS, BUSY_CRANES};
        sentence("8: plan", NO_LIFT_OR_CRANE);
        refusedNoSuch(counts, (site, n) -> site.plan(n[0], n[1]));
        refused(NO_SUCH, Site.BUSY, site -> site.plan(WAITS, BUSY_CRANES), site -> site.plan(WAITS, -1));
        sentence("8: plan", NOT_WAITING);
        for (int number : new int[] {IS_DONE, UNDER_WAY, PLANNED, OF_BROKEN, OF_BROKEN + 2, OF_PLANNED, OF_WAITING}) {
            refused(STATE, Site.BUSY, site -> site.plan(number, 0), site -> site.plan(number, WITHOUT_PERMIT));
        }
        sentence("8: plan", "Throws `UnsupportedOperationException` if it can be planned from no minute on");
        refused(UNSUPPORTED, Site.BUSY, site -> site.plan(TOO_HEAVY, 0), site -> site.plan(WAITS, 1),
            site -> site.plan(WAITS, WITHOUT_PERMIT));
        refused(UNSUPPORTED, Site.OVER, site -> site.plan(WAITS, 0), site -> site.plan(TOO_HEAVY, 1));
        noMinuteIsLeft();

        sentence("9: planAt", NO_LIFT_OR_CRANE);
        refusedNoSuch(counts, (site, n) -> site.planAt(n[0], n[1], 350));
        refused(NO_SUCH, Site.BUSY, site -> site.planAt(WAITS, BUSY_CRANES, 350), site -> site.planAt(WAITS, -1, 350));
        sentence("9: planAt", NOT_WAITING);
        for (int number : new int[] {IS_DONE, UNDER_WAY, PLANNED, OF_BROKEN, OF_BROKEN + 2, OF_PLANNED, OF_WAITING}) {
            refused(STATE, Site.BUSY, site -> site.planAt(number, 0, 450), site -> site.planAt(number, 0, -1));
        }
        sentence("9: planAt", "Throws `UnsupportedOperationException` if there is a reason why it cannot be planned");
        for (int minute : new int[] {-1, 299, 330, 349, 381, 400, 419, 461, 480, 1420, 1421, 1440, Integer.MIN_VALUE,
            Integer.MAX_VALUE}) {
            refused(UNSUPPORTED, Site.BUSY, site -> site.planAt(WAITS, 0, minute));
        }
        refused(UNSUPPORTED, Site.BUSY, site -> site.planAt(TOO_HEAVY, 0, 350), site -> site.planAt(WAITS, 1, 350),
            site -> site.planAt(WAITS, WITHOUT_PERMIT, 350));
        refused(UNSUPPORTED, Site.OVER, site -> site.planAt(WAITS, 0, 1440), site -> site.planAt(WAITS, 0, 1439));
        for (int minute : new int[] {350, 380, 420, 460}) {
            due("not refused: " + minute, minute + 20, () -> make(Site.BUSY).planAt(WAITS, 0, minute));
        }
    }

    /** The crane has one hour, of which another lift leaves some minutes. */
    private static void noMinuteIsLeft() {
        for (int left = 1; left <= 59; left += 29) {
            Cranepool site = new Cranepool();
            site.addCrane(0, 0, 1, 1, 1);
            site.permit(0, 23, 1);
            site.plan(site.addLift(0, 0, 0, 0, 1, 60 - left), 0);
            int fits = site.addLift(0, 0, 0, 0, 1, left);
            int tooLong = site.addLift(0, 0, 0, 0, 1, left + 1);
            due("one minute too long", UNSUPPORTED, () -> site.plan(tooLong, 0));
            due("just long enough", 1440 - left, () -> site.plan(fits, 0));
        }
    }

    private static void planningPours() {
        sentence("10: planPour", "Throws `NoSuchElementException` if there is no such pour or no such crane");
        refusedNoSuch(new int[] {BUSY_POURS, BUSY_CRANES}, (site, n) -> site.planPour(n[0], n[1]));
        refused(NO_SUCH, Site.BUSY, site -> site.planPour(ALL_WAIT, BUSY_CRANES), site -> site.planPour(ALL_WAIT, -1));
        sentence("10: planPour", "Throws `IllegalStateException` if one of its lifts does not wait");
        refused(STATE, Site.BUSY, site -> site.planPour(BROKEN, 1), site -> site.planPour(ALL_PLANNED, 1),
            site -> site.planPour(BROKEN, WITHOUT_PERMIT), site -> site.planPour(ALL_PLANNED, 0));
        refused(STATE, Site.OVER, site -> site.planPour(BROKEN, 1), site -> site.planPour(ALL_PLANNED, 1));
        sentence("10: planPour", "Throws `UnsupportedOperationException` if they do not fit");
        refused(UNSUPPORTED, Site.BUSY, site -> site.planPour(ALL_WAIT, WITHOUT_PERMIT));
        refused(UNSUPPORTED, Site.OVER, site -> site.planPour(ALL_WAIT, 0), site -> site.planPour(ALL_WAIT, 1));
        Cranepool site = new Cranepool();
        site.addCrane(0, 0, 5, 10, 50);
        site.permit(0, 0, 1);
        site.permit(0, 2, 1);
        int[][] pours = {{11, 1, 2, 60}, {10, 16, 8, 60}, {10, 31, 2, 59}, {10, 40, 3, 60}, {10, 60, 2, 59}};
        for (int[] row : pours) {
            int pour = site.addPour(3, 4, 3, 4, row[0], row[1], row[2], row[3]);
            due("pour " + pour + " does not fit", UNSUPPORTED, () -> site.planPour(pour, 0));
            due("its lifts wait", 'w', () -> site.stateOf(site.firstOf(pour)));
        }
        int fits = site.addPour(3, 4, 3, 4, 10, 60, 2, 60);
        due("60 minutes with a wait of 60 fit", 0, () -> site.planPour(fits, 0));
    }

    private static void unplanning() {
        sentence("11: unplan", "Throws `NoSuchElementException` if there is no such lift");
        refusedNoSuch(new int[] {BUSY_LIFTS}, (site, n) -> site.unplan(n[0]));
        sentence("11: unplan", "Throws `IllegalStateException` if it is not planned");
        for (int number : new int[] {IS_DONE, UNDER_WAY, WAITS, TOO_HEAVY, OF_BROKEN, OF_BROKEN + 1, OF_BROKEN + 2,
            OF_WAITING}) {
            refused(STATE, Site.BUSY, site -> site.unplan(number));
        }
        refused(STATE, Site.OVER, site -> site.unplan(PLANNED), site -> site.unplan(OF_PLANNED));
    }

    private static void passing() {
        sentence("12: pass", "Throws `IllegalArgumentException` if the number is out of range");
        for (int minutes : new int[] {0, -1, 241, Integer.MIN_VALUE, Integer.MAX_VALUE}) {
            refused(ARGUMENT, Site.BUSY, site -> site.pass(minutes));
            refused(ARGUMENT, Site.OVER, site -> site.pass(minutes));
        }
        sentence("12: pass", "Throws `IllegalStateException` if the present minute would be greater than 1440");
        refused(STATE, Site.OVER, site -> site.pass(1), site -> site.pass(240));
        for (int left = 1; left < 240; left += 17) {
            int minutes = left;
            Cranepool site = twoCranes();
            int planned = cornerLift(site, 1);
            site.planAt(planned, 0, 1439);
            passTo(site, 1440 - minutes);
            due("one more than " + minutes, STATE, () -> site.pass(minutes + 1));
            due("no minute passes", 1440 - minutes, site::now);
            due("no lift is done", 'p', () -> site.stateOf(planned));
            due("just " + minutes, 1, () -> site.pass(minutes));
        }
    }

    private static void cranesAndPlaces() {
        sentence("16: limit", "Throws `NoSuchElementException` if there is no such crane");
        refusedNoSuch(new int[] {BUSY_CRANES}, (site, n) -> site.limit(n[0], 10, 10));
        sentence("16: limit", "Throws `IllegalArgumentException` if there is no such place");
        refusedOutOfRange(Site.BUSY, new int[] {0, 0}, new int[] {39, 39}, (site, n) -> site.limit(1, n[0], n[1]));
        sentence("17: overlap", "Throws `NoSuchElementException` if one of both cranes does not exist");
        refusedNoSuch(new int[] {BUSY_CRANES, BUSY_CRANES}, (site, n) -> site.overlap(n[0], n[1]));
        refused(NO_SUCH, Site.BUSY, site -> site.overlap(3, 3), site -> site.overlap(-1, -1));
        sentence("18: bothReach", "Throws `NoSuchElementException` if one of both cranes does not exist");
        refusedNoSuch(new int[] {BUSY_CRANES, BUSY_CRANES}, (site, n) -> site.bothReach(n[0], n[1]));
        refused(NO_SUCH, Site.BUSY, site -> site.bothReach(3, 3), site -> site.bothReach(-1, -1));
    }

    private static void liftsAndCranes() {
        int[] counts = {BUSY_LIFTS, BUSY_CRANES};
        sentence("19: reason", NO_LIFT_OR_CRANE);
        refusedNoSuch(counts, (site, n) -> site.reason(n[0], n[1], 350));
        refusedNoSuch(counts, (site, n) -> site.reason(n[0], n[1], -1));
        String none = "Throws `UnsupportedOperationException` if there is none";
        sentence("20: earliest", NO_LIFT_OR_CRANE);
        refusedNoSuch(counts, (site, n) -> site.earliest(n[0], n[1]));
        sentence("20: earliest", none);
        refused(UNSUPPORTED, Site.BUSY, site -> site.earliest(TOO_HEAVY, 0), site -> site.earliest(WAITS, 1),
            site -> site.earliest(WAITS, WITHOUT_PERMIT));
        refused(UNSUPPORTED, Site.OVER, site -> site.earliest(WAITS, 0), site -> site.earliest(OF_BROKEN, 1));
        sentence("21: earliestByMinutes", NO_LIFT_OR_CRANE);
        refusedNoSuch(counts, (site, n) -> site.earliestByMinutes(n[0], n[1]));
        sentence("21: earliestByMinutes", none);
        refused(UNSUPPORTED, Site.BUSY, site -> site.earliestByMinutes(TOO_HEAVY, 0),
            site -> site.earliestByMinutes(WAITS, 1), site -> site.earliestByMinutes(WAITS, WITHOUT_PERMIT));
        refused(UNSUPPORTED, Site.OVER, site -> site.earliestByMinutes(WAITS, 0),
            site -> site.earliestByMinutes(OF_BROKEN, 1));
    }

    private static void liftsAlone() {
        String noLift = "Throws `NoSuchElementException` if there is no such lift";
        String hasNone = "Throws `IllegalStateException` if it is not planned, under way or done";
        int[] lifts = {BUSY_LIFTS};
        int[] waiting = {WAITS, TOO_HEAVY, OF_BROKEN + 2, OF_WAITING};
        sentence("22: stateOf", noLift);
        refusedNoSuch(lifts, (site, n) -> site.stateOf(n[0]));
        sentence("23: startOf", noLift);
        refusedNoSuch(lifts, (site, n) -> site.startOf(n[0]));
        sentence("23: startOf", hasNone);
        for (int number : waiting) {
            refused(STATE, Site.BUSY, site -> site.startOf(number));
        }
        sentence("24: craneOf", noLift);
        refusedNoSuch(lifts, (site, n) -> site.craneOf(n[0]));
        sentence("24: craneOf", hasNone);
        for (int number : waiting) {
            refused(STATE, Site.BUSY, site -> site.craneOf(number));
        }
        sentence("25: pourOf", noLift);
        refusedNoSuch(lifts, (site, n) -> site.pourOf(n[0]));
        sentence("26: airOf", noLift);
        refusedNoSuch(lifts, (site, n) -> site.airOf(n[0]));
        sentence("27: shareAir", "Throws `NoSuchElementException` if one of both lifts does not exist");
        refusedNoSuch(new int[] {BUSY_LIFTS, BUSY_LIFTS}, (site, n) -> site.shareAir(n[0], n[1]));
        refused(NO_SUCH, Site.BUSY, site -> site.shareAir(12, 12), site -> site.shareAir(-1, -1));
    }

    private static void cranesAlone() {
        String noCrane = "Throws `NoSuchElementException` if there is no such crane";
        int[] cranes = {BUSY_CRANES};
        sentence("28: liftAt", noCrane);
        refusedNoSuch(cranes, (site, n) -> site.liftAt(n[0], 0));
        sentence("29: liftByMinutes", noCrane);
        refusedNoSuch(cranes, (site, n) -> site.liftByMinutes(n[0], 0));
        sentence("30: freeMinutes", noCrane);
        refusedNoSuch(cranes, (site, n) -> site.freeMinutes(n[0]));
        sentence("40: minutesOf", noCrane);
        refusedNoSuch(cranes, (site, n) -> site.minutesOf(n[0]));
        sentence("42: code", noCrane);
        refusedNoSuch(cranes, (site, n) -> site.code(n[0]));
        sentence("43: workShare", noCrane);
        refusedNoSuch(cranes, (site, n) -> site.workShare(n[0]));
    }

    private static void minutesAlone() {
        String noMinute = "Throws `IllegalArgumentException` if there is no such minute";
        int[] first = {0};
        int[] last = {1439};
        sentence("28: liftAt", noMinute);
        refusedOutOfRange(Site.BUSY, first, last, (site, n) -> site.liftAt(0, n[0]));
        refusedOutOfRange(Site.OVER, first, last, (site, n) -> site.liftAt(1, n[0]));
        sentence("29: liftByMinutes", noMinute);
        refusedOutOfRange(Site.BUSY, first, last, (site, n) -> site.liftByMinutes(0, n[0]));
        refusedOutOfRange(Site.OVER, first, last, (site, n) -> site.liftByMinutes(1, n[0]));
        sentence("31: atWork", noMinute);
        refusedOutOfRange(Site.BUSY, first, last, (site, n) -> site.atWork(n[0]));
        refusedOutOfRange(Site.EMPTY, first, last, (site, n) -> site.atWork(n[0]));
        sentence("32: airAt", noMinute);
        refusedOutOfRange(Site.BUSY, first, last, (site, n) -> site.airAt(n[0]));
        refusedOutOfRange(Site.EMPTY, first, last, (site, n) -> site.airAt(n[0]));
        sentence("33: squaresAt", noMinute);
        refusedOutOfRange(Site.BUSY, first, last, (site, n) -> site.squaresAt(n[0]));
        refusedOutOfRange(Site.EMPTY, first, last, (site, n) -> site.squaresAt(n[0]));
        Cranepool empty = new Cranepool();
        for (int minute : new int[] {0, 1439}) {
            due("none at work in " + minute, 0, () -> empty.atWork(minute));
            due("no air in " + minute, 0L, () -> empty.airAt(minute));
            due("no square in " + minute, 0, () -> empty.squaresAt(minute));
        }
    }

    private static void poursAlone() {
        String noPour = "Throws `NoSuchElementException` if there is no such pour";
        int[] pours = {BUSY_POURS};
        sentence("35: firstOf", noPour);
        refusedNoSuch(pours, (site, n) -> site.firstOf(n[0]));
        sentence("36: loadsOf", noPour);
        refusedNoSuch(pours, (site, n) -> site.loadsOf(n[0]));
        sentence("37: longestWait", noPour);
        refusedNoSuch(pours, (site, n) -> site.longestWait(n[0]));
        sentence("37: longestWait", "Throws `IllegalStateException` if one of its lifts waits");
        refused(STATE, Site.BUSY, site -> site.longestWait(BROKEN), site -> site.longestWait(ALL_WAIT));
        refused(STATE, Site.OVER, site -> site.longestWait(BROKEN), site -> site.longestWait(ALL_WAIT));
        sentence("38: isBroken", noPour);
        refusedNoSuch(pours, (site, n) -> site.isBroken(n[0]));
    }

    private static void sharesAndMeans() {
        sentence("43: workShare", "Throws `ArithmeticException` if it has no permit");
        refused(ARITHMETIC, Site.BUSY, site -> site.workShare(WITHOUT_PERMIT));
        Cranepool site = oneCrane();
        site.plan(cornerLift(site, 60), 0);
        site.pass(60);
        site.endPermit(0, 1, 23);
        due("one hour is left", 1.0f, () -> site.workShare(0));
        site.endPermit(0, 0, 1);
        due("none is left, with a lift done", ARITHMETIC, () -> site.workShare(0));

        sentence("44: meanStart", "Throws `ArithmeticException` if there are none");
        refused(ARITHMETIC, Site.EMPTY, Cranepool::meanStart);
        Cranepool other = oneCrane();
        int lift = cornerLift(other, 1);
        due("one waits", ARITHMETIC, other::meanStart);
        other.plan(lift, 0);
        due("one is planned from 0 on", 0.0, other::meanStart);
        other.unplan(lift);
        due("one waits again", ARITHMETIC, other::meanStart);
    }

    private static void order() {
        Document.sentence("Exceptions", "A method that throws an exception changes nothing.");
        refused(NO_SUCH, Site.FULL, site -> site.endPermit(5, 0, 24), site -> site.permit(5, 0, 24));
        refused(ARGUMENT, Site.FULL, site -> site.setWind(41), site -> site.pass(241));
        refused(STATE, Site.FULL, site -> site.planPour(0, 0), site -> site.planPour(3, 4));
        refused(UNSUPPORTED, Site.FULL, site -> site.planPour(5, 0), site -> site.planAt(39, 4, 300));
        Document.sentence("Exceptions", "If several exceptions apply, the one that is listed first is thrown.");
        refused(ARGUMENT, Site.FULL, site -> site.addCrane(40, 0, 1, 1, 1), site -> site.addCrane(0, 0, 1, 1, 10000),
            site -> site.addLift(0, 0, 0, 40, 1, 1), site -> site.addLift(0, 0, 0, 0, 1, 61),
            site -> site.addPour(0, 0, 0, 0, 1, 1, 9, 0), site -> site.addPour(0, 0, 0, 0, 1, 1, 8, 61),
            site -> site.addPour(0, 0, 0, 0, 1, 1, Integer.MAX_VALUE, 0));
        refused(NO_SUCH, Site.BUSY, site -> site.permit(3, 24, 1), site -> site.permit(-1, 0, 0),
            site -> site.endPermit(3, -1, 1), site -> site.endPermit(-1, 0, 25), site -> site.limit(3, 40, 0),
            site -> site.limit(-1, 0, -1), site -> site.liftAt(3, 1440), site -> site.liftAt(-1, -1),
            site -> site.liftByMinutes(3, 1440), site -> site.liftByMinutes(-1, -1));
        refused(NO_SUCH, Site.BUSY, site -> site.plan(PLANNED, 3), site -> site.plan(OF_WAITING, -1),
            site -> site.plan(TOO_HEAVY, 3), site -> site.plan(BUSY_LIFTS, WITHOUT_PERMIT),
            site -> site.planAt(PLANNED, 3, 350), site -> site.planAt(TOO_HEAVY, 3, -1),
            site -> site.planAt(BUSY_LIFTS, WITHOUT_PERMIT, -1), site -> site.planPour(ALL_PLANNED, 3),
            site -> site.planPour(BROKEN, -1), site -> site.planPour(BUSY_POURS, WITHOUT_PERMIT),
            site -> site.earliest(TOO_HEAVY, 3), site -> site.earliest(BUSY_LIFTS, WITHOUT_PERMIT),
            site -> site.earliestByMinutes(TOO_HEAVY, 3), site -> site.earliestByMinutes(BUSY_LIFTS, WITHOUT_PERMIT));
        refused(STATE, Site.BUSY, site -> site.plan(PLANNED, WITHOUT_PERMIT), site -> site.plan(UNDER_WAY, 1),
            site -> site.plan(OF_WAITING, WITHOUT_PERMIT), site -> site.planAt(PLANNED, WITHOUT_PERMIT, 350),
            site -> site.planAt(OF_WAITING, 0, 1440), site -> site.planPour(ALL_PLANNED, WITHOUT_PERMIT));
        refused(ARGUMENT, Site.OVER, site -> site.pass(241), site -> site.pass(0), site -> site.pass(-1));
        refused(STATE, Site.OVER, site -> site.plan(IS_DONE, 0), site -> site.planAt(OF_WAITING, 0, 0),
            site -> site.planPour(ALL_PLANNED, 0));
    }
}
