/** At least one test for each promise of the document: ordinary inputs, its edges, and wrong inputs. */
public final class CranepoolPromises extends Checks {
    public static void main(String[] args) {
        newObject();
        addCrane();
        permit();
        endPermit();
        setWind();
        addLift();
        addPour();
        plan();
        planAt();
        planPour();
        planPourWaits();
        unplan();
        pass();
        now();
        cranes();
        lifts();
        limit();
        overlap();
        bothReach();
        reason();
        reasonOrder();
        earliest();
        earliestByMinutes();
        stateOf();
        startOf();
        craneOf();
        pourOf();
        airOf();
        shareAir();
        liftAt();
        liftByMinutes();
        freeMinutes();
        atWork();
        airAt();
        squaresAt();
        pours();
        firstOf();
        loadsOf();
        longestWait();
        isBroken();
        waiting();
        minutesOf();
        lifted();
        code();
        workShare();
        meanStart();
        finish();
    }

    private static void newObject() {
        part = "promise 1";
        Cranepool site = new Cranepool();
        due("cranes", 0, site::cranes);
        due("lifts", 0, site::lifts);
        due("pours", 0, site::pours);
        due("now", 0, site::now);
        due("waiting", 0, site::waiting);
        due("lifted", 0L, site::lifted);
        due("airAt", 0L, () -> site.airAt(0));
        due("crane 0", NO_SUCH, () -> site.code(0));
        due("lift 0", NO_SUCH, () -> site.stateOf(0));
        due("pour 0", NO_SUCH, () -> site.firstOf(0));
        site.addCrane(1, 2, 3, 4, 5);
        due("the wind at first", 1 + 2 * 64 + 3 * 4096, () -> site.code(0));
        due("permits at first", ARITHMETIC, () -> site.workShare(0));
        Cranepool other = new Cranepool();
        due("another object", 0, other::cranes);
    }

    private static void addCrane() {
        part = "promise 2";
        Cranepool site = new Cranepool();
        for (int i = 0; i < 5; i++) {
            int[] below = with(CRANE_LEAST, i, CRANE_LEAST[i] - 1);
            int[] above = with(CRANE_MOST, i, CRANE_MOST[i] + 1);
            due("number " + i + " too low", ARGUMENT, () -> addCrane(site, below));
            due("number " + i + " too high", ARGUMENT, () -> addCrane(site, above));
        }
        due("what throws adds nothing", 0, site::cranes);
        due("least numbers", 0, () -> addCrane(site, CRANE_LEAST));
        due("most numbers", 1, () -> addCrane(site, CRANE_MOST));
        due("third", 2, () -> site.addCrane(5, 6, 7, 8, 9));
        due("the same again", 3, () -> site.addCrane(5, 6, 7, 8, 9));
        due("fifth", 4, () -> site.addCrane(1, 1, 1, 1, 1));
        due("sixth", STATE, () -> site.addCrane(1, 1, 1, 1, 1));
        due("sixth with a wrong number", ARGUMENT, () -> site.addCrane(1, 1, 41, 1, 1));
        due("five stay", 5, site::cranes);
        due("the sixth is none", NO_SUCH, () -> site.code(5));
        due("kept column, row and radius", 5 + 6 * 64 + 7 * 4096, () -> site.code(3));
        due("kept weight", 8, () -> site.limit(3, 5, 6));
        due("kept moment", 4, () -> site.limit(3, 7, 6));
    }

    private static void permit() {
        part = "promise 3";
        Cranepool site = new Cranepool();
        site.addCrane(10, 10, 15, 50, 400);
        site.addCrane(10, 10, 15, 50, 400);
        due("first hour", 1, () -> site.permit(0, 0, 1));
        due("last hour", 2, () -> site.permit(0, 23, 1));
        due("hours between", 6, () -> site.permit(0, 10, 4));
        due("hours that it has already", 8, () -> site.permit(0, 9, 6));
        due("another crane", 3, () -> site.permit(1, 5, 3));
        due("all hours", 24, () -> site.permit(0, 0, 24));
        int lift = site.addLift(10, 10, 10, 11, 1, 1);
        due("hour before", 'h', () -> site.reason(lift, 1, 299));
        due("first minute", '-', () -> site.reason(lift, 1, 300));
        due("last minute", '-', () -> site.reason(lift, 1, 479));
        due("hour behind", 'h', () -> site.reason(lift, 1, 480));
        int[][] wrongHours = {{-1, 1}, {24, 1}, {0, 0}, {0, 25}, {23, 2}, {1, 24}, {20, 5}, {0, -1}, {-1, 24},
            {Integer.MAX_VALUE, 1}, {Integer.MIN_VALUE, 24}, {1, Integer.MAX_VALUE}, {1, Integer.MIN_VALUE}};
        for (int[] hours : wrongHours) {
            due("hours " + hours[0] + ", " + hours[1], ARGUMENT, () -> site.permit(1, hours[0], hours[1]));
        }
        due("what throws gives none", 4, () -> site.permit(1, 5, 4));
        dueForNoNumbers("permit", crane -> site.permit(crane, 0, 1));
        due("no crane goes first", NO_SUCH, () -> site.permit(2, -1, 99));
    }

    private static void endPermit() {
        part = "promise 4";
        Cranepool site = twoCranes();
        int early = cornerLift(site, 60);
        int across = cornerLift(site, 20);
        int late = cornerLift(site, 60);
        int others = farLift(site, 60);
        site.planAt(early, 0, 60);
        site.planAt(across, 0, 170);
        site.planAt(late, 0, 240);
        site.planAt(others, 1, 60);
        due("an hour with a lift", 1, () -> site.endPermit(0, 4, 1));
        due("it waits", 'w', () -> site.stateOf(late));
        due("an hour without lifts", 0, () -> site.endPermit(0, 5, 1));
        due("hour of the last minutes", 1, () -> site.endPermit(0, 3, 1));
        due("lift across two hours", 'w', () -> site.stateOf(across));
        due("lift of another hour", 'p', () -> site.stateOf(early));
        due("without a permit", 0, () -> site.endPermit(0, 3, 2));
        due("of another crane", 'p', () -> site.stateOf(others));
        due("all hours", 1, () -> site.endPermit(0, 0, 24));
        due("the other crane's lift stays", 'p', () -> site.stateOf(others));
        due("no permit is left", ARITHMETIC, () -> site.workShare(0));
        due("start is gone", STATE, () -> site.startOf(early));
        endPermitUnderWay();
        int[][] wrongHours = {{-1, 1}, {24, 1}, {0, 0}, {0, 25}, {23, 2}, {Integer.MAX_VALUE, 1},
            {Integer.MIN_VALUE, 24}, {1, Integer.MAX_VALUE}, {1, Integer.MIN_VALUE}};
        for (int[] hours : wrongHours) {
            due("hours " + hours[0] + ", " + hours[1], ARGUMENT, () -> site.endPermit(1, hours[0], hours[1]));
        }
        due("what throws ends none", 1440 - 60, () -> site.freeMinutes(1));
        dueForNoNumbers("endPermit", crane -> site.endPermit(crane, 0, 1));
        due("no crane goes first", NO_SUCH, () -> site.endPermit(2, -1, 99));
    }

    private static void endPermitUnderWay() {
        Cranepool site = oneCrane();
        int pour = site.addPour(0, 0, 1, 1, 5, 30, 3, 0);
        site.planPour(pour, 0);
        site.pass(30);
        int[] first = {site.firstOf(pour)};
        due("lift done", 'd', () -> site.stateOf(first[0]));
        due("start at the present minute is planned", 'p', () -> site.stateOf(first[0] + 1));
        site.pass(1);
        due("only planned ones wait again", 1, () -> site.endPermit(0, 0, 24));
        due("done stays", 'd', () -> site.stateOf(first[0]));
        due("under way stays", 'u', () -> site.stateOf(first[0] + 1));
        due("planned waits", 'w', () -> site.stateOf(first[0] + 2));
        due("pour is broken", true, () -> site.isBroken(pour));
    }

    private static void setWind() {
        part = "promise 5";
        Cranepool site = twoCranes();
        int heavy = site.addLift(20, 20, 20, 20, 900, 10);
        int light = site.addLift(20, 20, 20, 20, 399, 10);
        int pour = site.addPour(20, 20, 20, 20, 800, 10, 2, 0);
        site.plan(heavy, 0);
        site.plan(light, 0);
        site.planPour(pour, 0);
        due("still light enough", 0, () -> site.setWind(3));
        due("909 is the limit", 909, () -> site.limit(0, 20, 20));
        due("one too heavy", 1, () -> site.setWind(4));
        due("it waits", 'w', () -> site.stateOf(heavy));
        due("lifts of a pour", 2, () -> site.setWind(20));
        due("399 at wind 20", 399, () -> site.limit(0, 20, 20));
        due("it may stay", 'p', () -> site.stateOf(light));
        due("storm", 1, () -> site.setWind(21));
        due("none is left", 4, site::waiting);
        due("greatest wind", 0, () -> site.setWind(40));
        due("no limit then", 0, () -> site.limit(0, 20, 20));
        due("too high", ARGUMENT, () -> site.setWind(41));
        due("too low", ARGUMENT, () -> site.setWind(-1));
        due("least number", ARGUMENT, () -> site.setWind(Integer.MIN_VALUE));
        due("what throws changes nothing", 40, () -> site.code(0) >> 18);
        due("no wind", 0, () -> site.setWind(0));
        due("nothing is planned by it", 4, site::waiting);
        due("limit again", 999, () -> site.limit(0, 20, 20));
        setWindUnderWay();
    }

    private static void setWindUnderWay() {
        Cranepool site = twoCranes();
        int done = cornerLift(site, 10);
        int underWay = cornerLift(site, 10);
        int planned = cornerLift(site, 10);
        int far = farLift(site, 10);
        site.plan(done, 0);
        site.plan(underWay, 0);
        site.plan(planned, 0);
        site.planAt(far, 1, 19);
        site.pass(19);
        due("planned ones of all cranes", 2, () -> site.setWind(40));
        due("done stays", 'd', () -> site.stateOf(done));
        due("under way stays", 'u', () -> site.stateOf(underWay));
        due("planned waits", 'w', () -> site.stateOf(planned));
        due("planned for the present minute waits", 'w', () -> site.stateOf(far));
    }

    private static void addLift() {
        part = "promise 6";
        Cranepool site = new Cranepool();
        for (int i = 0; i < 6; i++) {
            int[] below = with(LIFT_LEAST, i, LIFT_LEAST[i] - 1);
            int[] above = with(LIFT_MOST, i, LIFT_MOST[i] + 1);
            due("number " + i + " too low", ARGUMENT, () -> addLift(site, below));
            due("number " + i + " too high", ARGUMENT, () -> addLift(site, above));
        }
        due("what throws adds nothing", 0, site::lifts);
        due("least numbers", 0, () -> addLift(site, LIFT_LEAST));
        due("most numbers", 1, () -> addLift(site, LIFT_MOST));
        due("it waits", 'w', () -> site.stateOf(1));
        due("it is of no pour", -1, () -> site.pourOf(1));
        for (int i = 2; i < 40; i++) {
            int number = i;
            due("lift " + i, number, () -> site.addLift(1, 2, 3, 4, 5, 6));
        }
        due("one too many", STATE, () -> site.addLift(1, 2, 3, 4, 5, 6));
        due("one too many, and wrong", ARGUMENT, () -> site.addLift(1, 2, 3, 4, 0, 6));
        due("40 stay", 40, site::lifts);
    }

    private static void addPour() {
        part = "promise 7";
        Cranepool site = new Cranepool();
        for (int i = 0; i < 8; i++) {
            int[] below = with(POUR_LEAST, i, POUR_LEAST[i] - 1);
            int[] above = with(POUR_MOST, i, POUR_MOST[i] + 1);
            due("number " + i + " too low", ARGUMENT, () -> addPour(site, below));
            due("number " + i + " too high", ARGUMENT, () -> addPour(site, above));
        }
        due("huge number of lifts", ARGUMENT, () -> site.addPour(0, 0, 0, 0, 1, 1, Integer.MAX_VALUE, 0));
        due("what throws adds nothing", 0, () -> site.lifts() + site.pours());
        due("least numbers", 0, () -> addPour(site, POUR_LEAST));
        due("most numbers", 1, () -> addPour(site, POUR_MOST));
        due("lifts", 10, site::lifts);
        due("all wait", 10, site::waiting);
        due("first pour", 0, () -> site.pourOf(1));
        due("second pour", 1, () -> site.pourOf(2));
        due("a lift behind", 10, () -> site.addLift(0, 0, 0, 0, 1, 1));
        for (int i = 2; i < 5; i++) {
            int number = i;
            due("pour " + i, number, () -> site.addPour(0, 0, 0, 0, 1, 1, 8, 0));
        }
        due("35 lifts", 35, site::lifts);
        due("41 lifts", STATE, () -> site.addPour(0, 0, 0, 0, 1, 1, 6, 0));
        due("what throws adds nothing", 35 * 100 + 5, () -> site.lifts() * 100 + site.pours());
        due("40 lifts", 5, () -> site.addPour(0, 0, 0, 0, 1, 1, 5, 0));
        due("a pour more, wrong", ARGUMENT, () -> site.addPour(0, 0, 0, 0, 1, 1, 1, 0));
        Cranepool small = new Cranepool();
        for (int i = 0; i < 6; i++) {
            small.addPour(0, 0, 0, 0, 1, 1, 2, 0);
        }
        due("seventh pour", STATE, () -> small.addPour(0, 0, 0, 0, 1, 1, 2, 0));
        due("no lifts of it", 12, small::lifts);
        due("the seventh is none", NO_SUCH, () -> small.firstOf(6));
    }

    private static void plan() {
        part = "promise 8";
        Cranepool site = twoCranes();
        int one = cornerLift(site, 30);
        int two = cornerLift(site, 45);
        int three = cornerLift(site, 5);
        int far = farLift(site, 60);
        int pour = site.addPour(0, 0, 0, 0, 1, 1, 2, 0);
        due("at once", 0, () -> site.plan(one, 0));
        due("behind the lift ahead", 30, () -> site.plan(two, 0));
        due("behind the air of the other crane", 75, () -> site.plan(three, 1));
        due("free air", 0, () -> site.plan(far, 1));
        due("its crane", 1, () -> site.craneOf(far));
        due("its state", 'p', () -> site.stateOf(far));
        due("planned already", STATE, () -> site.plan(one, 1));
        due("of a pour", STATE, () -> site.plan(site.firstOf(pour), 0));
        dueForNoNumbers("no lift", lift -> site.plan(lift, 0));
        dueForNoNumbers("no crane", crane -> site.plan(one, crane));
        due("no crane goes first", NO_SUCH, () -> site.plan(one, 2));
        site.pass(240);
        int late = cornerLift(site, 1);
        due("not before the present minute", 240, () -> site.plan(late, 0));
        due("done is no more waiting", STATE, () -> site.plan(one, 0));
        planNowhere();
    }

    private static void planNowhere() {
        Cranepool site = new Cranepool();
        site.addCrane(0, 0, 5, 10, 50);
        int near = site.addLift(0, 0, 3, 4, 10, 60);
        int far = site.addLift(0, 0, 3, 5, 10, 60);
        int heavy = site.addLift(0, 0, 3, 4, 11, 60);
        due("no permit", UNSUPPORTED, () -> site.plan(near, 0));
        site.permit(0, 23, 1);
        due("out of reach", UNSUPPORTED, () -> site.plan(far, 0));
        due("too heavy", UNSUPPORTED, () -> site.plan(heavy, 0));
        due("last hour", 1380, () -> site.plan(near, 0));
        int minute = site.addLift(0, 0, 0, 0, 1, 1);
        due("no room", UNSUPPORTED, () -> site.plan(minute, 0));
        due("what throws plans nothing", 'w', () -> site.stateOf(minute));
    }

    private static void planAt() {
        part = "promise 9";
        Cranepool site = twoCranes();
        int one = cornerLift(site, 30);
        int two = cornerLift(site, 30);
        int far = farLift(site, 60);
        int pour = site.addPour(0, 0, 0, 0, 1, 1, 2, 0);
        due("minute behind", 130, () -> site.planAt(one, 0, 100));
        due("its start", 100, () -> site.startOf(one));
        due("its crane", 0, () -> site.craneOf(one));
        due("in the crane's time", UNSUPPORTED, () -> site.planAt(two, 0, 129));
        due("in the air's time", UNSUPPORTED, () -> site.planAt(two, 1, 71));
        due("before the day", UNSUPPORTED, () -> site.planAt(two, 0, -1));
        due("far before the day", UNSUPPORTED, () -> site.planAt(two, 0, Integer.MIN_VALUE));
        due("over the day's end", UNSUPPORTED, () -> site.planAt(two, 0, 1411));
        due("far behind the day", UNSUPPORTED, () -> site.planAt(two, 0, Integer.MAX_VALUE));
        due("what throws plans nothing", 'w', () -> site.stateOf(two));
        due("free air", 160, () -> site.planAt(far, 1, 100));
        due("up to the lift behind", 100, () -> site.planAt(two, 1, 70));
        due("planned already", STATE, () -> site.planAt(one, 0, 500));
        due("of a pour", STATE, () -> site.planAt(site.firstOf(pour), 0, 500));
        due("of a pour, with a reason", STATE, () -> site.planAt(site.firstOf(pour), 0, -1));
        dueForNoNumbers("no lift", lift -> site.planAt(lift, 0, 0));
        dueForNoNumbers("no crane", crane -> site.planAt(one, crane, -1));
        int last = cornerLift(site, 60);
        due("to the day's end", 1440, () -> site.planAt(last, 0, 1380));
        site.pass(10);
        int late = cornerLift(site, 1);
        due("past minute", UNSUPPORTED, () -> site.planAt(late, 0, 9));
        due("present minute", 11, () -> site.planAt(late, 0, 10));
    }

    private static void planPour() {
        part = "promise 10";
        Cranepool site = twoCranes();
        int pour = site.addPour(0, 0, 0, 0, 1, 20, 3, 0);
        int single = cornerLift(site, 10);
        site.planAt(single, 1, 30);
        due("behind the air", 40, () -> site.planPour(pour, 0));
        for (int i = 0; i < 3; i++) {
            int load = i;
            due("start " + i, 40 + 20 * i, () -> site.startOf(load));
            due("state " + i, 'p', () -> site.stateOf(load));
            due("crane " + i, 0, () -> site.craneOf(load));
        }
        due("planned already", STATE, () -> site.planPour(pour, 1));
        dueForNoNumbers("no pour", number -> site.planPour(number, 0));
        dueForNoNumbers("no crane", crane -> site.planPour(pour, crane));
        due("no such pour yet", NO_SUCH, () -> site.planPour(1, 0));
        due("no crane goes first", NO_SUCH, () -> site.planPour(pour, 2));
        site.pass(50);
        site.endPermit(0, 1, 1);
        due("one does not wait", STATE, () -> site.planPour(pour, 1));
        int later = site.addPour(0, 0, 0, 0, 1, 60, 2, 60);
        due("behind the lift under way and the hour", 120, () -> site.planPour(later, 0));
        Cranepool empty = oneCrane();
        empty.addPour(0, 0, 0, 0, 1, 20, 3, 0);
        empty.pass(100);
        due("not before the present minute", 100, () -> empty.planPour(0, 0));
    }

    private static void planPourWaits() {
        // The crane 1 has the air in the minutes 20 to 29; the crane 0 has permits for the first two hours.
        for (int wait = 8; wait <= 12; wait++) {
            int longest = wait >= 11 ? 11 : wait == 10 ? 10 : 0;
            Cranepool site = twoCranes();
            site.endPermit(0, 2, 22);
            site.planAt(cornerLift(site, 10), 1, 20);
            int pour = site.addPour(0, 0, 0, 0, 1, 19, 2, wait);
            due("first one with a wait of " + wait, wait >= 11 ? 0 : wait == 10 ? 1 : 30, () -> site.planPour(pour, 0));
            due("second one with a wait of " + wait, wait >= 10 ? 30 : 49, () -> site.startOf(2));
            due("longest wait", longest, () -> site.longestWait(pour));
        }
        planPourHours();
        planPourNowhere();
    }

    private static void planPourHours() {
        Cranepool site = new Cranepool();
        site.addCrane(0, 0, 1, 1, 1);
        site.permit(0, 0, 1);
        site.permit(0, 3, 1);
        int pour = site.addPour(0, 0, 0, 0, 1, 25, 3, 60);
        due("120 minutes without a permit", UNSUPPORTED, () -> site.planPour(pour, 0));
        due("none of it is planned", 3, site::waiting);
        site.permit(0, 2, 1);
        due("60 minutes without a permit: two lifts before", 10, () -> site.planPour(pour, 0));
        due("second", 35, () -> site.startOf(1));
        due("third", 120, () -> site.startOf(2));
    }

    private static void planPourNowhere() {
        Cranepool weak = new Cranepool();
        weak.addCrane(0, 0, 5, 10, 50);
        weak.permit(0, 0, 1);
        int[] pours = {weak.addPour(0, 0, 3, 4, 11, 1, 2, 9), weak.addPour(0, 0, 5, 1, 1, 1, 2, 9),
            weak.addPour(0, 0, 3, 4, 10, 8, 8, 9), weak.addPour(0, 0, 3, 4, 10, 10, 6, 0)};
        due("too heavy", UNSUPPORTED, () -> weak.planPour(pours[0], 0));
        due("out of reach", UNSUPPORTED, () -> weak.planPour(pours[1], 0));
        due("too many minutes", UNSUPPORTED, () -> weak.planPour(pours[2], 0));
        due("just enough minutes", 0, () -> weak.planPour(pours[3], 0));
    }

    private static void unplan() {
        part = "promise 11";
        Cranepool site = oneCrane();
        int one = cornerLift(site, 30);
        int two = cornerLift(site, 30);
        int pour = site.addPour(0, 0, 0, 0, 1, 10, 3, 0);
        int first = site.firstOf(pour);
        due("it waits", STATE, () -> site.unplan(one));
        site.plan(one, 0);
        site.plan(two, 0);
        due("one", 1, () -> site.unplan(one));
        due("its state", 'w', () -> site.stateOf(one));
        due("the other one stays", 'p', () -> site.stateOf(two));
        due("its time is free", 0, () -> site.plan(one, 0));
        site.planPour(pour, 0);
        due("all of a pour", 3, () -> site.unplan(first + 1));
        due("they wait", 3, site::waiting);
        site.planPour(pour, 0);
        site.pass(71);
        due("done", STATE, () -> site.unplan(one));
        due("under way", STATE, () -> site.unplan(first + 1));
        due("done one of a pour", STATE, () -> site.unplan(first));
        due("planned ones of a pour", 1, () -> site.unplan(first + 2));
        due("done stays", 'd', () -> site.stateOf(first));
        due("under way stays", 'u', () -> site.stateOf(first + 1));
        dueForNoNumbers("unplan", site::unplan);
    }

    private static void pass() {
        part = "promise 12";
        Cranepool site = twoCranes();
        int one = cornerLift(site, 10);
        int two = cornerLift(site, 1);
        int far = farLift(site, 60);
        int waits = cornerLift(site, 1);
        site.plan(one, 0);
        site.plan(two, 0);
        site.plan(far, 1);
        due("one minute", 0, () -> site.pass(1));
        due("under way", 'u', () -> site.stateOf(one));
        due("not yet", 'p', () -> site.stateOf(two));
        due("to the last minute", 0, () -> site.pass(8));
        due("last minute", 'u', () -> site.stateOf(one));
        due("behind the last minute", 1, () -> site.pass(1));
        due("done", 'd', () -> site.stateOf(one));
        due("starts now", 'p', () -> site.stateOf(two));
        due("many, two done", 2, () -> site.pass(240));
        due("waits still", 'w', () -> site.stateOf(waits));
        due("too few", ARGUMENT, () -> site.pass(0));
        due("negative", ARGUMENT, () -> site.pass(-1));
        due("too many", ARGUMENT, () -> site.pass(241));
        due("far too many", ARGUMENT, () -> site.pass(Integer.MAX_VALUE));
        due("what throws passes nothing", 250, site::now);
        for (int i = 0; i < 4; i++) {
            site.pass(240);
        }
        int last = cornerLift(site, 10);
        site.planAt(last, 0, 1430);
        due("over the day", STATE, () -> site.pass(231));
        due("over the day, wrong number", ARGUMENT, () -> site.pass(241));
        due("what throws passes nothing", 1210, site::now);
        due("to the day's end", 1, () -> site.pass(230));
        due("at the day's end", STATE, () -> site.pass(1));
        due("1440", 1440, site::now);
    }

    private static void now() {
        part = "promise 13";
        Cranepool site = new Cranepool();
        due("first", 0, site::now);
        site.pass(7);
        due("7", 7, site::now);
        site.pass(240);
        due("247", 247, site::now);
    }

    private static void cranes() {
        part = "promise 14";
        Cranepool site = new Cranepool();
        for (int i = 0; i < 5; i++) {
            int count = i;
            due("count", count, site::cranes);
            site.addCrane(i, 0, 1, 1, 1);
        }
        due("count", 5, site::cranes);
        due("none but these", 0, site::lifts);
    }

    private static void lifts() {
        part = "promise 15";
        Cranepool site = new Cranepool();
        site.addLift(0, 0, 0, 0, 1, 1);
        due("a lift", 1, site::lifts);
        site.addPour(0, 0, 0, 0, 1, 1, 4, 0);
        due("and those of a pour", 5, site::lifts);
    }

    private static void limit() {
        part = "promise 16";
        Cranepool site = new Cranepool();
        site.addCrane(10, 10, 5, 50, 203);
        site.addCrane(0, 0, 40, 999, 9999);
        due("its own place", 50, () -> site.limit(0, 10, 10));
        due("next place", 50, () -> site.limit(0, 11, 10));
        due("4 away, greatest weight", 50, () -> site.limit(0, 14, 10));
        due("5 away", 40, () -> site.limit(0, 13, 14));
        due("square 17 is a distance of 5", 40, () -> site.limit(0, 14, 11));
        due("reached at the edge", 40, () -> site.limit(0, 15, 10));
        due("square 26 is not reached", 0, () -> site.limit(0, 15, 11));
        due("square 25 below", 40, () -> site.limit(0, 7, 6));
        due("far corner is not reached", 0, () -> site.limit(1, 39, 39));
        due("square 1600", 249, () -> site.limit(1, 24, 32));
        due("square 1597 is a distance of 40", 249, () -> site.limit(1, 21, 34));
        site.setWind(1);
        due("3 percent less", 48, () -> site.limit(0, 10, 10));
        due("38.8", 38, () -> site.limit(0, 13, 14));
        site.setWind(20);
        due("60 percent less", 20, () -> site.limit(0, 10, 10));
        due("999 with wind 20", 399, () -> site.limit(1, 0, 0));
        site.setWind(21);
        due("storm", 0, () -> site.limit(0, 10, 10));
        site.setWind(40);
        due("greatest storm", 0, () -> site.limit(0, 10, 10));
        int[][] places = {{-1, 0}, {0, -1}, {40, 0}, {0, 40}, {Integer.MIN_VALUE, 0}, {0, Integer.MAX_VALUE}};
        for (int[] place : places) {
            due("place " + place[0] + ", " + place[1], ARGUMENT, () -> site.limit(0, place[0], place[1]));
        }
        dueForNoNumbers("limit", crane -> site.limit(crane, 0, 0));
        due("no crane goes first", NO_SUCH, () -> site.limit(2, -1, 0));
        Cranepool weak = new Cranepool();
        weak.addCrane(0, 0, 40, 999, 39);
        due("moment as great as the distance", 1, () -> weak.limit(0, 0, 39));
        due("moment less than the distance", 0, () -> weak.limit(0, 21, 34));
    }

    private static void overlap() {
        part = "promise 17";
        Cranepool site = new Cranepool();
        site.addCrane(0, 0, 3, 1, 1);
        site.addCrane(6, 0, 3, 1, 1);
        site.addCrane(7, 0, 3, 1, 1);
        site.addCrane(20, 20, 2, 1, 1);
        due("one place in common", true, () -> site.overlap(0, 1));
        due("circles do not touch", false, () -> site.overlap(0, 2));
        due("the other way round", true, () -> site.overlap(2, 1));
        due("itself", true, () -> site.overlap(3, 3));
        dueForNoNumbers("overlap", crane -> site.overlap(crane, 0));
        dueForNoNumbers("overlap", crane -> site.overlap(0, crane));
        due("no fifth crane yet", NO_SUCH, () -> site.overlap(0, 4));
        site.addCrane(22, 22, 1, 1, 1);
        due("circles meet, but at no place", false, () -> site.overlap(3, 4));
    }

    private static void bothReach() {
        part = "promise 18";
        Cranepool site = new Cranepool();
        site.addCrane(10, 10, 2, 1, 1);
        site.addCrane(0, 0, 1, 1, 1);
        site.addCrane(12, 10, 1, 1, 1);
        site.addCrane(39, 39, 40, 1, 1);
        site.addCrane(20, 20, 40, 1, 1);
        due("the same one", 13, () -> site.bothReach(0, 0));
        due("in the corner", 3, () -> site.bothReach(1, 1));
        due("two of them", 2, () -> site.bothReach(0, 2));
        due("the other way round", 2, () -> site.bothReach(2, 0));
        due("none", 0, () -> site.bothReach(0, 1));
        due("one that reaches the whole site", 1600, () -> site.bothReach(4, 4));
        due("small in the whole site", 13, () -> site.bothReach(0, 4));
        due("small not in the corner's circle", 0, () -> site.bothReach(1, 3));
        dueForNoNumbers("bothReach", crane -> site.bothReach(crane, 0));
        dueForNoNumbers("bothReach", crane -> site.bothReach(0, crane));
    }

    private static void reason() {
        part = "promise 19";
        Cranepool site = new Cranepool();
        site.addCrane(10, 10, 5, 50, 200);
        site.addCrane(12, 10, 5, 50, 200);
        site.permit(0, 0, 2);
        site.permit(1, 0, 24);
        int lift = site.addLift(10, 10, 15, 10, 40, 30);
        int far = site.addLift(10, 10, 16, 10, 40, 30);
        int fromFar = site.addLift(16, 10, 10, 10, 40, 30);
        int heavy = site.addLift(10, 10, 15, 10, 41, 30);
        int fromHeavy = site.addLift(15, 10, 10, 10, 41, 30);
        int other = site.addLift(10, 10, 10, 10, 1, 30);
        int elsewhere = site.addLift(9, 9, 9, 9, 1, 30);
        due("none", '-', () -> site.reason(lift, 0, 0));
        due("to a place out of reach", 'r', () -> site.reason(far, 0, 0));
        due("from a place out of reach", 'r', () -> site.reason(fromFar, 0, 0));
        due("too heavy there", 'g', () -> site.reason(heavy, 0, 0));
        due("too heavy here", 'g', () -> site.reason(fromHeavy, 0, 0));
        due("last minutes with a permit", '-', () -> site.reason(lift, 0, 90));
        due("last minute without a permit", 'h', () -> site.reason(lift, 0, 91));
        due("first hour without a permit", 'h', () -> site.reason(lift, 0, 120));
        due("last minutes of the day", 'h', () -> site.reason(lift, 0, 1410));
        due("over the day's end", 'm', () -> site.reason(lift, 0, 1411));
        due("no minute", 'm', () -> site.reason(lift, 0, -1));
        due("least minute", 'm', () -> site.reason(lift, 0, Integer.MIN_VALUE));
        due("greatest minute", 'm', () -> site.reason(lift, 0, Integer.MAX_VALUE));
        site.planAt(other, 1, 40);
        due("ends before the air", '-', () -> site.reason(lift, 0, 10));
        due("ends in the air", 'a', () -> site.reason(lift, 0, 11));
        due("starts in the air", 'a', () -> site.reason(lift, 0, 69));
        due("starts behind the air", '-', () -> site.reason(lift, 0, 70));
        due("other air", '-', () -> site.reason(elsewhere, 0, 40));
        due("the same crane", 'c', () -> site.reason(elsewhere, 1, 40));
        due("the same crane, last minute", 'c', () -> site.reason(elsewhere, 1, 69));
        due("the same crane, behind", '-', () -> site.reason(elsewhere, 1, 70));
        due("itself as if it waited", '-', () -> site.reason(other, 1, 45));
        due("itself for the other crane", '-', () -> site.reason(other, 0, 40));
        site.planAt(elsewhere, 0, 40);
        due("another one of the crane", 'c', () -> site.reason(other, 0, 40));
        dueForNoNumbers("no lift", number -> site.reason(number, 0, 0));
        dueForNoNumbers("no crane", crane -> site.reason(lift, crane, 0));
        due("no such lift yet", NO_SUCH, () -> site.reason(7, 0, 0));
    }

    private static void reasonOrder() {
        Cranepool site = new Cranepool();
        site.addCrane(10, 10, 5, 50, 200);
        site.addCrane(12, 10, 5, 50, 200);
        site.permit(1, 0, 1);
        site.permit(0, 0, 1);
        int far = site.addLift(10, 10, 16, 10, 999, 30);
        int heavy = site.addLift(10, 10, 15, 10, 41, 30);
        int plain = site.addLift(10, 10, 10, 10, 1, 10);
        int same = site.addLift(10, 10, 10, 10, 1, 10);
        int again = site.addLift(10, 10, 10, 10, 1, 10);
        due("r before g and m", 'r', () -> site.reason(far, 0, -1));
        due("g before m", 'g', () -> site.reason(heavy, 0, -1));
        due("m before h", 'm', () -> site.reason(plain, 0, 1431));
        site.planAt(same, 1, 5);
        site.planAt(again, 0, 15);
        due("c before a", 'c', () -> site.reason(plain, 0, 10));
        due("c before a for the other one", 'c', () -> site.reason(plain, 1, 10));
        due("a alone", 'a', () -> site.reason(plain, 0, 5));
        site.pass(20);
        due("m before c", 'm', () -> site.reason(plain, 0, 19));
        due("c with a lift under way", 'c', () -> site.reason(plain, 0, 20));
        due("a with a lift under way", 'a', () -> site.reason(plain, 1, 20));
        site.endPermit(0, 0, 1);
        due("h before c", 'h', () -> site.reason(plain, 0, 20));
        due("a lift under way as if it waited", 'h', () -> site.reason(again, 0, 20));
        due("a lift under way as if it waited, other crane", '-', () -> site.reason(again, 1, 20));
        site.setWind(40);
        due("g in a storm", 'g', () -> site.reason(plain, 0, 20));
        due("r in a storm", 'r', () -> site.reason(far, 0, 20));
    }

    private static void earliest() {
        part = "promise 20";
        Cranepool site = earliestSite();
        for (int i = 0; i < EARLIEST.length; i++) {
            int lift = i;
            due("lift " + i, EARLIEST[i], () -> site.earliest(lift, 0));
        }
        due("nothing is planned by it", 'w', () -> site.stateOf(1));
        due("own crane's lifts count, not its air", 55, () -> site.earliest(8, 1));
        dueForNoNumbers("no lift", lift -> site.earliest(lift, 0));
        dueForNoNumbers("no crane", crane -> site.earliest(0, crane));
        site.pass(1);
        due("present minute", 1, () -> site.earliest(7, 0));
        due("no more before the lift", 20, () -> site.earliest(1, 0));
        passTo(site, 1440);
        due("at the day's end", UNSUPPORTED, () -> site.earliest(7, 1));
    }

    private static void earliestByMinutes() {
        part = "promise 21";
        Cranepool site = earliestSite();
        for (int i = 0; i < EARLIEST.length; i++) {
            int lift = i;
            due("lift " + i, EARLIEST[i], () -> site.earliestByMinutes(lift, 0));
        }
        due("nothing is planned by it", 'w', () -> site.stateOf(1));
        due("own crane's lifts count, not its air", 55, () -> site.earliestByMinutes(8, 1));
        dueForNoNumbers("no lift", lift -> site.earliestByMinutes(lift, 0));
        dueForNoNumbers("no crane", crane -> site.earliestByMinutes(0, crane));
        site.pass(1);
        due("present minute", 1, () -> site.earliestByMinutes(7, 0));
        due("no more before the lift", 20, () -> site.earliestByMinutes(1, 0));
        passTo(site, 1440);
        due("at the day's end", UNSUPPORTED, () -> site.earliestByMinutes(7, 1));
    }

    private static final Object[] EARLIEST = {0, 0, 20, 240, UNSUPPORTED, UNSUPPORTED, 20, 0, 240};

    /** The crane 0 has the hours 0, 3 and 4, and lifts in 10 to 19 and 200 to 239; the crane 1 has one in 50 to 54. */
    private static Cranepool earliestSite() {
        Cranepool site = new Cranepool();
        site.addCrane(20, 20, 20, 100, 2000);
        site.addCrane(20, 20, 20, 100, 2000);
        site.permit(0, 0, 1);
        site.permit(0, 3, 2);
        site.permit(1, 0, 24);
        site.addLift(20, 20, 20, 20, 10, 10);
        site.addLift(30, 30, 30, 30, 10, 10);
        site.addLift(30, 30, 30, 30, 10, 11);
        site.addLift(20, 20, 20, 20, 10, 31);
        site.addLift(20, 20, 20, 39, 101, 10);
        site.addLift(20, 20, 0, 19, 10, 10);
        site.addLift(35, 20, 35, 20, 10, 40);
        site.addLift(20, 20, 20, 20, 10, 5);
        site.addLift(30, 30, 30, 30, 10, 60);
        site.planAt(0, 0, 10);
        site.planAt(6, 0, 200);
        site.planAt(7, 1, 50);
        return site;
    }

    private static void stateOf() {
        part = "promise 22";
        Cranepool site = oneCrane();
        int lift = cornerLift(site, 2);
        due("added", 'w', () -> site.stateOf(lift));
        site.planAt(lift, 0, 1);
        due("planned", 'p', () -> site.stateOf(lift));
        site.pass(1);
        due("at its start", 'p', () -> site.stateOf(lift));
        site.pass(1);
        due("behind its start", 'u', () -> site.stateOf(lift));
        site.pass(1);
        due("behind its end", 'd', () -> site.stateOf(lift));
        dueForNoNumbers("stateOf", site::stateOf);
        due("no such lift yet", NO_SUCH, () -> site.stateOf(1));
    }

    private static void startOf() {
        part = "promise 23";
        Cranepool site = oneCrane();
        int lift = cornerLift(site, 2);
        due("it waits", STATE, () -> site.startOf(lift));
        site.planAt(lift, 0, 7);
        due("planned", 7, () -> site.startOf(lift));
        site.unplan(lift);
        due("it waits again", STATE, () -> site.startOf(lift));
        site.planAt(lift, 0, 0);
        site.pass(1);
        due("under way", 0, () -> site.startOf(lift));
        site.pass(1);
        due("done", 0, () -> site.startOf(lift));
        dueForNoNumbers("startOf", site::startOf);
    }

    private static void craneOf() {
        part = "promise 24";
        Cranepool site = twoCranes();
        int lift = cornerLift(site, 2);
        due("it waits", STATE, () -> site.craneOf(lift));
        site.planAt(lift, 0, 7);
        due("planned", 0, () -> site.craneOf(lift));
        site.unplan(lift);
        due("it waits again", STATE, () -> site.craneOf(lift));
        site.planAt(lift, 1, 0);
        site.pass(1);
        due("under way", 1, () -> site.craneOf(lift));
        site.pass(1);
        due("done", 1, () -> site.craneOf(lift));
        dueForNoNumbers("craneOf", site::craneOf);
    }

    private static void pourOf() {
        part = "promise 25";
        Cranepool site = new Cranepool();
        site.addLift(0, 0, 0, 0, 1, 1);
        site.addPour(0, 0, 0, 0, 1, 1, 2, 0);
        site.addPour(0, 0, 0, 0, 1, 1, 3, 0);
        int[] due = {-1, 0, 0, 1, 1, 1};
        for (int i = 0; i < due.length; i++) {
            int lift = i;
            due("lift " + i, due[i], () -> site.pourOf(lift));
        }
        due("no such lift yet", NO_SUCH, () -> site.pourOf(6));
        dueForNoNumbers("pourOf", site::pourOf);
    }

    private static void airOf() {
        part = "promise 26";
        Cranepool site = new Cranepool();
        site.addLift(0, 0, 0, 0, 1, 1);
        site.addLift(4, 4, 5, 4, 1, 1);
        site.addLift(39, 39, 39, 39, 1, 1);
        site.addLift(14, 12, 5, 5, 1, 1);
        site.addLift(39, 0, 0, 39, 1, 1);
        site.addLift(0, 39, 39, 35, 1, 1);
        site.addLift(20, 34, 24, 4, 1, 1);
        site.addPour(7, 5, 7, 9, 1, 1, 2, 0);
        due("first square", 1L, () -> site.airOf(0));
        due("two columns", 3L, () -> site.airOf(1));
        due("last square", Long.MIN_VALUE, () -> site.airOf(2));
        due("rectangle from its end to its start", 0x60600L, () -> site.airOf(3));
        due("whole site", -1L, () -> site.airOf(4));
        due("last row", 0xFFL << 56, () -> site.airOf(5));
        due("column from below", 0x0010101010101010L, () -> site.airOf(6));
        due("of a pour", 0x200L, () -> site.airOf(8));
        dueForNoNumbers("airOf", site::airOf);
    }

    private static void shareAir() {
        part = "promise 27";
        Cranepool site = new Cranepool();
        site.addLift(0, 0, 12, 12, 1, 1);
        site.addLift(14, 14, 30, 14, 1, 1);
        site.addLift(15, 10, 39, 10, 1, 1);
        site.addLift(39, 39, 39, 39, 1, 1);
        site.addLift(38, 38, 38, 38, 1, 1);
        due("a square in common, no place", true, () -> site.shareAir(0, 1));
        due("next squares", false, () -> site.shareAir(0, 2));
        due("the other way round", false, () -> site.shareAir(2, 0));
        due("row in common", true, () -> site.shareAir(2, 1));
        due("itself", true, () -> site.shareAir(2, 2));
        due("last square", true, () -> site.shareAir(3, 4));
        dueForNoNumbers("shareAir", lift -> site.shareAir(lift, 0));
        dueForNoNumbers("shareAir", lift -> site.shareAir(0, lift));
    }

    private static Cranepool liftAtSite() {
        Cranepool site = twoCranes();
        int one = cornerLift(site, 10);
        int two = cornerLift(site, 60);
        int far = farLift(site, 1);
        int pour = site.addPour(0, 0, 0, 0, 1, 1, 2, 0);
        cornerLift(site, 10);
        site.planAt(one, 0, 5);
        site.planAt(two, 0, 1380);
        site.planAt(far, 1, 5);
        site.planPour(pour, 0);
        site.pass(10);
        return site;
    }

    private static final int[][] LIFT_AT = {{0, 0, 3}, {0, 1, 4}, {0, 2, -1}, {0, 4, -1}, {0, 5, 0}, {0, 14, 0},
        {0, 15, -1}, {0, 1379, -1}, {0, 1380, 1}, {0, 1439, 1}, {1, 0, -1}, {1, 4, -1}, {1, 5, 2}, {1, 6, -1}};

    private static void liftAt() {
        part = "promise 28";
        Cranepool site = liftAtSite();
        for (int[] row : LIFT_AT) {
            due("crane " + row[0] + ", minute " + row[1], row[2], () -> site.liftAt(row[0], row[1]));
        }
        for (int minute : NO_MINUTES) {
            due("minute " + minute, ARGUMENT, () -> site.liftAt(0, minute));
        }
        dueForNoNumbers("liftAt", crane -> site.liftAt(crane, 0));
        due("no crane goes first", NO_SUCH, () -> site.liftAt(2, -1));
        site.unplan(1);
        due("no more planned", -1, () -> site.liftAt(0, 1380));
    }

    private static void liftByMinutes() {
        part = "promise 29";
        Cranepool site = liftAtSite();
        for (int[] row : LIFT_AT) {
            due("crane " + row[0] + ", minute " + row[1], row[2], () -> site.liftByMinutes(row[0], row[1]));
        }
        for (int minute : NO_MINUTES) {
            due("minute " + minute, ARGUMENT, () -> site.liftByMinutes(0, minute));
        }
        dueForNoNumbers("liftByMinutes", crane -> site.liftByMinutes(crane, 0));
        due("no crane goes first", NO_SUCH, () -> site.liftByMinutes(2, -1));
        site.unplan(1);
        due("no more planned", -1, () -> site.liftByMinutes(0, 1380));
    }

    private static void freeMinutes() {
        part = "promise 30";
        Cranepool site = new Cranepool();
        site.addCrane(20, 20, 40, 999, 9999);
        due("no permit", 0, () -> site.freeMinutes(0));
        site.permit(0, 0, 2);
        site.permit(0, 23, 1);
        due("three hours", 180, () -> site.freeMinutes(0));
        int across = cornerLift(site, 40);
        int last = cornerLift(site, 10);
        site.planAt(across, 0, 40);
        site.planAt(last, 0, 1430);
        due("two lifts", 130, () -> site.freeMinutes(0));
        site.unplan(last);
        due("one lift", 140, () -> site.freeMinutes(0));
        passTo(site, 60);
        due("past minutes count", 140, () -> site.freeMinutes(0));
        site.endPermit(0, 1, 1);
        due("only minutes with a permit", 100, () -> site.freeMinutes(0));
        site.endPermit(0, 0, 1);
        due("a lift without a permit", 60, () -> site.freeMinutes(0));
        dueForNoNumbers("freeMinutes", site::freeMinutes);
    }

    private static void atWork() {
        part = "promise 31";
        Cranepool site = threeAtWork();
        int[][] rows = {{0, 1}, {9, 1}, {10, 2}, {14, 2}, {15, 3}, {19, 3}, {20, 2}, {29, 2}, {30, 1}, {39, 1}, {40, 0},
            {1439, 0}};
        for (int[] row : rows) {
            due("minute " + row[0], row[1], () -> site.atWork(row[0]));
        }
        site.pass(40);
        due("done ones count", 3, () -> site.atWork(15));
        for (int minute : NO_MINUTES) {
            due("minute " + minute, ARGUMENT, () -> site.atWork(minute));
        }
    }

    /** Three cranes with lifts in 0 to 19, 10 to 29 and 15 to 39, of 1, 2 and 4 squares. */
    private static Cranepool threeAtWork() {
        Cranepool site = twoCranes();
        site.addCrane(20, 22, 40, 999, 9999);
        site.permit(2, 0, 24);
        site.addLift(39, 39, 35, 35, 1, 20);
        site.addLift(0, 0, 5, 0, 1, 20);
        site.addLift(10, 10, 15, 15, 1, 25);
        site.addLift(20, 20, 20, 20, 1, 60);
        site.planAt(0, 0, 0);
        site.planAt(1, 1, 10);
        site.planAt(2, 2, 15);
        return site;
    }

    private static void airAt() {
        part = "promise 32";
        Cranepool site = threeAtWork();
        long one = Long.MIN_VALUE;
        long two = 3L;
        long three = 0xC0C0000L;
        Object[][] rows = {{0, one}, {9, one}, {10, one | two}, {15, one | two | three}, {20, two | three}, {30, three},
            {39, three}, {40, 0L}, {1439, 0L}};
        for (Object[] row : rows) {
            due("minute " + row[0], row[1], () -> site.airAt((Integer) row[0]));
        }
        site.pass(40);
        due("done ones count", one | two | three, () -> site.airAt(15));
        for (int minute : NO_MINUTES) {
            due("minute " + minute, ARGUMENT, () -> site.airAt(minute));
        }
    }

    private static void squaresAt() {
        part = "promise 33";
        Cranepool site = threeAtWork();
        int[][] rows = {{0, 1}, {10, 3}, {15, 7}, {20, 6}, {30, 4}, {40, 0}, {1439, 0}};
        for (int[] row : rows) {
            due("minute " + row[0], row[1], () -> site.squaresAt(row[0]));
        }
        int whole = site.addLift(0, 0, 39, 39, 1, 1);
        site.planAt(whole, 0, 100);
        due("whole site", 64, () -> site.squaresAt(100));
        for (int minute : NO_MINUTES) {
            due("minute " + minute, ARGUMENT, () -> site.squaresAt(minute));
        }
    }

    private static void pours() {
        part = "promise 34";
        Cranepool site = new Cranepool();
        for (int i = 0; i < 6; i++) {
            int count = i;
            due("count", count, site::pours);
            site.addPour(0, 0, 0, 0, 1, 1, 2, 0);
        }
        due("count", 6, site::pours);
    }

    private static void firstOf() {
        part = "promise 35";
        Cranepool site = new Cranepool();
        site.addPour(0, 0, 0, 0, 1, 1, 2, 0);
        site.addLift(0, 0, 0, 0, 1, 1);
        site.addPour(0, 0, 0, 0, 1, 1, 8, 0);
        due("first", 0, () -> site.firstOf(0));
        due("behind a lift", 3, () -> site.firstOf(1));
        due("no such pour yet", NO_SUCH, () -> site.firstOf(2));
        dueForNoNumbers("firstOf", site::firstOf);
    }

    private static void loadsOf() {
        part = "promise 36";
        Cranepool site = new Cranepool();
        site.addPour(0, 0, 0, 0, 1, 1, 2, 0);
        site.addPour(0, 0, 0, 0, 1, 1, 8, 0);
        due("two", 2, () -> site.loadsOf(0));
        due("eight", 8, () -> site.loadsOf(1));
        due("no such pour yet", NO_SUCH, () -> site.loadsOf(2));
        dueForNoNumbers("loadsOf", site::loadsOf);
    }

    private static void longestWait() {
        part = "promise 37";
        Cranepool site = twoCranes();
        int pour = site.addPour(0, 0, 0, 0, 1, 10, 4, 60);
        site.planAt(cornerLift(site, 5), 1, 10);
        site.planAt(cornerLift(site, 30), 1, 28);
        site.planAt(cornerLift(site, 2), 1, 69);
        due("they wait", STATE, () -> site.longestWait(pour));
        site.planPour(pour, 0);
        due("start of the second", 15, () -> site.startOf(1));
        due("start of the third", 58, () -> site.startOf(2));
        due("start of the fourth", 71, () -> site.startOf(3));
        due("the one in the middle", 33, () -> site.longestWait(pour));
        site.pass(60);
        due("some are done", 33, () -> site.longestWait(pour));
        site.unplan(3);
        due("one waits", STATE, () -> site.longestWait(pour));
        int even = site.addPour(0, 0, 0, 0, 1, 10, 2, 60);
        site.planPour(even, 0);
        due("none waits", 0, () -> site.longestWait(even));
        dueForNoNumbers("longestWait", site::longestWait);
        due("no such pour yet", NO_SUCH, () -> site.longestWait(2));
    }

    private static void isBroken() {
        part = "promise 38";
        Cranepool site = oneCrane();
        int pour = site.addPour(0, 0, 0, 0, 1, 60, 3, 0);
        due("all wait", false, () -> site.isBroken(pour));
        site.planPour(pour, 0);
        due("all planned", false, () -> site.isBroken(pour));
        site.endPermit(0, 1, 1);
        due("one waits, others planned", false, () -> site.isBroken(pour));
        site.pass(1);
        due("one waits, one under way", true, () -> site.isBroken(pour));
        passTo(site, 60);
        due("one waits, one done", true, () -> site.isBroken(pour));
        int second = site.addPour(0, 0, 0, 0, 1, 10, 2, 0);
        due("another pour", false, () -> site.isBroken(second));
        site.permit(0, 1, 1);
        site.planPour(second, 0);
        passTo(site, 61);
        due("one under way, one planned", false, () -> site.isBroken(second));
        passTo(site, 120);
        due("all done", false, () -> site.isBroken(second));
        dueForNoNumbers("isBroken", site::isBroken);
        due("no such pour yet", NO_SUCH, () -> site.isBroken(2));
    }

    private static void waiting() {
        part = "promise 39";
        Cranepool site = oneCrane();
        cornerLift(site, 10);
        site.addPour(0, 0, 0, 0, 1, 1, 2, 0);
        due("all", 3, site::waiting);
        site.plan(0, 0);
        due("one planned", 2, site::waiting);
        site.planPour(0, 0);
        due("all planned", 0, site::waiting);
        site.pass(11);
        site.unplan(2);
        due("one again", 1, site::waiting);
    }

    private static void minutesOf() {
        part = "promise 40";
        Cranepool site = twoCranes();
        due("none", 0, () -> site.minutesOf(0));
        cornerLift(site, 10);
        cornerLift(site, 21);
        farLift(site, 43);
        cornerLift(site, 60);
        due("they wait", 0, () -> site.minutesOf(0));
        site.plan(0, 0);
        site.plan(1, 0);
        site.plan(2, 1);
        due("two", 31, () -> site.minutesOf(0));
        due("other crane", 43, () -> site.minutesOf(1));
        site.pass(11);
        due("done and under way", 31, () -> site.minutesOf(0));
        site.endPermit(0, 0, 24);
        due("without a permit", 31, () -> site.minutesOf(0));
        dueForNoNumbers("minutesOf", site::minutesOf);
    }

    private static void lifted() {
        part = "promise 41";
        Cranepool site = oneCrane();
        int one = site.addLift(20, 20, 20, 20, 999, 1);
        int two = site.addLift(20, 20, 20, 20, 7, 2);
        site.addLift(20, 20, 20, 20, 500, 1);
        site.plan(one, 0);
        site.plan(two, 0);
        due("planned", 0L, site::lifted);
        site.pass(1);
        due("one done", 999L, site::lifted);
        site.pass(1);
        due("one under way", 999L, site::lifted);
        site.pass(1);
        due("two done", 1006L, site::lifted);
    }

    private static void code() {
        part = "promise 42";
        Cranepool site = new Cranepool();
        site.addCrane(39, 38, 40, 1, 1);
        site.addCrane(0, 0, 1, 1, 1);
        due("without wind", 39 + 38 * 64 + 40 * 4096, () -> site.code(0));
        site.setWind(40);
        due("with wind", 39 + 38 * 64 + 40 * 4096 + 40 * 262144, () -> site.code(0));
        due("another crane", 4096 + 40 * 262144, () -> site.code(1));
        site.pass(3);
        due("time changes nothing", 4096 + 40 * 262144, () -> site.code(1));
        dueForNoNumbers("code", site::code);
    }

    private static void workShare() {
        part = "promise 43";
        Cranepool site = new Cranepool();
        site.addCrane(20, 20, 40, 999, 9999);
        due("no permit", ARITHMETIC, () -> site.workShare(0));
        site.permit(0, 0, 3);
        due("no lift", 0.0f, () -> site.workShare(0));
        int across = cornerLift(site, 47);
        site.planAt(across, 0, 30);
        due("47 of 180", 47.0f / 180.0f, () -> site.workShare(0));
        site.pass(31);
        site.endPermit(0, 1, 1);
        due("minutes with both", 30.0f / 120.0f, () -> site.workShare(0));
        site.endPermit(0, 0, 1);
        due("no minute with both", 0.0f, () -> site.workShare(0));
        site.endPermit(0, 2, 1);
        due("no permit any more", ARITHMETIC, () -> site.workShare(0));
        dueForNoNumbers("workShare", site::workShare);
        Cranepool full = new Cranepool();
        full.addCrane(0, 0, 1, 1, 1);
        full.permit(0, 5, 1);
        full.plan(full.addLift(0, 0, 0, 0, 1, 60), 0);
        due("all minutes", 1.0f, () -> full.workShare(0));
    }

    private static void meanStart() {
        part = "promise 44";
        Cranepool site = twoCranes();
        due("no lift", ARITHMETIC, site::meanStart);
        cornerLift(site, 1);
        cornerLift(site, 30);
        farLift(site, 60);
        due("they wait", ARITHMETIC, site::meanStart);
        site.planAt(0, 0, 0);
        due("one", 0.0, site::meanStart);
        site.planAt(1, 0, 1);
        site.planAt(2, 1, 64);
        due("three", 65.0 / 3.0, site::meanStart);
        site.pass(3);
        due("done, under way, planned", 65.0 / 3.0, site::meanStart);
        site.unplan(2);
        due("one waits", 0.5, site::meanStart);
    }
}
