import java.util.function.Consumer;

/** For each promise of the document: ordinary inputs, the edges that it names, and wrong inputs. */
public final class PromisesTest {
    private static final int REFUSED = PluginBoundary.REFUSED;
    private static final int FULL = PluginBoundary.FULL;
    private static final int ABSENT = PluginBoundary.ABSENT;
    private static final int CYCLE = PluginBoundary.CYCLE;
    private static final int MIN = Integer.MIN_VALUE;
    private static final int MAX = Integer.MAX_VALUE;
    private static final double INFINITY = Double.POSITIVE_INFINITY;

    private static final int ADD = 0;
    private static final int DIVIDE = 1;
    private static final int LOOK = 2;
    private static final int ASK = 3;
    private static final int BROKEN = 4;
    private static final int NEST = 5;
    private static final int REFUSE = 6;
    private static final int COUNT = 7;
    private static final int BRACKET = 8;

    private static int wrong = 0;
    private static String promise = "";

    public static void main(String[] args) {
        check("1, a new object", PromisesTest::newObject);
        check("2, install", PromisesTest::install);
        check("3, uninstall", PromisesTest::uninstall);
        check("3, uninstall and what it was", PromisesTest::uninstallForgetsAll);
        check("4, need", PromisesTest::need);
        check("5, serve", PromisesTest::serve);
        check("6, extend", PromisesTest::extend);
        check("7, start", PromisesTest::start);
        check("7, start behind needs", PromisesTest::startBehindNeeds);
        check("7, start that fails", PromisesTest::startThatFails);
        check("7, start in circles", PromisesTest::startInCircles);
        check("8, stop", PromisesTest::stop);
        check("8, stop, last started first", PromisesTest::stopLastStartedFirst);
        check("8, stop, anew after each", PromisesTest::stopAnewAfterEach);
        check("8, stop in circles", PromisesTest::stopInCircles);
        check("9, startAll", PromisesTest::startAll);
        check("10, call", PromisesTest::call);
        check("10, call, order", PromisesTest::callOrder);
        check("10, call, kinds", PromisesTest::callKinds);
        check("10, call, LOOK", PromisesTest::callLook);
        check("10, call, ASK", PromisesTest::callAsk);
        check("10, call, NEST", PromisesTest::callNest);
        check("10, call, DEEP", PromisesTest::callDeep);
        check("10, call, shut out within", PromisesTest::callShutOutWithin);
        check("10, call, BRACKET", PromisesTest::callBracket);
        check("11, forgive", PromisesTest::forgive);
        check("12, state", PromisesTest::state);
        check("13, extension", PromisesTest::extension);
        check("14, at", PromisesTest::at);
        check("15, weight", PromisesTest::weight);
        check("15, weight at the ends of the doubles", PromisesTest::weightAtTheEnds);
        check("16, ordinal", PromisesTest::ordinal);
        check("17, fault", PromisesTest::fault);
        check("18, event", PromisesTest::event);
        check("19, count", PromisesTest::count);
        System.out.println(wrong == 0 ? "all promises hold" : wrong + " answers are not as due");
        if (wrong != 0) {
            System.exit(1);
        }
    }

    private static void check(String name, Consumer<PluginBoundary> test) {
        promise = name;
        test.accept(new PluginBoundary());
    }

    private static void due(String what, double got, double want) {
        if (got != want && !(got != got && want != want)) {
            wrong++;
            System.out.println("promise " + promise + ": " + what + " answered " + got + ", due is " + want);
        }
    }

    /** The last events, the last one first. */
    private static void dueEvents(PluginBoundary x, int... events) {
        for (int k = 0; k < events.length; k++) {
            due("event(" + k + ")", x.event(k), events[k]);
        }
    }

    private static void dueFault(PluginBoundary x, int k, int extension, int kind, int provider) {
        due("extension of fault " + k, x.fault(k, 0), extension);
        due("kind of fault " + k, x.fault(k, 1), kind);
        due("provider of fault " + k, x.fault(k, 2), provider);
    }

    private static void dueCounts(PluginBoundary x, int active, int made, int faults, int events, int shutOut) {
        due("count(0)", x.count(0), active);
        due("count(1)", x.count(1), made);
        due("count(2)", x.count(2), faults);
        due("count(3)", x.count(3), events);
        due("count(4)", x.count(4), shutOut);
    }

    private static void installAll(PluginBoundary x, int plugins) {
        for (int plugin = 0; plugin < plugins; plugin++) {
            x.install(plugin);
        }
    }

    private static void startNew(PluginBoundary x, int plugin) {
        x.install(plugin);
        x.start(plugin);
    }

    /** An extension that always fails is called until it is shut out. */
    private static void callThrice(PluginBoundary x, int point) {
        for (int time = 0; time < 3; time++) {
            x.call(point, 0);
        }
    }

    private static void newObject(PluginBoundary x) {
        for (int plugin = 0; plugin < 8; plugin++) {
            due("state", x.state(plugin), 0);
            due("start", x.start(plugin), ABSENT);
            due("uninstall", x.uninstall(plugin), REFUSED);
        }
        for (int extension = 0; extension < 16; extension++) {
            due("extension", x.extension(extension, 0), REFUSED);
            due("ordinal", x.ordinal(extension), 0.0);
            due("forgive", x.forgive(extension), REFUSED);
        }
        for (int point = 0; point < 3; point++) {
            due("at", x.at(point, 0), REFUSED);
            due("weight", x.weight(point), 0.0);
            due("call", x.call(point, 77), 77);
        }
        due("fault", x.fault(0, 0), REFUSED);
        due("event", x.event(0), REFUSED);
        due("startAll", x.startAll(), 0);
        dueCounts(x, 0, 0, 0, 0, 0);
        PluginBoundary other = new PluginBoundary();
        startNew(other, 0);
        due("state of one beside another", x.state(0), 0);
    }

    private static void install(PluginBoundary x) {
        due("install(0)", x.install(0), 0);
        due("install(7)", x.install(7), 0);
        due("state(0)", x.state(0), 1);
        due("state(7)", x.state(7), 1);
        due("state(1)", x.state(1), 0);
        due("install twice", x.install(0), REFUSED);
        x.start(7);
        due("install of an active one", x.install(7), REFUSED);
        due("state(7)", x.state(7), 2);
        due("install(-1)", x.install(-1), REFUSED);
        due("install(8)", x.install(8), REFUSED);
        due("install(MIN)", x.install(MIN), REFUSED);
        due("install(MAX)", x.install(MAX), REFUSED);
        dueCounts(x, 1, 0, 0, 1, 0);
    }

    private static void uninstall(PluginBoundary x) {
        x.install(3);
        due("uninstall(3)", x.uninstall(3), 0);
        due("state(3)", x.state(3), 0);
        due("uninstall twice", x.uninstall(3), REFUSED);
        startNew(x, 3);
        due("uninstall of an active one", x.uninstall(3), REFUSED);
        due("state(3)", x.state(3), 2);
        x.stop(3);
        due("uninstall when stopped", x.uninstall(3), 0);
        due("uninstall(-1)", x.uninstall(-1), REFUSED);
        due("uninstall(8)", x.uninstall(8), REFUSED);
        due("events: a start and a stop alone", x.count(3), 2);
    }

    private static void uninstallForgetsAll(PluginBoundary x) {
        installAll(x, 3);
        x.need(0, 1, false);
        x.need(0, 4, true);
        x.need(2, 0, false);
        x.serve(0, 1, 50);
        x.extend(0, 0, ADD, 1, 2.5);
        x.extend(1, 0, ASK, 0, 1.5);
        x.extend(0, 1, BROKEN, 0, 3.5);
        x.start(0);
        callThrice(x, 1);
        due("shut out before", x.count(4), 1);
        x.stop(0);
        due("uninstall(0)", x.uninstall(0), 0);
        for (int what = 0; what <= 5; what++) {
            due("extension gone", x.extension(0, what), REFUSED);
            due("shut out extension gone", x.extension(2, what), REFUSED);
        }
        due("ordinal gone", x.ordinal(0), 0.0);
        due("forgive gone", x.forgive(2), REFUSED);
        dueCounts(x, 1, 3, 3, 4, 0);
        dueFault(x, 0, 2, PluginBoundary.LINKAGE, -1);
        due("extension of another stays", x.extension(1, 0), 1);

        due("another's need stays", x.start(2), ABSENT);
        startNew(x, 0);
        due("no needs are left", x.need(0, 1, false), 1);
        due("number not given again", x.extend(0, 0, ADD, 100, 0.0), 3);
        due("gone stays gone", x.extension(0, 0), REFUSED);
        due("gone is not at its point", x.at(0, 2), REFUSED);
        due("weight without the gone one", x.weight(0), 1.5);
        due("no service is left", x.call(0, 0), 100);
        dueFault(x, 0, 1, PluginBoundary.EMPTY, 0);
        due("another's need stays", x.start(2), 0);
    }

    private static void need(PluginBoundary x) {
        x.install(2);
        due("need of one absent", x.need(2, 0, false), 1);
        due("need, optional", x.need(2, 7, true), 2);
        due("need twice", x.need(2, 0, false), REFUSED);
        due("need twice, now optional", x.need(2, 0, true), REFUSED);
        due("optional need twice", x.need(2, 7, true), REFUSED);
        due("optional need twice, now not optional", x.need(2, 7, false), REFUSED);
        due("need of itself", x.need(2, 2, false), REFUSED);
        due("optional need of itself", x.need(2, 2, true), REFUSED);
        due("need(2, -1)", x.need(2, -1, false), REFUSED);
        due("need(2, 8)", x.need(2, 8, true), REFUSED);
        due("need(2, 32)", x.need(2, 32, true), REFUSED);
        due("need(-1, 0)", x.need(-1, 0, false), REFUSED);
        due("need(8, 0)", x.need(8, 0, false), REFUSED);
        due("need of one that is absent", x.need(1, 0, false), REFUSED);
        x.install(0);
        x.start(2);
        int needs = 2;
        for (int other : new int[] {1, 3, 4, 5, 6}) {
            needs++;
            due("need of an active one", x.need(2, other, true), needs);
        }
        due("need of an absent one left nothing", x.install(1), 0);
        due("need of an absent one left nothing", x.start(1), 0);
    }

    private static void serve(PluginBoundary x) {
        x.install(0);
        due("serve none", x.serve(0, 0, 99), 0);
        due("serve MIN", x.serve(0, 1, MIN), 0);
        due("serve MAX", x.serve(0, 1, MAX), 0);
        due("serve a text of 0", x.serve(0, 2, 0), 0);
        due("serve a text of 9", x.serve(0, 2, 9), 0);
        x.serve(0, 1, 40);
        due("serve a text of 10", x.serve(0, 2, 10), REFUSED);
        due("serve a text of -1", x.serve(0, 2, -1), REFUSED);
        due("serve kind 3", x.serve(0, 3, 1), REFUSED);
        due("serve kind -1", x.serve(0, -1, 1), REFUSED);
        due("serve of an absent one", x.serve(1, 1, 1), REFUSED);
        due("serve(-1)", x.serve(-1, 1, 1), REFUSED);
        due("serve(8)", x.serve(8, 1, 1), REFUSED);
        x.extend(0, 0, ASK, 0, 0.0);
        x.start(0);
        due("refused serves changed nothing", x.call(0, 2), 42);
        due("serve of an active one", x.serve(0, 1, -2), 0);
        due("the new service", x.call(0, 2), 0);
        due("serve none with v 5", x.serve(0, 0, 5), 0);
        due("no service", x.call(0, 2), 2);
        dueFault(x, 0, 0, PluginBoundary.EMPTY, 0);
        x.install(1);
        due("a new one serves nothing", x.count(2), 1);
    }

    private static void extend(PluginBoundary x) {
        x.install(0);
        due("of an absent one", x.extend(1, 0, 0, 0, 0.0), REFUSED);
        due("plugin -1", x.extend(-1, 0, 0, 0, 0.0), REFUSED);
        due("plugin 8", x.extend(8, 0, 0, 0, 0.0), REFUSED);
        due("point -1", x.extend(0, -1, 0, 0, 0.0), REFUSED);
        due("point 3", x.extend(0, 3, 0, 0, 0.0), REFUSED);
        due("kind -1", x.extend(0, 0, -1, 0, 0.0), REFUSED);
        due("kind 9", x.extend(0, 0, 9, 0, 0.0), REFUSED);
        due("refused ones are not made", x.count(1), 0);
        for (int number = 0; number < 16; number++) {
            int p = number % 2 == 0 ? MIN : MAX;
            due("extend", x.extend(0, number % 3, number % 9, p, number / 4.0), number);
        }
        for (int number = 0; number < 16; number++) {
            due("plugin", x.extension(number, 0), 0);
            due("point", x.extension(number, 1), number % 3);
            due("kind", x.extension(number, 2), number % 9);
            due("ordinal", x.ordinal(number), number / 4.0);
        }
        due("a 17th", x.extend(0, 0, 0, 0, 0.0), FULL);
        due("a 17th of a wrong point", x.extend(0, 3, 0, 0, 0.0), REFUSED);
        due("a 17th of a wrong kind", x.extend(0, 0, 9, 0, 0.0), REFUSED);
        due("a 17th of an absent one", x.extend(1, 0, 0, 0, 0.0), REFUSED);
        x.uninstall(0);
        startNew(x, 0);
        due("a 17th when all are gone", x.extend(0, 0, 0, 0, 0.0), FULL);
        due("made", x.count(1), 16);
    }

    private static void start(PluginBoundary x) {
        due("of an absent one", x.start(0), ABSENT);
        x.install(0);
        due("start", x.start(0), 0);
        due("state", x.state(0), 2);
        dueEvents(x, 10, REFUSED);
        due("start of an active one", x.start(0), 0);
        due("no second event", x.count(3), 1);
        startNew(x, 7);
        dueEvents(x, 17, 10, REFUSED);
        due("start(-1)", x.start(-1), REFUSED);
        due("start(8)", x.start(8), REFUSED);
        due("start(MAX)", x.start(MAX), REFUSED);
        dueCounts(x, 2, 0, 0, 2, 0);
        x.need(0, 3, false);
        due("of an active one whose need is absent", x.start(0), 0);
    }

    private static void startBehindNeeds(PluginBoundary x) {
        installAll(x, 8);
        x.need(0, 6, true);
        x.need(0, 5, false);
        x.need(0, 3, false);
        x.need(3, 4, false);
        x.need(5, 4, true);
        x.need(6, 7, false);
        due("start", x.start(0), 0);
        dueEvents(x, 10, 16, 17, 15, 13, 14, REFUSED);
        due("not needed, not started", x.state(1), 1);
    }

    private static void startThatFails(PluginBoundary x) {
        installAll(x, 5);
        x.need(0, 1, false);
        x.need(0, 2, false);
        x.need(0, 3, false);
        x.need(2, 7, false);
        due("a need of a need is absent", x.start(0), ABSENT);
        dueEvents(x, 11, REFUSED);
        due("what was started stays", x.state(1), 2);
        due("not started", x.state(0), 1);
        due("not started", x.state(2), 1);
        due("nothing more is done", x.state(3), 1);
        x.need(4, 2, true);
        x.need(4, 3, true);
        x.need(4, 6, true);
        due("optional ones that fail or are absent do not matter", x.start(4), 0);
        dueEvents(x, 14, 13, 11, REFUSED);
        x.install(7);
        due("start when all are there", x.start(0), 0);
        dueEvents(x, 10, 12, 17, 14, 13, 11, REFUSED);
    }

    private static void startInCircles(PluginBoundary x) {
        installAll(x, 7);
        x.need(0, 1, false);
        x.need(1, 0, false);
        due("two that need each other", x.start(0), CYCLE);
        due("two that need each other, again", x.start(1), CYCLE);
        due("none started", x.count(3), 0);
        x.need(2, 0, true);
        due("an optional one in a circle", x.start(2), 0);
        x.need(3, 4, true);
        x.need(4, 3, true);
        due("two with an optional need of each other", x.start(3), 0);
        dueEvents(x, 13, 14, 12, REFUSED);
        x.need(5, 6, true);
        x.need(6, 5, false);
        due("the optional one of two needs the first", x.start(5), 0);
        due("it met a circle", x.state(6), 1);
        due("it starts later", x.start(6), 0);
        dueEvents(x, 16, 15, 13, 14, 12, REFUSED);
    }

    private static void stop(PluginBoundary x) {
        due("of an absent one", x.stop(0), REFUSED);
        installAll(x, 4);
        due("of an installed one", x.stop(0), REFUSED);
        due("stop(-1)", x.stop(-1), REFUSED);
        due("stop(8)", x.stop(8), REFUSED);
        x.need(1, 0, false);
        x.need(2, 0, true);
        x.need(3, 1, false);
        x.startAll();
        due("one that none needs", x.stop(2), 1);
        x.start(2);
        due("one with what needs it", x.stop(0), 3);
        dueEvents(x, 20, 21, 23, 12, 22);
        due("needed, not optionally: stopped", x.state(1), 1);
        due("needed optionally: stays", x.state(2), 2);
        due("needed by what is stopped: stopped", x.state(3), 1);
        due("stop twice", x.stop(0), REFUSED);
        due("events", x.count(3), 9);
    }

    private static void stopLastStartedFirst(PluginBoundary x) {
        installAll(x, 6);
        for (int plugin = 1; plugin < 6; plugin++) {
            x.need(plugin, 0, false);
        }
        for (int plugin : new int[] {3, 1, 5, 2}) {
            x.start(plugin);
        }
        x.start(3);
        due("stop", x.stop(0), 5);
        dueEvents(x, 20, 23, 21, 25, 22, 12);
        x.start(1);
        x.start(4);
        x.stop(1);
        x.start(3);
        x.start(1);
        due("stop", x.stop(0), 4);
        dueEvents(x, 20, 24, 23, 21, 11);
    }

    private static void stopAnewAfterEach(PluginBoundary x) {
        installAll(x, 4);
        x.need(1, 0, false);
        x.need(2, 0, false);
        x.need(3, 0, false);
        x.start(1);
        x.start(2);
        x.start(3);
        x.need(1, 3, false);
        x.need(2, 3, false);
        due("those that are stopped on the way count once", x.stop(0), 4);
        dueEvents(x, 20, 23, 21, 22, 13);
    }

    private static void stopInCircles(PluginBoundary x) {
        installAll(x, 4);
        x.startAll();
        x.need(0, 1, false);
        x.need(1, 2, false);
        x.need(2, 0, false);
        due("a circle made while active", x.stop(1), 3);
        dueEvents(x, 21, 20, 22, 13);
        due("beside the circle", x.state(3), 2);
        due("it can't start again", x.start(1), CYCLE);
        due("none of it is active", x.count(0), 1);
    }

    private static void startAll(PluginBoundary x) {
        due("of none", x.startAll(), 0);
        installAll(x, 6);
        x.need(0, 4, false);
        x.need(1, 7, false);
        x.need(2, 3, false);
        x.need(3, 2, false);
        due("all that can", x.startAll(), 3);
        dueEvents(x, 15, 10, 14, REFUSED);
        due("again", x.startAll(), 3);
        due("no event more", x.count(3), 3);
        x.install(7);
        due("one more and what needs it", x.startAll(), 5);
        dueEvents(x, 11, 17, 15, 10, 14, REFUSED);
    }

    private static void call(PluginBoundary x) {
        due("a point with none", x.call(2, 5), 5);
        due("call(-1)", x.call(-1, 5), REFUSED);
        due("call(3)", x.call(3, 5), REFUSED);
        x.install(0);
        x.install(1);
        x.extend(0, 0, ADD, 10, 0.0);
        x.extend(1, 0, ADD, 100, 0.0);
        x.extend(0, 1, ADD, 1000, 0.0);
        due("none is active", x.call(0, 1), 1);
        x.start(0);
        due("one is active", x.call(0, 1), 11);
        x.start(1);
        due("both are active", x.call(0, 1), 111);
        due("another point", x.call(1, 1), 1001);
        due("a third point", x.call(2, 1), 1);
        due("calls", x.extension(0, 4), 2);
        due("calls", x.extension(1, 4), 1);
        due("ints wrap", x.call(0, MAX), MIN + 109);
        x.stop(0);
        due("one is active", x.call(0, 1), 101);
        dueCounts(x, 1, 3, 0, 3, 0);
    }

    private static void callOrder(PluginBoundary x) {
        startNew(x, 0);
        startNew(x, 1);
        x.extend(1, 0, ADD, 1, 3.0);
        x.extend(0, 0, BRACKET, MAX, 2.0);
        x.extend(1, 0, REFUSE, 0, 2.0);
        x.extend(0, 0, DIVIDE, 3, -5.0);
        due("divide, double, add", x.call(0, -9), -5);
        x.extend(0, 0, ADD, 7, -5.0);
        due("divide, add, double, add", x.call(0, -36), -9);
        due("none failed", x.count(2), 0);
        x.extend(0, 1, ADD, 1, 0.0);
        x.extend(0, 1, BRACKET, MAX, -0.0);
        x.extend(0, 1, ADD, 10, -Double.MIN_VALUE);
        due("0.0 and -0.0 by number", x.call(1, 0), 22);
        x.extend(0, 2, BRACKET, MAX, -0.0);
        x.extend(0, 2, ADD, 1, 0.0);
        due("-0.0 and 0.0 by number", x.call(2, 5), 11);
    }

    private static void dueOf(int kind, int p, int given, int want) {
        dueOf(kind, p, given, want, 0);
    }

    /** What one extension makes of a number, and the fault that comes (0 if none). */
    private static void dueOf(int kind, int p, int given, int want, int faultKind) {
        PluginBoundary x = new PluginBoundary();
        startNew(x, 5);
        x.extend(5, 1, kind, p, 0.0);
        String what = "kind " + kind + " with p " + p + " of " + given;
        due(what, x.call(1, given), want);
        due(what + ": faults", x.count(2), faultKind == 0 ? 0 : 1);
        due(what + ": faults of it", x.extension(0, 3), faultKind == 0 ? 0 : 1);
        due(what + ": calls", x.extension(0, 4), 1);
        if (faultKind != 0) {
            dueFault(x, 0, 0, faultKind, -1);
        }
    }

    private static void callKinds(PluginBoundary x) {
        dueOf(ADD, 5, 7, 12);
        dueOf(ADD, -5, 2, -3);
        dueOf(ADD, MIN, MIN, 0);
        dueOf(DIVIDE, 3, 10, 3);
        dueOf(DIVIDE, 3, -10, -3);
        dueOf(DIVIDE, -3, 10, -3);
        dueOf(DIVIDE, -3, -10, 3);
        dueOf(DIVIDE, -1, MIN, MIN);
        dueOf(DIVIDE, MIN, MIN, 1);
        dueOf(DIVIDE, 0, 10, 10, PluginBoundary.ARITHMETIC);
        dueOf(DIVIDE, 0, 0, 0, PluginBoundary.ARITHMETIC);
        dueOf(BROKEN, 3, 10, 10, PluginBoundary.LINKAGE);
        dueOf(REFUSE, 4, 3, 3);
        dueOf(REFUSE, 4, MIN, MIN);
        dueOf(REFUSE, 4, 4, 4, PluginBoundary.OWN);
        dueOf(REFUSE, 4, 5, 5, PluginBoundary.OWN);
        dueOf(REFUSE, MIN, MIN, MIN, PluginBoundary.OWN);
        dueOf(REFUSE, MAX, MAX, MAX, PluginBoundary.OWN);
        dueOf(COUNT, 4, 10, 11);
        dueOf(COUNT, 4, MAX, MIN);
        dueOf(BRACKET, 4, 10, 20);
        dueOf(BRACKET, 4, -3, -6);
        dueOf(BRACKET, 4, MIN, 0);
        dueOf(BRACKET, 4, 4, 4, PluginBoundary.OWN);
        startNew(x, 0);
        x.extend(0, 0, COUNT, 0, 0.0);
        x.call(0, 0);
        x.call(0, 0);
        due("the third call counts 3", x.call(0, 10), 13);
    }

    private static void callLook(PluginBoundary x) {
        int[] primes = {2, 3, 5, 7, 11, 13, 17, 19, 23, 29, 31, 37};
        for (int place = 0; place < 12; place++) {
            dueOf(LOOK, 0, place, primes[place]);
            dueOf(LOOK, place, 0, primes[place]);
            dueOf(LOOK, 0, place - 16, primes[place]);
            dueOf(LOOK, 5, (place ^ 5) + 1024, primes[place]);
        }
        for (int place = 12; place < 16; place++) {
            dueOf(LOOK, 0, place, place, PluginBoundary.INDEX);
            dueOf(LOOK, 9, place ^ 9, place ^ 9, PluginBoundary.INDEX);
        }
        dueOf(LOOK, -1, 3, 3, PluginBoundary.INDEX);
        dueOf(LOOK, -1, -1, 2);
    }

    private static void callAsk(PluginBoundary x) {
        startNew(x, 0);
        x.extend(0, 0, ASK, 2, 0.0);
        due("one that is absent", x.call(0, 5), 5);
        dueFault(x, 0, 0, PluginBoundary.EMPTY, 2);
        x.install(2);
        x.serve(2, 1, 30);
        due("one that is not active", x.call(0, 5), 5);
        dueFault(x, 0, 0, PluginBoundary.EMPTY, 2);
        x.start(2);
        due("a number", x.call(0, 5), 35);
        due("faults", x.count(2), 2);
        x.serve(2, 2, 3);
        due("a text", x.call(0, 5), 5);
        dueFault(x, 0, 0, PluginBoundary.CAST, 2);
        due("shut out", x.extension(0, 5), 2);
        x.extend(0, 1, ASK, -6, 0.0);
        x.extend(0, 1, ASK, 10, 0.0);
        x.serve(2, 1, MAX);
        due("p & 7, and ints wrap", x.call(1, 3), 1);
        x.stop(2);
        x.serve(2, 2, 3);
        due("a text of one that is not active", x.call(1, 3), 3);
        dueFault(x, 0, 2, PluginBoundary.EMPTY, 2);
        dueFault(x, 1, 1, PluginBoundary.EMPTY, 2);
        startNew(x, 7);
        x.extend(7, 2, ASK, -1, 0.0);
        due("itself, without a service", x.call(2, 3), 3);
        dueFault(x, 0, 3, PluginBoundary.EMPTY, 7);
    }

    private static void callNest(PluginBoundary x) {
        startNew(x, 0);
        startNew(x, 1);
        x.extend(0, 0, NEST, 1, 0.0);
        x.extend(1, 1, ADD, 10, 0.0);
        x.extend(1, 1, BROKEN, 0, 0.0);
        due("x + 1 through the other point", x.call(0, 5), 16);
        dueFault(x, 0, 2, PluginBoundary.LINKAGE, -1);
        due("the fault is not the nest's", x.extension(0, 3), 0);
        due("the fault is of the one where it comes", x.extension(2, 3), 1);
        x.extend(0, 2, NEST, -3, 0.0);
        due("p & 3", x.call(2, 5), 16);
        x.extend(1, 0, ADD, 100, 0.0);
        x.extend(0, 2, NEST, 3, 5.0);
        due("3 counts as 0", x.call(2, 5), 16 + 1 + 11 + 100);
        due("x + 1 wraps", x.call(0, MAX), MIN + 110);
        x.stop(1);
        due("a point with none", x.call(0, 5), 6);
        due("calls", x.extension(0, 4), 4);
    }

    private static void callDeep(PluginBoundary x) {
        startNew(x, 3);
        x.extend(3, 0, NEST, 1, 0.0);
        x.extend(3, 1, NEST, 2, 0.0);
        x.extend(3, 2, NEST, 3, 0.0);
        due("three deeper, then DEEP", x.call(0, 10), 13);
        dueFault(x, 0, 0, PluginBoundary.DEEP, 3);
        due("one fault", x.count(2), 1);
        due("calls", x.extension(0, 4), 2);
        due("calls", x.extension(1, 4), 1);
        due("three deeper, then DEEP", x.call(1, 10), 13);
        dueFault(x, 0, 1, PluginBoundary.DEEP, 3);
        x.extend(3, 0, COUNT, 0, 1.0);
        due("the point goes on behind the fault", x.call(0, 10), 13 + 1 + 2);
        due("faults", x.extension(0, 3), 2);
        due("faults of the second", x.extension(1, 3), 1);
        due("faults of the third", x.extension(2, 3), 0);
    }

    private static void callShutOutWithin(PluginBoundary x) {
        startNew(x, 0);
        x.extend(0, 0, NEST, 0, 0.0);
        x.extend(0, 0, NEST, 0, 1.0);
        x.extend(0, 0, REFUSE, 0, 2.0);
        due("live when it began, not at its turn", x.call(0, 1), 7);
        due("the first is shut out", x.extension(0, 5), 2);
        due("the second is shut out", x.extension(1, 5), 2);
        due("the third is shut out", x.extension(2, 5), 2);
        due("calls of the first", x.extension(0, 4), 7);
        due("calls of the second", x.extension(1, 4), 5);
        due("calls of the third", x.extension(2, 4), 3);
        due("faults", x.count(2), 9);
        dueEvents(x, 61, 60, 62, 10, REFUSED);
        dueFault(x, 0, 1, PluginBoundary.DEEP, 0);
        dueFault(x, 1, 0, PluginBoundary.DEEP, 0);
        dueFault(x, 2, 2, PluginBoundary.OWN, -1);
        due("none is left", x.call(0, 1), 1);
        due("none is left", x.at(0, 0), REFUSED);
    }

    private static void callBracket(PluginBoundary x) {
        startNew(x, 0);
        x.extend(0, 0, BRACKET, 4, 0.0);
        x.call(0, 3);
        dueEvents(x, 40, 10, REFUSED);
        due("p: the event and the fault", x.call(0, 4), 4);
        dueEvents(x, 40, 40, 10, REFUSED);
        x.call(0, 4);
        x.call(0, 4);
        dueEvents(x, 60, 40, 40, 40, 40, 10, REFUSED);
        due("shut out", x.call(0, 3), 3);
        due("no event more", x.count(3), 6);
    }

    private static void forgive(PluginBoundary x) {
        startNew(x, 0);
        x.extend(0, 0, BROKEN, 0, 0.0);
        due("without faults", x.forgive(0), REFUSED);
        x.call(0, 0);
        x.call(0, 0);
        due("with two faults", x.forgive(0), REFUSED);
        due("they stay", x.extension(0, 3), 2);
        x.call(0, 0);
        due("shut out", x.extension(0, 5), 2);
        due("forgive", x.forgive(0), 0);
        due("live", x.extension(0, 5), 1);
        due("no faults", x.extension(0, 3), 0);
        due("calls stay", x.extension(0, 4), 3);
        dueCounts(x, 1, 1, 3, 2, 0);
        due("forgive twice", x.forgive(0), REFUSED);
        callThrice(x, 0);
        due("shut out again", x.extension(0, 5), 2);
        due("a second event", x.count(3), 3);
        x.stop(0);
        due("forgive one that is not active", x.forgive(0), 0);
        due("not live", x.extension(0, 5), 0);
        due("forgive(-1)", x.forgive(-1), REFUSED);
        due("forgive(1)", x.forgive(1), REFUSED);
        due("forgive(16)", x.forgive(16), REFUSED);
        x.start(0);
        callThrice(x, 0);
        x.stop(0);
        x.uninstall(0);
        due("forgive one gone", x.forgive(0), REFUSED);
    }

    private static void state(PluginBoundary x) {
        due("absent", x.state(6), 0);
        x.install(6);
        due("installed", x.state(6), 1);
        x.start(6);
        due("active", x.state(6), 2);
        x.stop(6);
        due("installed", x.state(6), 1);
        x.uninstall(6);
        due("absent", x.state(6), 0);
        due("state(-1)", x.state(-1), REFUSED);
        due("state(8)", x.state(8), REFUSED);
        due("state(MIN)", x.state(MIN), REFUSED);
    }

    private static void extension(PluginBoundary x) {
        x.install(4);
        x.extend(4, 2, BROKEN, 9, 1.0);
        int[] fresh = {4, 2, 4, 0, 0, 0};
        for (int what = 0; what < 6; what++) {
            due("what " + what, x.extension(0, what), fresh[what]);
        }
        x.start(4);
        due("live", x.extension(0, 5), 1);
        x.call(2, 0);
        x.call(2, 0);
        int[] used = {4, 2, 4, 2, 2, 1};
        for (int what = 0; what < 6; what++) {
            due("what " + what, x.extension(0, what), used[what]);
        }
        x.call(2, 0);
        due("shut out", x.extension(0, 5), 2);
        due("faults", x.extension(0, 3), 3);
        x.stop(4);
        due("shut out, not active", x.extension(0, 5), 2);
        due("what -1", x.extension(0, -1), REFUSED);
        due("what 6", x.extension(0, 6), REFUSED);
        due("extension -1", x.extension(-1, 0), REFUSED);
        due("extension 1", x.extension(1, 0), REFUSED);
        due("extension 16", x.extension(16, 0), REFUSED);
    }

    private static void at(PluginBoundary x) {
        startNew(x, 0);
        x.install(1);
        x.extend(0, 1, ADD, 0, 2.0);
        x.extend(0, 1, ADD, 0, -0.0);
        x.extend(1, 1, ADD, 0, 1.0);
        x.extend(0, 1, BROKEN, 0, -7.5);
        x.extend(0, 1, ADD, 0, 0.0);
        x.extend(0, 0, ADD, 0, 0.0);
        int[] first = {3, 1, 4, 0, REFUSED};
        for (int k = 0; k < first.length; k++) {
            due("at(1, " + k + ")", x.at(1, k), first[k]);
        }
        x.start(1);
        callThrice(x, 1);
        int[] then = {1, 4, 2, 0, REFUSED};
        for (int k = 0; k < then.length; k++) {
            due("at(1, " + k + ")", x.at(1, k), then[k]);
        }
        due("at(0, 0)", x.at(0, 0), 5);
        due("at(2, 0)", x.at(2, 0), REFUSED);
        due("k -1", x.at(1, -1), REFUSED);
        due("k MAX", x.at(1, MAX), REFUSED);
        due("point -1", x.at(-1, 0), REFUSED);
        due("point 3", x.at(3, 0), REFUSED);
    }

    private static void weight(PluginBoundary x) {
        startNew(x, 0);
        x.install(1);
        x.extend(0, 1, ADD, 0, 0.5);
        x.extend(0, 1, BROKEN, 0, -2.25);
        x.extend(1, 1, ADD, 0, 16.0);
        x.extend(0, 0, ADD, 0, 4.0);
        due("weight(1)", x.weight(1), -1.75);
        x.start(1);
        due("weight(1), one more", x.weight(1), 14.25);
        callThrice(x, 1);
        due("weight(1), one shut out", x.weight(1), 16.5);
        due("weight(0)", x.weight(0), 4.0);
        due("weight(2)", x.weight(2), 0.0);
        due("weight(-1)", x.weight(-1), 0.0);
        due("weight(3)", x.weight(3), 0.0);
        x.extend(0, 2, ADD, 0, 1.0);
        x.extend(0, 2, ADD, 0, 1e16);
        x.extend(0, 2, ADD, 0, 1.0);
        due("the small ones first", x.weight(2), 1e16 + 2.0);
    }

    private static void weightAtTheEnds(PluginBoundary x) {
        startNew(x, 0);
        x.extend(0, 0, ADD, 0, -0.0);
        due("0.0 and -0.0", 1.0 / x.weight(0), INFINITY);
        x.extend(0, 0, ADD, 0, INFINITY);
        x.extend(0, 0, ADD, 0, INFINITY);
        due("infinities of one sign", x.weight(0), INFINITY);
        x.extend(0, 1, ADD, 0, -Double.MAX_VALUE);
        x.extend(0, 1, ADD, 0, -Double.MAX_VALUE);
        x.extend(0, 1, ADD, 0, Double.MAX_VALUE);
        due("a sum that overflows", x.weight(1), -INFINITY);
        x.extend(0, 1, ADD, 0, INFINITY);
        due("opposite infinities have no sum", x.weight(1), 0.0);
        nanAtTheEnd(x);
        PluginBoundary lowest = new PluginBoundary();
        startNew(lowest, 0);
        lowest.extend(0, 0, ADD, 0, INFINITY);
        lowest.extend(0, 0, ADD, 0, -Double.MAX_VALUE);
        due("the lowest number and an infinity", lowest.weight(0), INFINITY);
    }

    private static void nanAtTheEnd(PluginBoundary x) {
        x.extend(0, 2, ADD, 0, Double.NaN);
        x.extend(0, 2, ADD, 0, 3.0);
        x.extend(0, 2, ADD, 0, Double.NaN);
        x.extend(0, 2, ADD, 0, INFINITY);
        due("NaN is handed on", x.weight(2), Double.NaN);
        int[] order = {8, 10, 7, 9, REFUSED};
        for (int k = 0; k < order.length; k++) {
            due("NaN comes last", x.at(2, k), order[k]);
        }
    }

    private static void ordinal(PluginBoundary x) {
        x.install(0);
        x.extend(0, 0, ADD, 0, -7.75);
        x.extend(0, 0, ADD, 0, Double.MAX_VALUE);
        due("ordinal(0)", x.ordinal(0), -7.75);
        due("ordinal(1)", x.ordinal(1), Double.MAX_VALUE);
        due("ordinal(2)", x.ordinal(2), 0.0);
        due("ordinal(-1)", x.ordinal(-1), 0.0);
        due("ordinal(16)", x.ordinal(16), 0.0);
        x.uninstall(0);
        due("ordinal of one gone", x.ordinal(0), 0.0);
    }

    private static void fault(PluginBoundary x) {
        startNew(x, 0);
        for (int number = 0; number < 4; number++) {
            x.extend(0, 0, number % 2 == 0 ? BROKEN : ASK, 6, number);
        }
        due("none yet", x.fault(0, 1), REFUSED);
        x.call(0, 0);
        dueFault(x, 0, 3, PluginBoundary.EMPTY, 6);
        dueFault(x, 1, 2, PluginBoundary.LINKAGE, -1);
        dueFault(x, 3, 0, PluginBoundary.LINKAGE, -1);
        due("a fifth", x.fault(4, 1), REFUSED);
        x.call(0, 0);
        x.extend(0, 1, DIVIDE, 0, 0.0);
        x.call(1, 0);
        dueFault(x, 0, 4, PluginBoundary.ARITHMETIC, -1);
        for (int k = 1; k < 8; k++) {
            due("extension", x.fault(k, 0), (12 - k) % 4);
            due("kind", x.fault(k, 1), k % 2 == 1 ? PluginBoundary.EMPTY : PluginBoundary.LINKAGE);
            due("provider", x.fault(k, 2), k % 2 == 1 ? 6 : -1);
        }
        due("a ninth is not kept", x.fault(8, 1), REFUSED);
        due("k -1", x.fault(-1, 1), REFUSED);
        due("k MIN", x.fault(MIN, 1), REFUSED);
        due("k MAX", x.fault(MAX, 1), REFUSED);
        due("what -1", x.fault(0, -1), REFUSED);
        due("what 3", x.fault(0, 3), REFUSED);
        due("all are counted", x.count(2), 9);
    }

    private static void event(PluginBoundary x) {
        due("none yet", x.event(0), REFUSED);
        startNew(x, 1);
        startNew(x, 7);
        x.stop(1);
        dueEvents(x, 21, 17, 11, REFUSED);
        for (int number = 0; number < 16; number++) {
            x.extend(7, 1, BRACKET, MIN, number);
        }
        x.call(1, 1);
        for (int k = 0; k < 16; k++) {
            due("event(" + k + ")", x.event(k), 55 - k);
        }
        due("a seventeenth is not kept", x.event(16), REFUSED);
        x.stop(7);
        dueEvents(x, 27, 55, 54);
        due("event(15)", x.event(15), 41);
        due("event(-1)", x.event(-1), REFUSED);
        due("event(MIN)", x.event(MIN), REFUSED);
        due("event(MAX)", x.event(MAX), REFUSED);
        due("all are counted", x.count(3), 20);
    }

    private static void count(PluginBoundary x) {
        installAll(x, 3);
        x.start(0);
        x.start(2);
        x.extend(0, 0, BROKEN, 0, 0.0);
        x.extend(2, 0, BROKEN, 0, 0.0);
        x.extend(1, 0, BROKEN, 0, 0.0);
        dueCounts(x, 2, 3, 0, 2, 0);
        x.call(0, 0);
        dueCounts(x, 2, 3, 2, 2, 0);
        x.call(0, 0);
        x.call(0, 0);
        dueCounts(x, 2, 3, 6, 4, 2);
        x.forgive(0);
        dueCounts(x, 2, 3, 6, 4, 1);
        x.stop(2);
        dueCounts(x, 1, 3, 6, 5, 1);
        x.uninstall(2);
        dueCounts(x, 1, 3, 6, 5, 0);
        due("count(-1)", x.count(-1), REFUSED);
        due("count(5)", x.count(5), REFUSED);
        due("count(MAX)", x.count(MAX), REFUSED);
    }
}
