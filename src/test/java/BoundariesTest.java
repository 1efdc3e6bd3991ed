import java.lang.reflect.InvocationTargetException;
import java.lang.reflect.Method;
import java.util.ArrayList;
import java.util.Comparator;
import java.util.List;

/**
 * Each sentence of the document that names a boundary case, in a test of its own on a new object. A
 * test is a method whose name begins with the number of its promise; one that answers wrong ends there.
 */
public final class BoundariesTest {
    private static final int REFUSED = PluginBoundary.REFUSED;
    private static final int FULL = PluginBoundary.FULL;
    private static final int ABSENT = PluginBoundary.ABSENT;
    private static final int CYCLE = PluginBoundary.CYCLE;
    private static final int ARITHMETIC = PluginBoundary.ARITHMETIC;
    private static final int INDEX = PluginBoundary.INDEX;
    private static final int CAST = PluginBoundary.CAST;
    private static final int EMPTY = PluginBoundary.EMPTY;
    private static final int LINKAGE = PluginBoundary.LINKAGE;
    private static final int OWN = PluginBoundary.OWN;
    private static final int DEEP = PluginBoundary.DEEP;

    private static final int ADD = 0;
    private static final int DIVIDE = 1;
    private static final int LOOK = 2;
    private static final int ASK = 3;
    private static final int BROKEN = 4;
    private static final int NEST = 5;
    private static final int REFUSE = 6;
    private static final int COUNT = 7;
    private static final int BRACKET = 8;

    private static final int NO_FAULT = 0;
    private static final int NOBODY = -1;
    private static final int MIN = Integer.MIN_VALUE;
    private static final int MAX = Integer.MAX_VALUE;
    private static final double INFINITY = Double.POSITIVE_INFINITY;

    private static final int[] NO_PLUGINS = {-1, 8, 9, 16, 32, -8, MIN, MAX};
    private static final int[] NO_POINTS = {-1, 3, 4, -4, MIN, MAX};
    private static final int[] NO_EXTENSIONS = {-1, 16, 17, 32, -16, MIN, MAX};

    public static void main(String[] args) throws IllegalAccessException {
        List<Method> tests = new ArrayList<>();
        for (Method method : BoundariesTest.class.getDeclaredMethods()) {
            if (method.getName().startsWith("promise")) {
                tests.add(method);
            }
        }
        tests.sort(Comparator.comparing(Method::getName));
        int failed = 0;
        for (Method test : tests) {
            failed += passes(test) ? 0 : 1;
        }
        System.out.println(tests.size() + " boundary cases, " + failed + " failed");
        if (failed != 0) {
            System.exit(1);
        }
    }

    private static boolean passes(Method test) throws IllegalAccessException {
        try {
            test.invoke(null, new PluginBoundary());
            return true;
        } catch (InvocationTargetException e) {
            System.out.println(test.getName() + ": " + e.getCause().getMessage() + lineIn(test, e.getCause()));
            return false;
        }
    }

    private static String lineIn(Method test, Throwable thrown) {
        for (StackTraceElement call : thrown.getStackTrace()) {
            if (call.getMethodName().equals(test.getName())) {
                return " (line " + call.getLineNumber() + ")";
            }
        }
        return "";
    }

    /** 0.0 and -0.0 are not the same here. */
    private static void due(double got, double want) {
        if (Double.compare(got, want) != 0) {
            throw new AssertionError("answered " + got + ", due is " + want);
        }
    }

    /** All events that were noted, the first one first. */
    private static void dueEvents(PluginBoundary x, int... events) {
        due(x.count(3), events.length);
        for (int k = 0; k < events.length; k++) {
            due(x.event(k), events[events.length - 1 - k]);
        }
    }

    private static void dueFault(PluginBoundary x, int k, int extension, int kind, int provider) {
        due(x.fault(k, 0), extension);
        due(x.fault(k, 1), kind);
        due(x.fault(k, 2), provider);
    }

    /** All extensions of a point, in their order. */
    private static void dueAt(PluginBoundary x, int point, int... numbers) {
        for (int k = 0; k < numbers.length; k++) {
            due(x.at(point, k), numbers[k]);
        }
        due(x.at(point, numbers.length), REFUSED);
    }

    /** Whatever can be read of an object. */
    private static String everything(PluginBoundary x) {
        StringBuilder all = new StringBuilder();
        for (int number = 0; number < 16; number++) {
            for (int what = 0; what < 6; what++) {
                all.append(x.extension(number, what)).append(' ');
            }
            all.append(x.ordinal(number)).append(' ').append(x.event(number)).append(' ').append(x.state(number));
            for (int what = 0; what < 3; what++) {
                all.append(' ').append(x.fault(number, what)).append(' ').append(x.at(what, number));
            }
            all.append(' ').append(x.count(number)).append(' ').append(x.weight(number)).append('\n');
        }
        return all.toString();
    }

    private static void dueUnchanged(PluginBoundary x, String before) {
        if (!everything(x).equals(before)) {
            throw new AssertionError("a refused call changed something:\n" + before + "->\n" + everything(x));
        }
    }

    private static void installed(PluginBoundary x, int... plugins) {
        for (int plugin : plugins) {
            due(x.install(plugin), 0);
        }
    }

    private static void started(PluginBoundary x, int... plugins) {
        for (int plugin : plugins) {
            x.install(plugin);
            due(x.start(plugin), 0);
        }
    }

    private static void called(PluginBoundary x, int point, int times) {
        for (int time = 0; time < times; time++) {
            x.call(point, 0);
        }
    }

    /**
     * Plugin 0 is ACTIVE, 1 and 2 are INSTALLED, the others absent; extension 0 is live with one fault, 1
     * is gone, 2 is shut out, 3 is not of an ACTIVE plugin.
     */
    private static void filled(PluginBoundary x) {
        started(x, 0);
        installed(x, 1, 2, 3);
        x.need(0, 1, true);
        x.need(2, 7, false);
        x.serve(0, 1, 70);
        x.extend(0, 0, ASK, 2, 3.5);
        x.extend(3, 0, ADD, 1, 4.5);
        x.extend(0, 1, BROKEN, 0, 5.5);
        x.extend(1, 0, BRACKET, 5, 6.5);
        called(x, 0, 1);
        called(x, 1, 3);
        x.uninstall(3);
    }

    /** What one extension, alone at its point, makes of x, and the fault that comes. */
    private static void dueOf(int kind, int p, int given, int want, int fault) {
        PluginBoundary x = new PluginBoundary();
        started(x, 5);
        x.extend(5, 1, kind, p, 0.0);
        due(x.call(1, given), want);
        due(x.extension(0, 4), 1);
        if (fault == NO_FAULT) {
            due(x.count(2), 0);
        } else {
            due(x.count(2), 1);
            dueFault(x, 0, 0, fault, NOBODY);
        }
        due(x.extension(0, 3), x.count(2));
    }

    // Promise 1

    static void promise01_everyPluginIsAbsentAtFirst(PluginBoundary x) {
        for (int plugin = 0; plugin < 8; plugin++) {
            due(x.state(plugin), 0);
            due(x.start(plugin), ABSENT);
        }
        due(x.count(0), 0);
    }

    static void promise01_noServiceAtFirst(PluginBoundary x) {
        started(x, 0, 1, 2, 3, 4, 5, 6, 7);
        for (int plugin = 0; plugin < 8; plugin++) {
            x.extend(plugin, 0, ASK, plugin, plugin);
        }
        due(x.call(0, 9), 9);
        for (int plugin = 0; plugin < 8; plugin++) {
            dueFault(x, 7 - plugin, plugin, EMPTY, plugin);
        }
    }

    static void promise01_noNeedsAtFirst(PluginBoundary x) {
        installed(x, 0, 1, 2, 3, 4, 5, 6, 7);
        for (int plugin = 0; plugin < 8; plugin++) {
            due(x.need(plugin, (plugin + 1) % 8, true), 1);
        }
    }

    static void promise01_noExtensionIsMadeAtFirst(PluginBoundary x) {
        for (int number = 0; number < 16; number++) {
            due(x.extension(number, 0), REFUSED);
            due(x.ordinal(number), 0.0);
        }
        due(x.count(1), 0);
        due(x.count(4), 0);
    }

    static void promise01_noFaultIsNotedAtFirst(PluginBoundary x) {
        for (int what = 0; what < 3; what++) {
            due(x.fault(0, what), REFUSED);
        }
        due(x.count(2), 0);
    }

    static void promise01_noEventIsNotedAtFirst(PluginBoundary x) {
        due(x.event(0), REFUSED);
        due(x.count(3), 0);
    }

    static void promise01_oneObjectKnowsNothingOfAnother(PluginBoundary x) {
        String before = everything(x);
        filled(new PluginBoundary());
        dueUnchanged(x, before);
    }

    static void promise01_the512thCallIsAnsweredAsTheFirst(PluginBoundary x) {
        started(x, 0);
        x.extend(0, 0, COUNT, 0, 0.0);
        for (int call = 4; call < 512; call++) {
            due(x.call(0, 0), call - 3);
        }
        due(x.call(0, MAX), MAX + 509);
    }

    // Promise 2

    static void promise02_theFirstAndTheLastPlugin(PluginBoundary x) {
        due(x.install(0), 0);
        due(x.install(7), 0);
        due(x.state(0), 1);
        due(x.state(7), 1);
    }

    static void promise02_aNumberThatIsNoPluginIsRefused(PluginBoundary x) {
        for (int plugin : NO_PLUGINS) {
            due(x.install(plugin), REFUSED);
        }
    }

    static void promise02_anInstalledOneIsRefused(PluginBoundary x) {
        due(x.install(3), 0);
        due(x.install(3), REFUSED);
        due(x.state(3), 1);
    }

    static void promise02_anActiveOneIsRefused(PluginBoundary x) {
        started(x, 3);
        due(x.install(3), REFUSED);
        due(x.state(3), 2);
    }

    static void promise02_oneThatIsAbsentAgainIsInstalled(PluginBoundary x) {
        installed(x, 3);
        x.uninstall(3);
        due(x.install(3), 0);
        due(x.state(3), 1);
    }

    static void promise02_aRefusedCallChangesNothing(PluginBoundary x) {
        filled(x);
        String before = everything(x);
        for (int plugin : new int[] {0, 1, 2, -1, 8, MIN, MAX}) {
            due(x.install(plugin), REFUSED);
        }
        dueUnchanged(x, before);
        due(x.start(2), ABSENT);
        due(x.need(0, 2, true), 2);
    }

    static void promise02_noEventIsNoted(PluginBoundary x) {
        installed(x, 0, 1);
        dueEvents(x);
    }

    // Promise 3

    static void promise03_aNumberThatIsNoPluginIsRefused(PluginBoundary x) {
        for (int plugin : NO_PLUGINS) {
            due(x.uninstall(plugin), REFUSED);
        }
    }

    static void promise03_anAbsentOneIsRefused(PluginBoundary x) {
        due(x.uninstall(0), REFUSED);
        due(x.uninstall(7), REFUSED);
    }

    static void promise03_anActiveOneIsRefused(PluginBoundary x) {
        started(x, 7);
        due(x.uninstall(7), REFUSED);
        due(x.state(7), 2);
    }

    static void promise03_aSecondTimeIsRefused(PluginBoundary x) {
        installed(x, 0);
        due(x.uninstall(0), 0);
        due(x.state(0), 0);
        due(x.uninstall(0), REFUSED);
    }

    static void promise03_aStoppedOneIsUninstalled(PluginBoundary x) {
        started(x, 7);
        x.stop(7);
        due(x.uninstall(7), 0);
        due(x.state(7), 0);
    }

    static void promise03_itsNeedsAreGone(PluginBoundary x) {
        installed(x, 0);
        x.need(0, 7, false);
        x.uninstall(0);
        installed(x, 0);
        due(x.start(0), 0);
        due(x.need(0, 7, false), 1);
    }

    static void promise03_itsOptionalNeedsAreGone(PluginBoundary x) {
        installed(x, 0, 7);
        x.need(0, 7, true);
        x.uninstall(0);
        installed(x, 0);
        due(x.start(0), 0);
        due(x.state(7), 1);
        due(x.need(0, 7, false), 1);
    }

    static void promise03_whatOthersNeedOfItStays(PluginBoundary x) {
        installed(x, 0, 1);
        x.need(1, 0, false);
        x.uninstall(0);
        due(x.start(1), ABSENT);
        due(x.need(1, 0, true), REFUSED);
    }

    static void promise03_itsServiceIsGone(PluginBoundary x) {
        installed(x, 0);
        x.serve(0, 1, 5);
        x.uninstall(0);
        started(x, 0);
        x.extend(0, 0, ASK, 0, 0.0);
        due(x.call(0, 1), 1);
        dueFault(x, 0, 0, EMPTY, 0);
    }

    static void promise03_itsExtensionsAreGone(PluginBoundary x) {
        installed(x, 0);
        x.extend(0, 0, ADD, 5, 1.0);
        x.extend(0, 0, ADD, 6, 1.0);
        x.uninstall(0);
        started(x, 0);
        due(x.call(0, 1), 1);
        dueAt(x, 0);
        due(x.weight(0), 0.0);
    }

    static void promise03_extensionsOfOthersStay(PluginBoundary x) {
        installed(x, 0);
        started(x, 1);
        x.extend(1, 0, ADD, 5, 1.0);
        x.extend(0, 0, ADD, 6, 1.0);
        x.extend(1, 0, ADD, 7, 1.0);
        x.uninstall(0);
        dueAt(x, 0, 0, 2);
        due(x.call(0, 0), 12);
    }

    static void promise03_theirNumbersAreNotGivenAgain(PluginBoundary x) {
        installed(x, 0);
        due(x.extend(0, 0, ADD, 0, 0.0), 0);
        due(x.extend(0, 0, ADD, 0, 0.0), 1);
        x.uninstall(0);
        installed(x, 0);
        due(x.extend(0, 0, ADD, 0, 0.0), 2);
        due(x.extension(0, 0), REFUSED);
        due(x.extension(1, 0), REFUSED);
        due(x.extension(2, 0), 0);
    }

    static void promise03_ofOneThatIsGoneAllNumbersAreRefused(PluginBoundary x) {
        started(x, 4);
        x.extend(4, 2, BROKEN, 0, 1.0);
        called(x, 2, 3);
        x.stop(4);
        x.uninstall(4);
        for (int what = 0; what < 6; what++) {
            due(x.extension(0, what), REFUSED);
        }
        due(x.forgive(0), REFUSED);
    }

    static void promise03_oneWithoutExtensionsLeavesThoseToCome(PluginBoundary x) {
        installed(x, 0);
        due(x.uninstall(0), 0);
        started(x, 0);
        due(x.extend(0, 0, ADD, 5, 1.0), 0);
        due(x.call(0, 1), 6);
    }

    static void promise03_aRefusedCallChangesNothing(PluginBoundary x) {
        filled(x);
        String before = everything(x);
        for (int plugin : new int[] {0, 3, 7, -1, 8, MIN, MAX}) {
            due(x.uninstall(plugin), REFUSED);
        }
        dueUnchanged(x, before);
        due(x.need(0, 2, true), 2);
        x.extend(0, 2, ASK, 0, 0.0);
        due(x.call(2, 1), 71);
    }

    // Promise 4

    static void promise04_anAbsentOneIsRefused(PluginBoundary x) {
        installed(x, 1);
        due(x.need(0, 1, false), REFUSED);
        installed(x, 0);
        due(x.need(0, 1, false), 1);
    }

    static void promise04_aNumberThatIsNoPluginIsRefused(PluginBoundary x) {
        installed(x, 0);
        for (int plugin : NO_PLUGINS) {
            due(x.need(plugin, 0, false), REFUSED);
        }
    }

    static void promise04_anotherThatIsNoPluginIsRefused(PluginBoundary x) {
        installed(x, 0);
        for (int plugin : NO_PLUGINS) {
            due(x.need(0, plugin, false), REFUSED);
            due(x.need(0, plugin, true), REFUSED);
        }
        due(x.need(0, 1, false), 1);
    }

    static void promise04_theFirstAndTheLastOther(PluginBoundary x) {
        installed(x, 3);
        due(x.need(3, 0, false), 1);
        due(x.need(3, 7, false), 2);
    }

    static void promise04_anotherThatIsAbsentIsTaken(PluginBoundary x) {
        installed(x, 0);
        due(x.need(0, 7, false), 1);
        due(x.start(0), ABSENT);
    }

    static void promise04_oneThatIsActiveMayNeedMore(PluginBoundary x) {
        started(x, 0, 1);
        due(x.need(0, 1, false), 1);
        due(x.stop(1), 2);
    }

    static void promise04_itselfIsRefused(PluginBoundary x) {
        installed(x, 0, 7);
        due(x.need(0, 0, false), REFUSED);
        due(x.need(7, 7, true), REFUSED);
        due(x.start(0), 0);
    }

    static void promise04_oneTwiceIsRefused(PluginBoundary x) {
        installed(x, 0);
        due(x.need(0, 1, false), 1);
        due(x.need(0, 1, false), REFUSED);
    }

    static void promise04_oneTwiceIsRefusedIfOptional(PluginBoundary x) {
        installed(x, 0);
        due(x.need(0, 1, true), 1);
        due(x.need(0, 1, true), REFUSED);
    }

    static void promise04_oneTwiceLeavesItAsItWas(PluginBoundary x) {
        installed(x, 0, 1);
        x.need(0, 6, false);
        due(x.need(0, 6, true), REFUSED);
        due(x.start(0), ABSENT);
        x.need(1, 6, true);
        due(x.need(1, 6, false), REFUSED);
        due(x.start(1), 0);
    }

    static void promise04_allSevenOthers(PluginBoundary x) {
        installed(x, 4);
        int needs = 0;
        for (int other : new int[] {7, 0, 6, 1, 5, 2, 3}) {
            needs++;
            due(x.need(4, other, needs % 2 == 0), needs);
        }
        for (int other = 0; other < 8; other++) {
            due(x.need(4, other, false), REFUSED);
        }
    }

    static void promise04_aRefusedCallChangesNothing(PluginBoundary x) {
        filled(x);
        String before = everything(x);
        due(x.need(0, 0, false), REFUSED);
        due(x.need(0, 1, false), REFUSED);
        due(x.need(0, 8, false), REFUSED);
        due(x.need(3, 0, false), REFUSED);
        due(x.need(8, 0, false), REFUSED);
        dueUnchanged(x, before);
        due(x.need(0, 5, false), 2);
        installed(x, 3);
        due(x.need(3, 0, false), 1);
    }

    // Promise 5

    static void promise05_anAbsentOneIsRefused(PluginBoundary x) {
        due(x.serve(0, 1, 5), REFUSED);
        started(x, 0);
        x.extend(0, 0, ASK, 0, 0.0);
        due(x.call(0, 1), 1);
        dueFault(x, 0, 0, EMPTY, 0);
    }

    static void promise05_aNumberThatIsNoPluginIsRefused(PluginBoundary x) {
        for (int plugin : NO_PLUGINS) {
            due(x.serve(plugin, 0, 0), REFUSED);
            due(x.serve(plugin, 1, 0), REFUSED);
        }
    }

    static void promise05_aKindTooSmallOrTooLargeIsRefused(PluginBoundary x) {
        installed(x, 0);
        for (int kind : new int[] {-1, 3, 4, MIN, MAX}) {
            due(x.serve(0, kind, 0), REFUSED);
        }
    }

    static void promise05_theShortestText(PluginBoundary x) {
        started(x, 0);
        x.extend(0, 0, ASK, 0, 0.0);
        due(x.serve(0, 2, 0), 0);
        due(x.call(0, 1), 1);
        dueFault(x, 0, 0, CAST, 0);
    }

    static void promise05_theLongestText(PluginBoundary x) {
        started(x, 0);
        x.extend(0, 0, ASK, 0, 0.0);
        due(x.serve(0, 2, 9), 0);
        due(x.call(0, 1), 1);
        dueFault(x, 0, 0, CAST, 0);
    }

    static void promise05_aTextTooShortIsRefused(PluginBoundary x) {
        installed(x, 0);
        due(x.serve(0, 2, -1), REFUSED);
        due(x.serve(0, 2, MIN), REFUSED);
    }

    static void promise05_aTextTooLongIsRefused(PluginBoundary x) {
        installed(x, 0);
        due(x.serve(0, 2, 10), REFUSED);
        due(x.serve(0, 2, MAX), REFUSED);
    }

    static void promise05_anyNumberIsTaken(PluginBoundary x) {
        started(x, 0);
        x.extend(0, 0, ASK, 0, 0.0);
        for (int v : new int[] {MIN, -1, 0, 9, 10, MAX}) {
            due(x.serve(0, 1, v), 0);
            due(x.call(0, 0), v);
        }
        due(x.count(2), 0);
    }

    static void promise05_noneIsTakenWithAnyV(PluginBoundary x) {
        started(x, 0);
        x.extend(0, 0, ASK, 0, 0.0);
        x.extend(0, 1, ASK, 0, 0.0);
        x.serve(0, 1, 5);
        due(x.serve(0, 0, -1), 0);
        due(x.call(0, 1), 1);
        x.serve(0, 1, 5);
        due(x.serve(0, 0, 10), 0);
        due(x.call(1, 1), 1);
        due(x.count(2), 2);
    }

    static void promise05_aRefusedCallChangesNothing(PluginBoundary x) {
        started(x, 0);
        x.extend(0, 0, ASK, 0, 0.0);
        x.serve(0, 1, 5);
        String before = everything(x);
        due(x.serve(0, 2, 10), REFUSED);
        due(x.serve(0, 2, -1), REFUSED);
        due(x.serve(0, 3, 6), REFUSED);
        due(x.serve(0, -1, 6), REFUSED);
        due(x.serve(8, 1, 6), REFUSED);
        dueUnchanged(x, before);
        due(x.call(0, 1), 6);
    }

    // Promise 6

    static void promise06_anAbsentOneIsRefused(PluginBoundary x) {
        due(x.extend(0, 0, ADD, 0, 0.0), REFUSED);
        due(x.extend(7, 0, ADD, 0, 0.0), REFUSED);
    }

    static void promise06_aNumberThatIsNoPluginIsRefused(PluginBoundary x) {
        installed(x, 0);
        for (int plugin : NO_PLUGINS) {
            due(x.extend(plugin, 0, ADD, 0, 0.0), REFUSED);
        }
    }

    static void promise06_aPointTooSmallOrTooLargeIsRefused(PluginBoundary x) {
        installed(x, 0);
        for (int point : NO_POINTS) {
            due(x.extend(0, point, ADD, 0, 0.0), REFUSED);
        }
    }

    static void promise06_theFirstAndTheLastPoint(PluginBoundary x) {
        started(x, 7);
        due(x.extend(7, 0, ADD, 0, 0.0), 0);
        due(x.extend(7, 2, ADD, 0, 0.0), 1);
        dueAt(x, 0, 0);
        dueAt(x, 2, 1);
    }

    static void promise06_aKindTooSmallOrTooLargeIsRefused(PluginBoundary x) {
        installed(x, 0);
        for (int kind : new int[] {-1, 9, 10, MIN, MAX}) {
            due(x.extend(0, 0, kind, 0, 0.0), REFUSED);
        }
    }

    static void promise06_theFirstAndTheLastKind(PluginBoundary x) {
        installed(x, 0);
        due(x.extend(0, 0, ADD, 0, 0.0), 0);
        due(x.extend(0, 0, BRACKET, 0, 0.0), 1);
        due(x.extension(0, 2), 0);
        due(x.extension(1, 2), 8);
    }

    static void promise06_anyPIsTaken(PluginBoundary x) {
        started(x, 0);
        due(x.extend(0, 0, ADD, MIN, 0.0), 0);
        due(x.extend(0, 1, ADD, MAX, 0.0), 1);
        due(x.call(0, 0), MIN);
        due(x.call(1, 0), MAX);
    }

    static void promise06_anyOrdinalIsTaken(PluginBoundary x) {
        installed(x, 0);
        double[] ordinals = {-INFINITY, -Double.MAX_VALUE, -Double.MIN_VALUE, -0.0, 0.0, Double.MIN_VALUE,
            Double.MAX_VALUE, INFINITY, Double.NaN};
        for (int number = 0; number < ordinals.length; number++) {
            due(x.extend(0, 0, ADD, 0, ordinals[number]), number);
            due(x.ordinal(number), ordinals[number]);
        }
    }

    static void promise06_anInstalledAndAnActiveOneMayExtend(PluginBoundary x) {
        installed(x, 0);
        started(x, 1);
        due(x.extend(0, 0, ADD, 0, 0.0), 0);
        due(x.extend(1, 0, ADD, 0, 0.0), 1);
    }

    static void promise06_aNewOneHasNoFaultsAndNoCalls(PluginBoundary x) {
        started(x, 0);
        x.extend(0, 0, BROKEN, 0, 0.0);
        called(x, 0, 3);
        due(x.extend(0, 0, BROKEN, 0, 0.0), 1);
        due(x.extension(1, 3), 0);
        due(x.extension(1, 4), 0);
        due(x.extension(1, 5), 1);
    }

    static void promise06_theSixteenthIsMade(PluginBoundary x) {
        started(x, 7);
        for (int number = 0; number < 16; number++) {
            due(x.extend(7, 0, ADD, 1, 0.0), number);
        }
        due(x.call(0, 0), 16);
    }

    static void promise06_aSeventeenthIsFull(PluginBoundary x) {
        started(x, 0);
        for (int number = 0; number < 16; number++) {
            x.extend(0, 0, ADD, 1, 0.0);
        }
        String before = everything(x);
        due(x.extend(0, 1, ADD, 1, 0.0), FULL);
        due(x.extend(0, 0, ADD, 1, -1.0), FULL);
        dueUnchanged(x, before);
        due(x.call(0, 0), 16);
        due(x.call(1, 0), 0);
    }

    static void promise06_thoseThatAreGoneCountForFull(PluginBoundary x) {
        installed(x, 0, 1);
        for (int number = 0; number < 16; number++) {
            x.extend(0, 0, ADD, 1, 0.0);
        }
        x.uninstall(0);
        due(x.extend(1, 0, ADD, 1, 0.0), FULL);
        due(x.count(1), 16);
    }

    static void promise06_refusedComesBeforeFull(PluginBoundary x) {
        installed(x, 0);
        for (int number = 0; number < 16; number++) {
            x.extend(0, 0, ADD, 1, 0.0);
        }
        due(x.extend(8, 0, ADD, 1, 0.0), REFUSED);
        due(x.extend(1, 0, ADD, 1, 0.0), REFUSED);
        due(x.extend(0, 3, ADD, 1, 0.0), REFUSED);
        due(x.extend(0, 0, 9, 1, 0.0), REFUSED);
    }

    static void promise06_aRefusedCallChangesNothing(PluginBoundary x) {
        filled(x);
        String before = everything(x);
        due(x.extend(3, 0, ADD, 0, 0.0), REFUSED);
        due(x.extend(8, 0, ADD, 0, 0.0), REFUSED);
        due(x.extend(0, 3, ADD, 0, 0.0), REFUSED);
        due(x.extend(0, 0, 9, 0, 0.0), REFUSED);
        dueUnchanged(x, before);
        due(x.extend(0, 0, ADD, 0, 0.0), 4);
    }

    // Promise 7

    static void promise07_aNumberThatIsNoPluginIsRefused(PluginBoundary x) {
        for (int plugin : NO_PLUGINS) {
            due(x.start(plugin), REFUSED);
        }
    }

    static void promise07_anAbsentOneIsAbsent(PluginBoundary x) {
        due(x.start(0), ABSENT);
        due(x.start(7), ABSENT);
        installed(x, 0);
        x.uninstall(0);
        due(x.start(0), ABSENT);
        due(x.state(0), 0);
        dueEvents(x);
    }

    static void promise07_anActiveOneIsAll(PluginBoundary x) {
        started(x, 0);
        installed(x, 1);
        x.need(0, 1, true);
        x.need(0, 7, false);
        due(x.start(0), 0);
        due(x.state(0), 2);
        due(x.state(1), 1);
        dueEvents(x, 10);
    }

    static void promise07_oneWithoutNeeds(PluginBoundary x) {
        installed(x, 0, 7);
        due(x.start(7), 0);
        due(x.state(7), 2);
        due(x.state(0), 1);
        dueEvents(x, 17);
    }

    static void promise07_twoThatNeedEachOtherAreACycle(PluginBoundary x) {
        installed(x, 0, 1);
        x.need(0, 1, false);
        x.need(1, 0, false);
        due(x.start(0), CYCLE);
        due(x.start(1), CYCLE);
        due(x.count(0), 0);
        dueEvents(x);
    }

    static void promise07_allEightInACircleAreACycle(PluginBoundary x) {
        for (int plugin = 0; plugin < 8; plugin++) {
            installed(x, plugin);
            x.need(plugin, (plugin + 1) % 8, false);
        }
        for (int plugin = 0; plugin < 8; plugin++) {
            due(x.start(plugin), CYCLE);
        }
        dueEvents(x);
    }

    static void promise07_aCycleBehindItIsItsCodeToo(PluginBoundary x) {
        installed(x, 0, 1, 2);
        x.need(0, 1, false);
        x.need(1, 2, false);
        x.need(2, 1, false);
        due(x.start(0), CYCLE);
        due(x.count(0), 0);
    }

    static void promise07_anAbsentOneFarBehindItIsItsCodeToo(PluginBoundary x) {
        for (int plugin = 0; plugin < 7; plugin++) {
            installed(x, plugin);
            x.need(plugin, plugin + 1, false);
        }
        due(x.start(0), ABSENT);
        due(x.count(0), 0);
        dueEvents(x);
    }

    static void promise07_aChainOfAllEight(PluginBoundary x) {
        for (int plugin = 0; plugin < 8; plugin++) {
            installed(x, plugin);
            x.need(plugin, plugin + 1, false);
        }
        due(x.start(0), 0);
        dueEvents(x, 17, 16, 15, 14, 13, 12, 11, 10);
    }

    static void promise07_oneNeededTwiceIsStartedOnce(PluginBoundary x) {
        installed(x, 0, 1, 2, 3);
        x.need(0, 1, false);
        x.need(0, 2, false);
        x.need(1, 3, false);
        x.need(2, 3, false);
        due(x.start(0), 0);
        dueEvents(x, 13, 11, 12, 10);
    }

    static void promise07_needsAreStartedByRisingNumber(PluginBoundary x) {
        installed(x, 3, 0, 7, 5);
        x.need(3, 7, true);
        x.need(3, 5, false);
        x.need(3, 0, true);
        due(x.start(3), 0);
        dueEvents(x, 10, 15, 17, 13);
    }

    static void promise07_nothingMoreIsDoneAfterACode(PluginBoundary x) {
        installed(x, 0, 2, 3);
        x.need(0, 1, false);
        x.need(0, 2, false);
        x.need(0, 3, true);
        due(x.start(0), ABSENT);
        due(x.state(2), 1);
        due(x.state(3), 1);
        dueEvents(x);
    }

    static void promise07_whatWasStartedStays(PluginBoundary x) {
        installed(x, 0, 1, 2);
        x.need(0, 1, false);
        x.need(0, 2, true);
        x.need(0, 3, false);
        due(x.start(0), ABSENT);
        due(x.state(1), 2);
        due(x.state(2), 2);
        due(x.state(0), 1);
        dueEvents(x, 11, 12);
    }

    static void promise07_oneThatFailedMayStartLater(PluginBoundary x) {
        installed(x, 0, 1);
        x.need(0, 1, false);
        x.need(1, 2, false);
        due(x.start(0), ABSENT);
        due(x.start(0), ABSENT);
        installed(x, 2);
        due(x.start(0), 0);
        dueEvents(x, 12, 11, 10);
    }

    static void promise07_anOptionalOneThatIsAbsentDoesNotMatter(PluginBoundary x) {
        installed(x, 0);
        x.need(0, 7, true);
        due(x.start(0), 0);
        due(x.state(7), 0);
        dueEvents(x, 10);
    }

    static void promise07_anOptionalOneThatIsInstalledIsStarted(PluginBoundary x) {
        installed(x, 0, 7);
        x.need(0, 7, true);
        due(x.start(0), 0);
        due(x.state(7), 2);
        dueEvents(x, 17, 10);
    }

    static void promise07_anOptionalOneThatIsActiveIsLeft(PluginBoundary x) {
        started(x, 7);
        installed(x, 0);
        x.need(0, 7, true);
        due(x.start(0), 0);
        dueEvents(x, 17, 10);
    }

    static void promise07_theAbsentOfAnOptionalOneDoesNotMatter(PluginBoundary x) {
        installed(x, 0, 1);
        x.need(0, 1, true);
        x.need(1, 7, false);
        due(x.start(0), 0);
        due(x.state(1), 1);
        dueEvents(x, 10);
    }

    static void promise07_theCycleOfAnOptionalOneDoesNotMatter(PluginBoundary x) {
        installed(x, 0, 1);
        x.need(0, 1, true);
        x.need(1, 0, false);
        due(x.start(0), 0);
        due(x.state(1), 1);
        dueEvents(x, 10);
    }

    static void promise07_twoWithOptionalNeedsOfEachOtherBothStart(PluginBoundary x) {
        installed(x, 0, 1);
        x.need(0, 1, true);
        x.need(1, 0, true);
        due(x.start(0), 0);
        dueEvents(x, 11, 10);
    }

    static void promise07_theOptionalNeedsOfAnOptionalOneStartToo(PluginBoundary x) {
        installed(x, 0, 1, 2);
        x.need(0, 1, true);
        x.need(1, 2, true);
        due(x.start(0), 0);
        dueEvents(x, 12, 11, 10);
    }

    static void promise07_aRefusedCallChangesNothing(PluginBoundary x) {
        filled(x);
        String before = everything(x);
        for (int plugin : NO_PLUGINS) {
            due(x.start(plugin), REFUSED);
        }
        dueUnchanged(x, before);
    }

    // Promise 8

    static void promise08_aNumberThatIsNoPluginIsRefused(PluginBoundary x) {
        for (int plugin : NO_PLUGINS) {
            due(x.stop(plugin), REFUSED);
        }
    }

    static void promise08_anAbsentOneIsRefused(PluginBoundary x) {
        due(x.stop(0), REFUSED);
        due(x.stop(7), REFUSED);
    }

    static void promise08_anInstalledOneIsRefused(PluginBoundary x) {
        installed(x, 0);
        due(x.stop(0), REFUSED);
        due(x.state(0), 1);
    }

    static void promise08_aSecondTimeIsRefused(PluginBoundary x) {
        started(x, 7);
        due(x.stop(7), 1);
        due(x.stop(7), REFUSED);
        dueEvents(x, 17, 27);
    }

    static void promise08_oneThatNoneNeedsIsStoppedAlone(PluginBoundary x) {
        started(x, 0, 1);
        x.need(0, 1, false);
        due(x.stop(0), 1);
        due(x.state(0), 1);
        due(x.state(1), 2);
        dueEvents(x, 10, 11, 20);
    }

    static void promise08_aChainOfAllEight(PluginBoundary x) {
        for (int plugin = 0; plugin < 8; plugin++) {
            installed(x, plugin);
            x.need(plugin, plugin + 1, false);
        }
        x.start(0);
        due(x.stop(7), 8);
        dueEvents(x, 17, 16, 15, 14, 13, 12, 11, 10, 20, 21, 22, 23, 24, 25, 26, 27);
        due(x.count(0), 0);
    }

    static void promise08_oneThatNeedsItOptionallyStays(PluginBoundary x) {
        started(x, 0);
        installed(x, 1);
        x.need(1, 0, true);
        x.start(1);
        due(x.stop(0), 1);
        due(x.state(1), 2);
    }

    static void promise08_oneThatNeedsItAndIsInstalledIsNotStopped(PluginBoundary x) {
        started(x, 0);
        installed(x, 1);
        x.need(1, 0, false);
        due(x.stop(0), 1);
        dueEvents(x, 10, 20);
    }

    static void promise08_theOneStartedLastIsStoppedFirst(PluginBoundary x) {
        installed(x, 0, 1, 2, 3, 4);
        for (int plugin = 1; plugin < 5; plugin++) {
            x.need(plugin, 0, false);
        }
        started(x, 3, 1, 4, 2);
        due(x.stop(0), 5);
        dueEvents(x, 10, 13, 11, 14, 12, 22, 24, 21, 23, 20);
    }

    static void promise08_oneStartedAgainIsStartedLast(PluginBoundary x) {
        installed(x, 0, 1, 2);
        x.need(1, 0, false);
        x.need(2, 0, false);
        started(x, 1, 2);
        x.stop(1);
        started(x, 1);
        x.start(2);
        due(x.stop(0), 3);
        dueEvents(x, 10, 11, 12, 21, 11, 21, 22, 20);
    }

    static void promise08_theLastIsSoughtAnewAfterEach(PluginBoundary x) {
        started(x, 0, 1, 2, 3);
        x.need(1, 0, false);
        x.need(2, 0, false);
        x.need(3, 0, false);
        x.need(2, 3, false);
        due(x.stop(0), 4);
        dueEvents(x, 10, 11, 12, 13, 22, 23, 21, 20);
    }

    static void promise08_oneThatIsBeingStoppedIsNotStoppedAgain(PluginBoundary x) {
        started(x, 0, 1);
        x.need(0, 1, false);
        x.need(1, 0, false);
        due(x.stop(0), 2);
        dueEvents(x, 10, 11, 21, 20);
    }

    static void promise08_allEightInACircle(PluginBoundary x) {
        started(x, 0, 1, 2, 3, 4, 5, 6, 7);
        for (int plugin = 0; plugin < 8; plugin++) {
            x.need(plugin, (plugin + 1) % 8, false);
        }
        due(x.stop(0), 8);
        due(x.count(0), 0);
        due(x.count(3), 16);
        due(x.event(0), 20);
        for (int k = 1; k < 8; k++) {
            due(x.event(k), 28 - k);
        }
    }

    static void promise08_oneStoppedInACircleMayBeStoppedLater(PluginBoundary x) {
        started(x, 0, 1);
        x.need(0, 1, false);
        x.need(1, 0, false);
        due(x.stop(1), 2);
        x.uninstall(0);
        x.uninstall(1);
        started(x, 0);
        installed(x, 1);
        x.need(1, 0, false);
        started(x, 1);
        due(x.stop(0), 2);
        dueEvents(x, 10, 11, 20, 21, 10, 11, 21, 20);
    }

    static void promise08_aRefusedCallChangesNothing(PluginBoundary x) {
        filled(x);
        String before = everything(x);
        for (int plugin : new int[] {1, 2, 3, 7, -1, 8, MIN, MAX}) {
            due(x.stop(plugin), REFUSED);
        }
        dueUnchanged(x, before);
    }

    // Promise 9

    static void promise09_noneIsThere(PluginBoundary x) {
        due(x.startAll(), 0);
        dueEvents(x);
    }

    static void promise09_allEightByRisingNumber(PluginBoundary x) {
        installed(x, 7, 6, 5, 4, 3, 2, 1, 0);
        due(x.startAll(), 8);
        dueEvents(x, 10, 11, 12, 13, 14, 15, 16, 17);
    }

    static void promise09_thoseThatAreAbsentStayAbsent(PluginBoundary x) {
        installed(x, 0, 7);
        due(x.startAll(), 2);
        for (int plugin = 1; plugin < 7; plugin++) {
            due(x.state(plugin), 0);
        }
    }

    static void promise09_thoseThatAreActiveCountAndStay(PluginBoundary x) {
        started(x, 5);
        installed(x, 1);
        due(x.startAll(), 2);
        due(x.startAll(), 2);
        dueEvents(x, 15, 11);
    }

    static void promise09_oneThatCannotStartHoldsNoneUp(PluginBoundary x) {
        installed(x, 0, 1, 2, 3);
        x.need(0, 7, false);
        x.need(1, 2, false);
        x.need(2, 1, false);
        due(x.startAll(), 1);
        dueEvents(x, 13);
    }

    static void promise09_oneNeededIsStartedBeforeItsTurn(PluginBoundary x) {
        installed(x, 0, 1, 2);
        x.need(0, 2, false);
        due(x.startAll(), 3);
        dueEvents(x, 12, 10, 11);
    }

    // Promise 10

    static void promise10_aNumberThatIsNoPointIsRefused(PluginBoundary x) {
        for (int point : NO_POINTS) {
            due(x.call(point, 5), REFUSED);
        }
    }

    static void promise10_aRefusedCallChangesNothing(PluginBoundary x) {
        filled(x);
        String before = everything(x);
        for (int point : NO_POINTS) {
            due(x.call(point, 0), REFUSED);
        }
        dueUnchanged(x, before);
    }

    static void promise10_aPointWithoutExtensionsComesToX(PluginBoundary x) {
        started(x, 0);
        for (int point = 0; point < 3; point++) {
            for (int given : new int[] {MIN, -1, 0, 1, MAX}) {
                due(x.call(point, given), given);
            }
        }
    }

    static void promise10_oneOfAPluginThatIsNotActiveIsNotCalled(PluginBoundary x) {
        installed(x, 0);
        x.extend(0, 0, ADD, 5, 0.0);
        due(x.call(0, 1), 1);
        due(x.extension(0, 4), 0);
        x.start(0);
        due(x.call(0, 1), 6);
        x.stop(0);
        due(x.call(0, 1), 1);
        due(x.extension(0, 4), 1);
    }

    static void promise10_oneThatIsShutOutIsNotCalled(PluginBoundary x) {
        started(x, 0);
        x.extend(0, 0, REFUSE, 5, 0.0);
        for (int time = 0; time < 3; time++) {
            due(x.call(0, 5), 5);
        }
        due(x.call(0, 4), 4);
        due(x.call(0, 5), 5);
        due(x.extension(0, 4), 3);
        due(x.count(2), 3);
    }

    static void promise10_oneOfAnotherPointIsNotCalled(PluginBoundary x) {
        started(x, 0);
        x.extend(0, 0, ADD, 1, 0.0);
        x.extend(0, 1, ADD, 10, 0.0);
        x.extend(0, 2, ADD, 100, 0.0);
        due(x.call(0, 0), 1);
        due(x.call(1, 0), 10);
        due(x.call(2, 0), 100);
    }

    static void promise10_theLowestOrdinalIsCalledFirst(PluginBoundary x) {
        started(x, 0);
        x.extend(0, 0, ADD, 1, INFINITY);
        x.extend(0, 0, BRACKET, MIN, Double.MIN_VALUE);
        x.extend(0, 0, ADD, 3, 0.0);
        x.extend(0, 0, BRACKET, MIN, -Double.MIN_VALUE);
        x.extend(0, 0, ADD, 5, -INFINITY);
        due(x.call(0, 0), ((0 + 5) * 2 + 3) * 2 + 1);
    }

    static void promise10_thoseOfTheSameOrdinalAreCalledByNumber(PluginBoundary x) {
        started(x, 0);
        x.extend(0, 0, ADD, 3, 0.0);
        x.extend(0, 0, BRACKET, MIN, -0.0);
        x.extend(0, 0, ADD, 1, 0.0);
        due(x.call(0, 0), 7);
        x.extend(0, 1, ADD, 3, -0.0);
        x.extend(0, 1, BRACKET, MIN, 0.0);
        x.extend(0, 1, ADD, 1, -0.0);
        due(x.call(1, 0), 7);
    }

    static void promise10_sixteenAtOnePoint(PluginBoundary x) {
        started(x, 0);
        for (int number = 0; number < 16; number++) {
            x.extend(0, 2, ADD, 1 << number, -number);
        }
        due(x.call(2, 0), 65535);
    }

    static void promise10_callsGrowsAlsoIfAFaultComes(PluginBoundary x) {
        started(x, 0);
        x.extend(0, 0, BROKEN, 0, 0.0);
        called(x, 0, 2);
        due(x.extension(0, 4), 2);
        due(x.extension(0, 3), 2);
    }

    static void promise10_addWraps(PluginBoundary x) {
        dueOf(ADD, 1, MAX, MIN, NO_FAULT);
        dueOf(ADD, -1, MIN, MAX, NO_FAULT);
        dueOf(ADD, MIN, MIN, 0, NO_FAULT);
        dueOf(ADD, MAX, MAX, -2, NO_FAULT);
    }

    static void promise10_divideGoesTowardZero(PluginBoundary x) {
        dueOf(DIVIDE, 2, 7, 3, NO_FAULT);
        dueOf(DIVIDE, 2, -7, -3, NO_FAULT);
        dueOf(DIVIDE, -2, 7, -3, NO_FAULT);
        dueOf(DIVIDE, -2, -7, 3, NO_FAULT);
        dueOf(DIVIDE, 8, -7, 0, NO_FAULT);
    }

    static void promise10_divideWraps(PluginBoundary x) {
        dueOf(DIVIDE, -1, MIN, MIN, NO_FAULT);
        dueOf(DIVIDE, -1, MAX, -MAX, NO_FAULT);
    }

    static void promise10_divideByZeroIsArithmetic(PluginBoundary x) {
        dueOf(DIVIDE, 0, 7, 7, ARITHMETIC);
        dueOf(DIVIDE, 0, 0, 0, ARITHMETIC);
        dueOf(DIVIDE, 0, MIN, MIN, ARITHMETIC);
        dueOf(DIVIDE, 1, 0, 0, NO_FAULT);
    }

    static void promise10_lookAtTheFirstAndTheLastPlace(PluginBoundary x) {
        dueOf(LOOK, 0, 0, 2, NO_FAULT);
        dueOf(LOOK, 0, 11, 37, NO_FAULT);
        dueOf(LOOK, 11, 0, 37, NO_FAULT);
        dueOf(LOOK, 6, 13, 37, NO_FAULT);
    }

    static void promise10_lookBehindTheEndIsIndex(PluginBoundary x) {
        for (int place = 12; place < 16; place++) {
            dueOf(LOOK, 0, place, place, INDEX);
            dueOf(LOOK, place, 0, 0, INDEX);
        }
    }

    static void promise10_lookTakesTheLastFourBits(PluginBoundary x) {
        dueOf(LOOK, 0, 16, 2, NO_FAULT);
        dueOf(LOOK, 0, 27, 37, NO_FAULT);
        dueOf(LOOK, 0, 28, 28, INDEX);
        dueOf(LOOK, 0, -1, -1, INDEX);
        dueOf(LOOK, 0, -16, 2, NO_FAULT);
        dueOf(LOOK, -1, -12, 37, NO_FAULT);
        dueOf(LOOK, MIN, MAX, MAX, INDEX);
        dueOf(LOOK, MIN, 1, 3, NO_FAULT);
    }

    static void promise10_lookKnowsAllTwelve(PluginBoundary x) {
        int[] primes = {2, 3, 5, 7, 11, 13, 17, 19, 23, 29, 31, 37};
        for (int place = 0; place < 12; place++) {
            dueOf(LOOK, 0, place, primes[place], NO_FAULT);
        }
    }

    static void promise10_askTakesTheLastThreeBits(PluginBoundary x) {
        started(x, 0, 7);
        x.serve(0, 1, 100);
        x.serve(7, 1, 700);
        int[] ps = {0, 8, MIN, 7, -1, MAX};
        for (int number = 0; number < ps.length; number++) {
            x.extend(0, 0, ASK, ps[number], number);
        }
        due(x.call(0, 1), 2401);
        due(x.count(2), 0);
    }

    static void promise10_askWraps(PluginBoundary x) {
        started(x, 0);
        x.extend(0, 0, ASK, 0, 0.0);
        x.serve(0, 1, MAX);
        due(x.call(0, MAX), -2);
        x.serve(0, 1, MIN);
        due(x.call(0, -1), MAX);
    }

    static void promise10_askOfAnAbsentOneIsEmpty(PluginBoundary x) {
        started(x, 0);
        x.extend(0, 0, ASK, 15, 0.0);
        due(x.call(0, 1), 1);
        dueFault(x, 0, 0, EMPTY, 7);
    }

    static void promise10_askOfAnInstalledOneIsEmpty(PluginBoundary x) {
        started(x, 0);
        installed(x, 1, 2);
        x.serve(1, 1, 5);
        x.serve(2, 2, 5);
        x.extend(0, 0, ASK, 1, 0.0);
        x.extend(0, 0, ASK, 2, 0.0);
        due(x.call(0, 1), 1);
        dueFault(x, 0, 1, EMPTY, 2);
        dueFault(x, 1, 0, EMPTY, 1);
    }

    static void promise10_askOfOneWithoutAServiceIsEmpty(PluginBoundary x) {
        started(x, 0, 1);
        x.extend(0, 0, ASK, 1, 0.0);
        due(x.call(0, 1), 1);
        dueFault(x, 0, 0, EMPTY, 1);
        x.serve(1, 1, 5);
        x.serve(1, 0, 5);
        due(x.call(0, 1), 1);
        dueFault(x, 0, 0, EMPTY, 1);
    }

    static void promise10_askForATextIsCast(PluginBoundary x) {
        started(x, 0, 1);
        x.serve(1, 2, 0);
        x.extend(0, 0, ASK, 1, 0.0);
        due(x.call(0, 1), 1);
        dueFault(x, 0, 0, CAST, 1);
    }

    static void promise10_askForZeroIsNoFault(PluginBoundary x) {
        started(x, 0);
        x.serve(0, 1, 0);
        x.extend(0, 0, ASK, 0, 0.0);
        due(x.call(0, 1), 1);
        due(x.count(2), 0);
    }

    static void promise10_brokenIsAlwaysLinkage(PluginBoundary x) {
        dueOf(BROKEN, 0, 0, 0, LINKAGE);
        dueOf(BROKEN, MAX, MIN, MIN, LINKAGE);
        dueOf(BROKEN, -1, MAX, MAX, LINKAGE);
    }

    static void promise10_nestTakesTheLastTwoBitsAndThreeCountsAsZero(PluginBoundary x) {
        started(x, 0);
        x.extend(0, 1, ADD, 100, 0.0);
        x.extend(0, 2, ADD, 200, 0.0);
        int[] ps = {1, 2, 5, 6, -2, -3};
        int[] adds = {100, 200, 100, 200, 200, 100};
        int sum = 0;
        for (int number = 0; number < ps.length; number++) {
            x.extend(0, 0, NEST, ps[number], number);
            sum += 1 + adds[number];
        }
        due(x.call(0, 0), sum);
        int[] zeros = {0, 3, 4, 7, -1, MAX, MIN};
        for (int p : zeros) {
            PluginBoundary other = new PluginBoundary();
            started(other, 0);
            other.extend(0, 0, ADD, 1000, 0.0);
            other.extend(0, 1, NEST, p, 0.0);
            due(other.call(1, 0), 1001);
        }
    }

    static void promise10_nestWraps(PluginBoundary x) {
        dueOf(NEST, 0, MAX, MIN, NO_FAULT);
    }

    static void promise10_nestOfAPointWithoutExtensionsComesToXPlusOne(PluginBoundary x) {
        dueOf(NEST, 2, 5, 6, NO_FAULT);
        dueOf(NEST, 3, -1, 0, NO_FAULT);
    }

    static void promise10_depthThreeIsCalled(PluginBoundary x) {
        started(x, 0);
        x.extend(0, 0, NEST, 0, 1.0);
        x.extend(0, 0, ADD, 10, 0.0);
        due(x.call(0, 0), 4 * 10 + 3);
        due(x.extension(1, 4), 4);
    }

    static void promise10_aDepthAboveThreeIsDeep(PluginBoundary x) {
        started(x, 6);
        x.extend(6, 0, NEST, 0, 0.0);
        due(x.call(0, 1), 4);
        due(x.count(2), 1);
        due(x.extension(0, 4), 4);
        dueFault(x, 0, 0, DEEP, 6);
    }

    static void promise10_deepIsTheFaultOfTheOneThatCalls(PluginBoundary x) {
        started(x, 3, 4);
        x.extend(3, 0, NEST, 1, 0.0);
        x.extend(4, 1, NEST, 0, 0.0);
        due(x.call(0, 0), 3);
        dueFault(x, 0, 1, DEEP, 4);
        due(x.extension(0, 3), 0);
        due(x.extension(1, 3), 1);
        due(x.call(1, 0), 3);
        dueFault(x, 0, 0, DEEP, 3);
        due(x.extension(0, 3), 1);
    }

    static void promise10_afterDeepThePointGoesOn(PluginBoundary x) {
        started(x, 0);
        x.extend(0, 0, NEST, 0, 0.0);
        x.extend(0, 0, ADD, 10, 1.0);
        due(x.call(0, 0), 3 + 4 * 10);
        due(x.count(2), 1);
    }

    static void promise10_refuseTakesXBelowPAlone(PluginBoundary x) {
        dueOf(REFUSE, 5, 4, 4, NO_FAULT);
        dueOf(REFUSE, 5, 5, 5, OWN);
        dueOf(REFUSE, 5, 6, 6, OWN);
        dueOf(REFUSE, 5, MIN, MIN, NO_FAULT);
        dueOf(REFUSE, -5, -6, -6, NO_FAULT);
    }

    static void promise10_refuseAtTheEndsOfTheInts(PluginBoundary x) {
        dueOf(REFUSE, MIN, MIN, MIN, OWN);
        dueOf(REFUSE, MIN, MAX, MAX, OWN);
        dueOf(REFUSE, MAX, MAX, MAX, OWN);
        dueOf(REFUSE, MAX, MAX - 1, MAX - 1, NO_FAULT);
        dueOf(REFUSE, MAX, MIN, MIN, NO_FAULT);
    }

    static void promise10_countAddsOneAtTheFirstCall(PluginBoundary x) {
        started(x, 0);
        x.extend(0, 0, COUNT, 50, 0.0);
        due(x.call(0, 10), 11);
        due(x.call(0, 10), 12);
    }

    static void promise10_countWraps(PluginBoundary x) {
        dueOf(COUNT, 0, MAX, MIN, NO_FAULT);
    }

    static void promise10_bracketWraps(PluginBoundary x) {
        dueOf(BRACKET, 0, MIN, 0, NO_FAULT);
        dueOf(BRACKET, 0, MAX, -2, NO_FAULT);
        dueOf(BRACKET, 0, 1 << 30, MIN, NO_FAULT);
    }

    static void promise10_bracketNotesItsEvent(PluginBoundary x) {
        started(x, 0);
        x.extend(0, 0, BRACKET, 5, 0.0);
        due(x.call(0, 4), 8);
        due(x.call(0, 6), 12);
        dueEvents(x, 10, 40, 40);
        due(x.count(2), 0);
    }

    static void promise10_bracketOfPNotesItsEventAndIsOwn(PluginBoundary x) {
        started(x, 0);
        x.extend(0, 0, BRACKET, 5, 0.0);
        due(x.call(0, 5), 5);
        dueEvents(x, 10, 40);
        dueFault(x, 0, 0, OWN, NOBODY);
        dueOf(BRACKET, 0, 0, 0, OWN);
        dueOf(BRACKET, MIN, MIN, MIN, OWN);
    }

    static void promise10_theThirdFaultOfBracketNotesItsEventFirst(PluginBoundary x) {
        started(x, 0);
        x.extend(0, 0, BRACKET, 0, 0.0);
        called(x, 0, 3);
        dueEvents(x, 10, 40, 40, 40, 60);
    }

    static void promise10_aFaultLeavesXForTheNext(PluginBoundary x) {
        started(x, 0);
        x.extend(0, 0, ADD, 5, 0.0);
        x.extend(0, 0, BROKEN, 0, 1.0);
        x.extend(0, 0, BRACKET, 0, 2.0);
        due(x.call(0, 1), 12);
        dueFault(x, 0, 1, LINKAGE, NOBODY);
    }

    static void promise10_twoFaultsDoNotShutOut(PluginBoundary x) {
        started(x, 0);
        x.extend(0, 0, BROKEN, 0, 0.0);
        called(x, 0, 2);
        due(x.extension(0, 5), 1);
        dueAt(x, 0, 0);
        dueEvents(x, 10);
    }

    static void promise10_threeFaultsShutOutAndNoteTheEventOnce(PluginBoundary x) {
        started(x, 0);
        x.extend(0, 0, BROKEN, 0, 0.0);
        called(x, 0, 9);
        due(x.extension(0, 3), 3);
        due(x.extension(0, 5), 2);
        dueAt(x, 0);
        dueEvents(x, 10, 60);
    }

    static void promise10_theLastExtensionHasTheLastEvents(PluginBoundary x) {
        started(x, 0);
        for (int number = 0; number < 15; number++) {
            x.extend(0, 1, ADD, 0, 0.0);
        }
        x.extend(0, 0, BRACKET, 0, 0.0);
        called(x, 0, 3);
        dueEvents(x, 10, 55, 55, 55, 75);
        dueFault(x, 0, 15, OWN, NOBODY);
    }

    static void promise10_faultsWithoutOneBetweenAreCountedTogether(PluginBoundary x) {
        started(x, 0);
        x.extend(0, 0, REFUSE, 5, 0.0);
        x.call(0, 5);
        x.call(0, 4);
        x.call(0, 5);
        x.call(0, 4);
        due(x.extension(0, 5), 1);
        x.call(0, 5);
        due(x.extension(0, 5), 2);
    }

    static void promise10_faultsStayWhenThePluginIsStartedAgain(PluginBoundary x) {
        started(x, 0);
        x.extend(0, 0, BROKEN, 0, 0.0);
        called(x, 0, 2);
        x.stop(0);
        x.start(0);
        due(x.extension(0, 3), 2);
        called(x, 0, 1);
        x.stop(0);
        x.start(0);
        due(x.extension(0, 5), 2);
    }

    static void promise10_oneShutOutBeforeItsTurnIsNotCalled(PluginBoundary x) {
        started(x, 0);
        x.extend(0, 1, BROKEN, 0, 1.0);
        called(x, 1, 2);
        x.extend(0, 1, NEST, 2, 0.0);
        x.extend(0, 2, NEST, 1, 0.0);
        due(x.extension(0, 3), 2);
        due(x.call(1, 0), 3);
        due(x.extension(0, 4), 3);
        due(x.extension(0, 3), 3);
        due(x.count(2), 4);
    }

    static void promise10_faultsWithinANestBelongWhereTheyCome(PluginBoundary x) {
        started(x, 0, 1);
        x.extend(0, 0, NEST, 1, 0.0);
        x.extend(1, 1, BROKEN, 0, 0.0);
        due(x.call(0, 4), 5);
        due(x.extension(0, 3), 0);
        due(x.extension(1, 3), 1);
        due(x.count(2), 1);
        dueFault(x, 0, 1, LINKAGE, NOBODY);
    }

    // Promise 11

    static void promise11_aNumberThatIsNoExtensionIsRefused(PluginBoundary x) {
        filled(x);
        for (int extension : NO_EXTENSIONS) {
            due(x.forgive(extension), REFUSED);
        }
        due(x.forgive(4), REFUSED);
        due(x.forgive(15), REFUSED);
    }

    static void promise11_oneWithoutFaultsIsRefused(PluginBoundary x) {
        started(x, 0);
        x.extend(0, 0, BROKEN, 0, 0.0);
        due(x.forgive(0), REFUSED);
    }

    static void promise11_oneWithTwoFaultsIsRefusedAndKeepsThem(PluginBoundary x) {
        started(x, 0);
        x.extend(0, 0, BROKEN, 0, 0.0);
        called(x, 0, 2);
        due(x.forgive(0), REFUSED);
        due(x.extension(0, 3), 2);
        called(x, 0, 1);
        due(x.extension(0, 5), 2);
    }

    static void promise11_oneThatIsShutOutIsLiveAgain(PluginBoundary x) {
        started(x, 0);
        x.extend(0, 0, BROKEN, 0, 0.0);
        called(x, 0, 3);
        due(x.forgive(0), 0);
        due(x.extension(0, 3), 0);
        due(x.extension(0, 5), 1);
        dueAt(x, 0, 0);
    }

    static void promise11_aSecondTimeIsRefused(PluginBoundary x) {
        started(x, 0);
        x.extend(0, 0, BROKEN, 0, 0.0);
        called(x, 0, 3);
        x.forgive(0);
        due(x.forgive(0), REFUSED);
    }

    static void promise11_threeFaultsMoreShutOutAgain(PluginBoundary x) {
        started(x, 0);
        x.extend(0, 0, BROKEN, 0, 0.0);
        called(x, 0, 3);
        x.forgive(0);
        called(x, 0, 2);
        due(x.extension(0, 5), 1);
        called(x, 0, 1);
        due(x.extension(0, 5), 2);
        dueEvents(x, 10, 60, 60);
        due(x.forgive(0), 0);
    }

    static void promise11_oneOfAPluginThatIsNotActiveIsForgiven(PluginBoundary x) {
        started(x, 0);
        x.extend(0, 0, BROKEN, 0, 0.0);
        called(x, 0, 3);
        x.stop(0);
        due(x.forgive(0), 0);
        due(x.extension(0, 5), 0);
        due(x.extension(0, 3), 0);
    }

    static void promise11_oneThatIsGoneIsRefused(PluginBoundary x) {
        started(x, 0);
        x.extend(0, 0, BROKEN, 0, 0.0);
        called(x, 0, 3);
        x.stop(0);
        x.uninstall(0);
        due(x.forgive(0), REFUSED);
        installed(x, 0);
        due(x.forgive(0), REFUSED);
    }

    static void promise11_whatWasNotedStays(PluginBoundary x) {
        started(x, 0);
        x.extend(0, 0, BROKEN, 0, 0.0);
        called(x, 0, 3);
        x.forgive(0);
        due(x.count(2), 3);
        dueFault(x, 0, 0, LINKAGE, NOBODY);
        dueEvents(x, 10, 60);
        due(x.extension(0, 4), 3);
    }

    static void promise11_aRefusedCallChangesNothing(PluginBoundary x) {
        filled(x);
        String before = everything(x);
        for (int extension : new int[] {0, 1, 3, 4, -1, 16, MIN, MAX}) {
            due(x.forgive(extension), REFUSED);
        }
        dueUnchanged(x, before);
    }

    // Promise 12

    static void promise12_aNumberThatIsNoPluginIsRefused(PluginBoundary x) {
        for (int plugin : NO_PLUGINS) {
            due(x.state(plugin), REFUSED);
        }
    }

    static void promise12_theThreeStates(PluginBoundary x) {
        for (int plugin : new int[] {0, 7}) {
            due(x.state(plugin), 0);
            x.install(plugin);
            due(x.state(plugin), 1);
            x.start(plugin);
            due(x.state(plugin), 2);
            x.stop(plugin);
            due(x.state(plugin), 1);
            x.uninstall(plugin);
            due(x.state(plugin), 0);
        }
    }

    // Promise 13

    static void promise13_aNumberThatIsNoExtensionIsRefused(PluginBoundary x) {
        filled(x);
        for (int extension : NO_EXTENSIONS) {
            due(x.extension(extension, 0), REFUSED);
        }
    }

    static void promise13_oneThatIsNotMadeIsRefused(PluginBoundary x) {
        installed(x, 0);
        x.extend(0, 0, ADD, 0, 0.0);
        for (int what = 0; what < 6; what++) {
            due(x.extension(1, what), REFUSED);
            due(x.extension(15, what), REFUSED);
        }
    }

    static void promise13_aWhatTooSmallOrTooLargeIsRefused(PluginBoundary x) {
        filled(x);
        for (int what : new int[] {-1, 6, 7, MIN, MAX}) {
            due(x.extension(0, what), REFUSED);
        }
    }

    static void promise13_theFirstAndTheLastExtension(PluginBoundary x) {
        installed(x, 0, 7);
        x.extend(0, 0, ADD, 0, 0.0);
        for (int number = 1; number < 15; number++) {
            x.extend(0, 1, ADD, 0, 0.0);
        }
        x.extend(7, 2, BRACKET, 0, 0.0);
        due(x.extension(0, 0), 0);
        due(x.extension(15, 0), 7);
        due(x.extension(15, 1), 2);
        due(x.extension(15, 2), 8);
    }

    static void promise13_oneOfAnActivePluginIsLive(PluginBoundary x) {
        started(x, 0);
        x.extend(0, 0, BROKEN, 0, 0.0);
        due(x.extension(0, 5), 1);
        called(x, 0, 2);
        due(x.extension(0, 5), 1);
    }

    static void promise13_oneOfAnInstalledPluginIsNotLive(PluginBoundary x) {
        installed(x, 0);
        x.extend(0, 0, BROKEN, 0, 0.0);
        due(x.extension(0, 5), 0);
    }

    static void promise13_oneThatIsShutOutIsNotLive(PluginBoundary x) {
        started(x, 0);
        x.extend(0, 0, BROKEN, 0, 0.0);
        called(x, 0, 3);
        due(x.extension(0, 5), 2);
    }

    static void promise13_oneThatIsShutOutStaysSoWhenItsPluginIsNotActive(PluginBoundary x) {
        started(x, 0);
        x.extend(0, 0, BROKEN, 0, 0.0);
        called(x, 0, 3);
        x.stop(0);
        due(x.extension(0, 5), 2);
    }

    // Promise 14

    static void promise14_aNumberThatIsNoPointIsRefused(PluginBoundary x) {
        started(x, 0);
        x.extend(0, 0, ADD, 0, 0.0);
        for (int point : NO_POINTS) {
            due(x.at(point, 0), REFUSED);
        }
    }

    static void promise14_aPointWithoutExtensionsHasNone(PluginBoundary x) {
        started(x, 0);
        x.extend(0, 1, ADD, 0, 0.0);
        due(x.at(0, 0), REFUSED);
        due(x.at(2, 0), REFUSED);
    }

    static void promise14_aKTooSmallOrTooLargeIsRefused(PluginBoundary x) {
        started(x, 0);
        x.extend(0, 0, ADD, 0, 0.0);
        x.extend(0, 0, ADD, 0, 0.0);
        due(x.at(0, 0), 0);
        due(x.at(0, 1), 1);
        for (int k : new int[] {-1, 2, 3, 16, MIN, MAX}) {
            due(x.at(0, k), REFUSED);
        }
    }

    static void promise14_sixteenAtOnePoint(PluginBoundary x) {
        started(x, 0);
        for (int number = 0; number < 16; number++) {
            x.extend(0, 2, ADD, 0, -number);
        }
        dueAt(x, 2, 15, 14, 13, 12, 11, 10, 9, 8, 7, 6, 5, 4, 3, 2, 1, 0);
    }

    static void promise14_thoseOfTheSameOrdinalByNumber(PluginBoundary x) {
        started(x, 0);
        for (int number = 0; number < 16; number++) {
            x.extend(0, 0, ADD, 0, number % 4);
        }
        dueAt(x, 0, 0, 4, 8, 12, 1, 5, 9, 13, 2, 6, 10, 14, 3, 7, 11, 15);
    }

    static void promise14_zeroAndMinusZeroAreTheSame(PluginBoundary x) {
        started(x, 0);
        x.extend(0, 0, ADD, 0, 0.0);
        x.extend(0, 0, ADD, 0, -0.0);
        x.extend(0, 0, ADD, 0, 0.0);
        x.extend(0, 0, ADD, 0, Double.MIN_VALUE);
        x.extend(0, 0, ADD, 0, -Double.MIN_VALUE);
        dueAt(x, 0, 4, 0, 1, 2, 3);
    }

    static void promise14_ordinalsAtTheEndsOfTheDoubles(PluginBoundary x) {
        started(x, 0);
        x.extend(0, 0, ADD, 0, INFINITY);
        x.extend(0, 0, ADD, 0, Double.MAX_VALUE);
        x.extend(0, 0, ADD, 0, 0.0);
        x.extend(0, 0, ADD, 0, -Double.MAX_VALUE);
        x.extend(0, 0, ADD, 0, -INFINITY);
        dueAt(x, 0, 4, 3, 2, 1, 0);
    }

    static void promise14_thoseThatAreNotLiveAreLeftOut(PluginBoundary x) {
        started(x, 0, 1);
        installed(x, 2);
        x.extend(1, 0, ADD, 0, 0.0);
        x.extend(0, 0, BROKEN, 0, 1.0);
        x.extend(2, 0, ADD, 0, 2.0);
        x.extend(0, 0, ADD, 0, 3.0);
        called(x, 0, 3);
        dueAt(x, 0, 0, 3);
        x.start(2);
        x.forgive(1);
        dueAt(x, 0, 0, 1, 2, 3);
        x.stop(1);
        x.uninstall(1);
        dueAt(x, 0, 1, 2, 3);
    }

    // Promise 15

    static void promise15_anotherPointWeighsNothing(PluginBoundary x) {
        started(x, 0);
        x.extend(0, 0, ADD, 0, 5.0);
        for (int point : NO_POINTS) {
            due(x.weight(point), 0.0);
        }
    }

    static void promise15_aPointWithoutExtensionsWeighsNothing(PluginBoundary x) {
        started(x, 0);
        x.extend(0, 1, ADD, 0, 5.0);
        due(x.weight(0), 0.0);
        due(x.weight(1), 5.0);
        due(x.weight(2), 0.0);
    }

    static void promise15_minusZeroAddedToZeroIsZero(PluginBoundary x) {
        started(x, 0);
        x.extend(0, 0, ADD, 0, -0.0);
        due(x.weight(0), 0.0);
    }

    static void promise15_thoseThatAreNotLiveWeighNothing(PluginBoundary x) {
        started(x, 0);
        installed(x, 1);
        x.extend(0, 0, BROKEN, 0, 1.0);
        x.extend(1, 0, ADD, 0, 2.0);
        x.extend(0, 0, ADD, 0, 4.0);
        due(x.weight(0), 5.0);
        called(x, 0, 3);
        due(x.weight(0), 4.0);
        x.start(1);
        due(x.weight(0), 6.0);
        x.stop(1);
        x.uninstall(1);
        due(x.weight(0), 4.0);
    }

    static void promise15_theLowestAreAddedFirst(PluginBoundary x) {
        started(x, 0);
        x.extend(0, 0, ADD, 0, 1e16);
        x.extend(0, 0, ADD, 0, 1.0);
        x.extend(0, 0, ADD, 0, 1.0);
        due(x.weight(0), 1e16 + 2.0);
        x.extend(0, 1, ADD, 0, 1.0);
        x.extend(0, 1, ADD, 0, 1e16);
        x.extend(0, 1, ADD, 0, -1e16);
        due(x.weight(1), 0.0);
    }

    static void promise15_aSumTooLargeIsInfinite(PluginBoundary x) {
        started(x, 0);
        x.extend(0, 0, ADD, 0, Double.MAX_VALUE);
        x.extend(0, 0, ADD, 0, Double.MAX_VALUE);
        due(x.weight(0), INFINITY);
        x.extend(0, 1, ADD, 0, -Double.MAX_VALUE);
        x.extend(0, 1, ADD, 0, -Double.MAX_VALUE);
        x.extend(0, 1, ADD, 0, Double.MAX_VALUE);
        due(x.weight(1), -INFINITY);
    }

    static void promise15_theSmallestOrdinalsAreNotLost(PluginBoundary x) {
        started(x, 0);
        x.extend(0, 0, ADD, 0, Double.MIN_VALUE);
        x.extend(0, 0, ADD, 0, Double.MIN_VALUE);
        due(x.weight(0), 2 * Double.MIN_VALUE);
    }

    static void promise15_anInfiniteOrdinalIsAdded(PluginBoundary x) {
        started(x, 0);
        x.extend(0, 0, ADD, 0, INFINITY);
        x.extend(0, 0, ADD, 0, -Double.MAX_VALUE);
        due(x.weight(0), INFINITY);
        x.extend(0, 1, ADD, 0, -INFINITY);
        x.extend(0, 1, ADD, 0, Double.MAX_VALUE);
        due(x.weight(1), -INFINITY);
    }

    // Promise 16

    static void promise16_aNumberThatIsNoExtensionHasZero(PluginBoundary x) {
        filled(x);
        for (int extension : NO_EXTENSIONS) {
            due(x.ordinal(extension), 0.0);
        }
    }

    static void promise16_oneThatIsNotMadeHasZero(PluginBoundary x) {
        installed(x, 0);
        x.extend(0, 0, ADD, 0, 3.5);
        due(x.ordinal(0), 3.5);
        due(x.ordinal(1), 0.0);
        due(x.ordinal(15), 0.0);
    }

    static void promise16_oneThatIsGoneHasZero(PluginBoundary x) {
        installed(x, 0);
        x.extend(0, 0, ADD, 0, 3.5);
        x.uninstall(0);
        due(x.ordinal(0), 0.0);
        installed(x, 0);
        due(x.ordinal(0), 0.0);
    }

    static void promise16_oneThatIsNotLiveKeepsItsOwn(PluginBoundary x) {
        started(x, 0);
        x.extend(0, 0, BROKEN, 0, 3.5);
        called(x, 0, 3);
        due(x.ordinal(0), 3.5);
        x.stop(0);
        due(x.ordinal(0), 3.5);
    }

    static void promise16_theLastExtensionHasItsOwn(PluginBoundary x) {
        installed(x, 0);
        for (int number = 0; number < 16; number++) {
            x.extend(0, 0, ADD, 0, 16.0 - number);
        }
        due(x.ordinal(15), 1.0);
        due(x.ordinal(0), 16.0);
    }

    // Promise 17

    /** Faults of the extensions 0 .. 3 in turn, kinds and providers apart. */
    private static void faultsNoted(PluginBoundary x, int many) {
        started(x, 0);
        for (int number = 0; number < many; number++) {
            x.extend(0, 0, number % 2 == 0 ? BROKEN : ASK, number, number);
        }
        x.call(0, 0);
        due(x.count(2), many);
    }

    private static void dueFaultOf(PluginBoundary x, int k, int number) {
        dueFault(x, k, number, number % 2 == 0 ? LINKAGE : EMPTY, number % 2 == 0 ? NOBODY : number & 7);
    }

    static void promise17_beforeTheFirstThereIsNone(PluginBoundary x) {
        filled(new PluginBoundary());
        for (int k = 0; k < 8; k++) {
            due(x.fault(k, 0), REFUSED);
        }
    }

    static void promise17_zeroIsTheLast(PluginBoundary x) {
        faultsNoted(x, 3);
        dueFaultOf(x, 0, 2);
        dueFaultOf(x, 2, 0);
    }

    static void promise17_behindTheFirstThereIsNone(PluginBoundary x) {
        faultsNoted(x, 3);
        for (int what = 0; what < 3; what++) {
            due(x.fault(3, what), REFUSED);
            due(x.fault(7, what), REFUSED);
        }
    }

    static void promise17_theEighthLastIsKept(PluginBoundary x) {
        faultsNoted(x, 8);
        dueFaultOf(x, 7, 0);
        dueFaultOf(x, 0, 7);
    }

    static void promise17_theNinthLastIsNotKept(PluginBoundary x) {
        faultsNoted(x, 9);
        dueFaultOf(x, 7, 1);
        for (int what = 0; what < 3; what++) {
            due(x.fault(8, what), REFUSED);
        }
    }

    static void promise17_ofManyTheLastEightAreKept(PluginBoundary x) {
        faultsNoted(x, 16);
        x.call(0, 0);
        due(x.count(2), 32);
        for (int k = 0; k < 8; k++) {
            dueFaultOf(x, k, 15 - k);
        }
        due(x.fault(8, 0), REFUSED);
        due(x.fault(15, 0), REFUSED);
        due(x.fault(16, 0), REFUSED);
    }

    static void promise17_aKTooSmallOrTooLargeIsRefused(PluginBoundary x) {
        faultsNoted(x, 9);
        for (int k : new int[] {-1, 8, 9, 16, MIN, MAX}) {
            due(x.fault(k, 0), REFUSED);
        }
    }

    static void promise17_aWhatTooSmallOrTooLargeIsRefused(PluginBoundary x) {
        faultsNoted(x, 1);
        for (int what : new int[] {-1, 3, 4, MIN, MAX}) {
            due(x.fault(0, what), REFUSED);
        }
    }

    static void promise17_theFaultsOfOneThatIsGoneStay(PluginBoundary x) {
        faultsNoted(x, 1);
        x.stop(0);
        x.uninstall(0);
        dueFaultOf(x, 0, 0);
    }

    // Promise 18

    static void promise18_beforeTheFirstThereIsNone(PluginBoundary x) {
        installed(x, 0);
        for (int k = 0; k < 16; k++) {
            due(x.event(k), REFUSED);
        }
    }

    static void promise18_zeroIsTheLast(PluginBoundary x) {
        started(x, 0, 1, 2);
        due(x.event(0), 12);
        due(x.event(2), 10);
    }

    static void promise18_behindTheFirstThereIsNone(PluginBoundary x) {
        started(x, 0, 1, 2);
        due(x.event(3), REFUSED);
        due(x.event(15), REFUSED);
    }

    static void promise18_theSixteenthLastIsKept(PluginBoundary x) {
        started(x, 0, 1, 2, 3, 4, 5, 6, 7);
        for (int plugin = 0; plugin < 8; plugin++) {
            x.stop(plugin);
        }
        due(x.event(0), 27);
        due(x.event(15), 10);
    }

    static void promise18_theSeventeenthLastIsNotKept(PluginBoundary x) {
        started(x, 0, 1, 2, 3, 4, 5, 6, 7);
        for (int plugin = 0; plugin < 8; plugin++) {
            x.stop(plugin);
        }
        x.start(5);
        due(x.event(0), 15);
        due(x.event(15), 11);
        due(x.event(16), REFUSED);
        due(x.count(3), 17);
    }

    static void promise18_ofManyTheLastSixteenAreKept(PluginBoundary x) {
        started(x, 0);
        x.extend(0, 0, BRACKET, 5, 0.0);
        x.extend(0, 0, BRACKET, 5, 0.0);
        x.extend(0, 0, BRACKET, 5, 0.0);
        called(x, 0, 100);
        due(x.count(3), 301);
        for (int k = 0; k < 16; k++) {
            due(x.event(k), 42 - k % 3);
        }
        due(x.event(16), REFUSED);
    }

    static void promise18_aKTooSmallOrTooLargeIsRefused(PluginBoundary x) {
        started(x, 0);
        x.extend(0, 0, BRACKET, 5, 0.0);
        called(x, 0, 40);
        for (int k : new int[] {-1, 16, 17, 32, -16, MIN, MAX}) {
            due(x.event(k), REFUSED);
        }
    }

    // Promise 19

    static void promise19_aWhatTooSmallOrTooLargeIsRefused(PluginBoundary x) {
        filled(x);
        for (int what : new int[] {-1, 5, 6, MIN, MAX}) {
            due(x.count(what), REFUSED);
        }
    }

    static void promise19_allCountsAreZeroAtFirst(PluginBoundary x) {
        for (int what = 0; what < 5; what++) {
            due(x.count(what), 0);
        }
    }

    static void promise19_allEightPluginsActive(PluginBoundary x) {
        installed(x, 0, 1, 2, 3, 4, 5, 6, 7);
        due(x.count(0), 0);
        for (int plugin = 0; plugin < 8; plugin++) {
            x.start(plugin);
            due(x.count(0), plugin + 1);
        }
        x.stop(0);
        due(x.count(0), 7);
    }

    static void promise19_extensionsThatAreGoneWereMade(PluginBoundary x) {
        installed(x, 0);
        x.extend(0, 0, ADD, 0, 0.0);
        x.extend(0, 0, ADD, 0, 0.0);
        x.uninstall(0);
        due(x.count(1), 2);
    }

    static void promise19_allSixteenMade(PluginBoundary x) {
        installed(x, 0);
        for (int number = 0; number < 20; number++) {
            due(x.count(1), number < 16 ? number : 16);
            x.extend(0, 0, ADD, 0, 0.0);
        }
    }

    static void promise19_faultsAndEventsBehindThoseKeptCountToo(PluginBoundary x) {
        faultsNoted(x, 16);
        called(x, 0, 2);
        due(x.count(2), 48);
        due(x.count(3), 17);
    }

    static void promise19_thoseForgivenAreNotShutOut(PluginBoundary x) {
        faultsNoted(x, 16);
        due(x.count(4), 0);
        called(x, 0, 1);
        due(x.count(4), 0);
        called(x, 0, 1);
        due(x.count(4), 16);
        x.forgive(15);
        due(x.count(4), 15);
    }

    static void promise19_thoseOfAPluginThatIsNotActiveAreStillShutOut(PluginBoundary x) {
        faultsNoted(x, 2);
        called(x, 0, 2);
        x.stop(0);
        due(x.count(4), 2);
    }

    static void promise19_thoseThatAreGoneAreNotShutOut(PluginBoundary x) {
        faultsNoted(x, 2);
        called(x, 0, 2);
        x.stop(0);
        x.uninstall(0);
        due(x.count(4), 0);
    }
}
