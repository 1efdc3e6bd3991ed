import java.util.ArrayList;
import java.util.Arrays;
import java.util.Comparator;
import java.util.HashSet;
import java.util.List;
import java.util.Set;
import java.util.TreeMap;

/**
 * Long runs of calls, each answer compared with that of a second writing of the document, which
 * keeps plain lists of all that was ever noted, throws real exceptions for the faults, and looks
 * at the extensions of a point when a call begins. The runs are the same every time.
 */
public final class ModelTest {
    private static final int RUNS = 30_000;
    private static final int CALLS = 512;
    /** How many of the calls of a run are kept to look at everything at its end. */
    private static final int LOOKS = 230;
    private static final double[] ORDINALS = {0.0, -0.0, 1.0, 2.0, -1.0, 0.5, 3.25, -8.0, 24.0, 1e16};

    private static long seed;
    private static int wrong = 0;

    public static void main(String[] args) {
        for (int run = 0; run < RUNS && wrong < 10; run++) {
            seed = run * 7919L + 17;
            new Run(run).play();
        }
        System.out.println(wrong == 0 ? RUNS + " runs agree" : wrong + " runs differ");
        if (wrong != 0) {
            System.exit(1);
        }
    }

    /** A written-out generator, so that a run can be played again on any machine. */
    private static int below(int bound) {
        seed = seed * 6364136223846793005L + 1442695040888963407L;
        return (int) ((seed >>> 33) % bound);
    }

    private static boolean oneIn(int many) {
        return below(many) == 0;
    }

    private static final class Run {
        final int number;
        final PluginBoundary program = new PluginBoundary();
        final Model model = new Model();
        final List<String> told = new ArrayList<>();
        final int plugins;
        final int points;
        final int[] kinds;
        boolean agrees = true;

        Run(int number) {
            this.number = number;
            plugins = 2 + below(7);
            points = 1 + below(3);
            kinds = number % 3 == 0 ? new int[] {5, 5, 5, 0, 7, 6, 8} : new int[] {0, 1, 2, 3, 4, 5, 6, 7, 8};
        }

        void play() {
            for (int call = 0; call < CALLS - LOOKS && agrees; call++) {
                step(call);
            }
            lookAtEverything();
        }

        void step(int call) {
            int kind = call < 25 ? below(8) : below(26);
            switch (kind) {
                case 0: case 8: install(plugin()); break;
                case 1: need(plugin(), plugin(), oneIn(2)); break;
                case 2: serve(plugin(), oneIn(20) ? below(5) - 1 : below(3), oneIn(2) ? below(12) - 1 : number()); break;
                case 3: case 4: extend(plugin(), point(), extensionKind(), p(), ordinal()); break;
                case 5: case 9: case 10: start(plugin()); break;
                case 6: case 11: case 12: case 13: case 14: case 15: call(point(), number()); break;
                case 7: install(plugin()); break;
                case 16: if (oneIn(3)) uninstall(plugin()); break;
                case 17: case 18: if (oneIn(2)) stop(plugin()); break;
                case 19: startAll(); break;
                case 20: case 21: forgive(extensionNumber()); break;
                case 22: extension(extensionNumber(), below(8) - 1); break;
                case 23: at(point(), below(18) - 1); weight(point()); break;
                case 24: fault(below(10) - 1, below(5) - 1); event(below(18) - 1); break;
                default: state(plugin()); ordinal(extensionNumber()); count(below(7) - 1); break;
            }
        }

        void lookAtEverything() {
            for (int plugin = 0; plugin < 8; plugin++) state(plugin);
            for (int extension = 0; extension < 16; extension++) {
                for (int what = 0; what < 6; what++) extension(extension, what);
                ordinal(extension);
            }
            for (int point = 0; point < 3; point++) {
                for (int k = 0; k < 17; k++) at(point, k);
                weight(point);
            }
            for (int k = 0; k < 8; k++) {
                for (int what = 0; what < 3; what++) fault(k, what);
            }
            for (int k = 0; k < 16; k++) event(k);
            for (int what = 0; what < 5; what++) count(what);
        }

        int plugin() {
            return oneIn(60) ? odd() : below(plugins);
        }

        int point() {
            return oneIn(60) ? odd() : below(points);
        }

        int extensionKind() {
            return oneIn(60) ? odd() : kinds[below(kinds.length)];
        }

        int extensionNumber() {
            return oneIn(60) ? odd() : below(17);
        }

        int odd() {
            int[] odd = {-1, 3, 8, 9, 16, 32, Integer.MIN_VALUE, Integer.MAX_VALUE, -8};
            return odd[below(odd.length)];
        }

        int p() {
            return oneIn(8) ? number() : below(12) - 4;
        }

        int number() {
            switch (below(12)) {
                case 0: return Integer.MIN_VALUE + below(3);
                case 1: return Integer.MAX_VALUE - below(3);
                case 2: return (below(1 << 16) << 16) + below(1 << 16);
                default: return below(24) - 6;
            }
        }

        double ordinal() {
            return oneIn(3) ? (below(400) - 200) / 8.0 : ORDINALS[below(ORDINALS.length)];
        }

        void same(String call, double got, double want) {
            told.add(call + " -> " + got);
            if (agrees && got != want) {
                agrees = false;
                wrong++;
                System.out.println("run " + number + ": the last of these should answer " + want);
                for (String line : told) System.out.println("  " + line);
            }
        }

        void install(int a) { same("install(" + a + ")", program.install(a), model.install(a)); }
        void uninstall(int a) { same("uninstall(" + a + ")", program.uninstall(a), model.uninstall(a)); }
        void need(int a, int b, boolean c) { same("need(" + a + ", " + b + ", " + c + ")", program.need(a, b, c), model.need(a, b, c)); }
        void serve(int a, int b, int c) { same("serve(" + a + ", " + b + ", " + c + ")", program.serve(a, b, c), model.serve(a, b, c)); }
        void extend(int a, int b, int c, int d, double e) {
            same("extend(" + a + ", " + b + ", " + c + ", " + d + ", " + e + ")", program.extend(a, b, c, d, e), model.extend(a, b, c, d, e));
        }
        void start(int a) { same("start(" + a + ")", program.start(a), model.start(a)); }
        void stop(int a) { same("stop(" + a + ")", program.stop(a), model.stop(a)); }
        void startAll() { same("startAll()", program.startAll(), model.startAll()); }
        void call(int a, int b) { same("call(" + a + ", " + b + ")", program.call(a, b), model.call(a, b)); }
        void forgive(int a) { same("forgive(" + a + ")", program.forgive(a), model.forgive(a)); }
        void state(int a) { same("state(" + a + ")", program.state(a), model.state(a)); }
        void extension(int a, int b) { same("extension(" + a + ", " + b + ")", program.extension(a, b), model.extension(a, b)); }
        void at(int a, int b) { same("at(" + a + ", " + b + ")", program.at(a, b), model.at(a, b)); }
        void weight(int a) { same("weight(" + a + ")", program.weight(a), model.weight(a)); }
        void ordinal(int a) { same("ordinal(" + a + ")", program.ordinal(a), model.ordinal(a)); }
        void fault(int a, int b) { same("fault(" + a + ", " + b + ")", program.fault(a, b), model.fault(a, b)); }
        void event(int a) { same("event(" + a + ")", program.event(a), model.event(a)); }
        void count(int a) { same("count(" + a + ")", program.count(a), model.count(a)); }
    }

    /** The document in its own words; -1 REFUSED, -2 FULL, -3 ABSENT, -4 CYCLE. */
    private static final class Model {
        final TreeMap<Integer, Plugin> there = new TreeMap<>();
        /** The active ones, the one that was started last at the end. */
        final List<Integer> active = new ArrayList<>();
        final List<Extension> extensions = new ArrayList<>();
        final List<int[]> faults = new ArrayList<>();
        final List<Integer> events = new ArrayList<>();

        int install(int plugin) {
            if (plugin < 0 || plugin > 7 || there.containsKey(plugin)) return -1;
            there.put(plugin, new Plugin());
            return 0;
        }

        int uninstall(int plugin) {
            if (!there.containsKey(plugin) || active.contains(plugin)) return -1;
            there.remove(plugin);
            for (Extension extension : extensions) {
                if (extension.plugin == plugin) extension.gone = true;
            }
            return 0;
        }

        int need(int plugin, int other, boolean optional) {
            Plugin needy = there.get(plugin);
            if (needy == null || other < 0 || other > 7 || other == plugin || needy.needs.containsKey(other)) return -1;
            needy.needs.put(other, optional);
            return needy.needs.size();
        }

        int serve(int plugin, int kind, int v) {
            Plugin server = there.get(plugin);
            if (server == null || kind < 0 || kind > 2 || kind == 2 && (v < 0 || v > 9)) return -1;
            server.service = kind == 0 ? null : kind == 1 ? (Object) v : "x".repeat(v);
            return 0;
        }

        int extend(int plugin, int point, int kind, int p, double ordinal) {
            if (!there.containsKey(plugin) || point < 0 || point > 2 || kind < 0 || kind > 8) return -1;
            if (extensions.size() == 16) return -2;
            Extension made = new Extension();
            made.number = extensions.size();
            made.plugin = plugin;
            made.point = point;
            made.kind = kind;
            made.p = p;
            made.ordinal = ordinal;
            extensions.add(made);
            return made.number;
        }

        int start(int plugin) {
            return plugin < 0 || plugin > 7 ? -1 : start(plugin, new HashSet<>());
        }

        int start(int plugin, Set<Integer> asking) {
            if (!there.containsKey(plugin)) return -3;
            if (active.contains(plugin)) return 0;
            if (asking.contains(plugin)) return -4;
            Set<Integer> now = new HashSet<>(asking);
            now.add(plugin);
            TreeMap<Integer, Boolean> needs = there.get(plugin).needs;
            for (int other : needs.keySet()) {
                boolean optional = needs.get(other);
                if (optional && (!there.containsKey(other) || active.contains(other))) continue;
                int code = start(other, now);
                if (!optional && code != 0) return code;
            }
            active.add(plugin);
            events.add(10 + plugin);
            return 0;
        }

        int stop(int plugin) {
            if (!active.contains(plugin)) return -1;
            int before = active.size();
            stop(plugin, new HashSet<>());
            return before - active.size();
        }

        void stop(int plugin, Set<Integer> stopping) {
            Set<Integer> now = new HashSet<>(stopping);
            now.add(plugin);
            int place = active.size() - 1;
            while (place >= 0) {
                int other = active.get(place);
                if (!now.contains(other) && Boolean.FALSE.equals(there.get(other).needs.get(plugin))) {
                    stop(other, now);
                    place = active.size();
                }
                place--;
            }
            active.remove(Integer.valueOf(plugin));
            events.add(20 + plugin);
        }

        int startAll() {
            for (int plugin = 0; plugin < 8; plugin++) start(plugin);
            return active.size();
        }

        boolean live(Extension extension) {
            return !extension.gone && extension.faults < 3 && active.contains(extension.plugin);
        }

        List<Extension> ofPoint(int point) {
            List<Extension> found = new ArrayList<>();
            for (Extension extension : extensions) {
                if (extension.point == point && live(extension)) found.add(extension);
            }
            // + 0.0 makes 0.0 of -0.0, which the comparison would put before it; the sort is stable.
            found.sort(Comparator.comparingDouble(extension -> extension.ordinal + 0.0));
            return found;
        }

        int call(int point, int x) {
            return point < 0 || point > 2 ? -1 : call(point, x, 0);
        }

        int call(int point, int x, int depth) {
            if (depth > 3) throw new Fault(7);
            for (Extension extension : ofPoint(point)) {
                if (!live(extension)) continue;
                extension.calls++;
                try {
                    x = made(extension, x, depth);
                } catch (Fault fault) {
                    noteFault(extension, fault.kind);
                }
            }
            return x;
        }

        void noteFault(Extension extension, int kind) {
            extension.faults++;
            int provider = extension.kind == 3 ? extension.p & 7 : extension.kind == 5 ? extension.plugin : -1;
            faults.add(new int[] {extension.number, kind, provider});
            if (extension.faults == 3) events.add(60 + extension.number);
        }

        int made(Extension extension, int x, int depth) {
            int p = extension.p;
            try {
                switch (extension.kind) {
                    case 0: return x + p;
                    case 1: return x / p;
                    case 2: return Arrays.asList(2, 3, 5, 7, 11, 13, 17, 19, 23, 29, 31, 37).get((x ^ p) & 15);
                    case 3: return x + (Integer) (active.contains(p & 7) ? there.get(p & 7).service : null);
                    case 4: throw new LinkageError();
                    case 5: return call(Math.floorMod(p, 4) % 3, x + 1, depth + 1);
                    case 6: if (x < p) return x; throw new Fault(6);
                    case 7: return x + extension.calls;
                    default:
                        events.add(40 + extension.number);
                        if (x == p) throw new Fault(6);
                        return x + x;
                }
            } catch (ArithmeticException e) {
                throw new Fault(1);
            } catch (IndexOutOfBoundsException e) {
                throw new Fault(2);
            } catch (ClassCastException e) {
                throw new Fault(3);
            } catch (NullPointerException e) {
                throw new Fault(4);
            } catch (LinkageError e) {
                throw new Fault(5);
            }
        }

        Extension known(int number) {
            if (number < 0 || number >= extensions.size() || extensions.get(number).gone) return null;
            return extensions.get(number);
        }

        int forgive(int number) {
            Extension extension = known(number);
            if (extension == null || extension.faults < 3) return -1;
            extension.faults = 0;
            return 0;
        }

        int state(int plugin) {
            if (plugin < 0 || plugin > 7) return -1;
            return !there.containsKey(plugin) ? 0 : active.contains(plugin) ? 2 : 1;
        }

        int extension(int number, int what) {
            Extension extension = known(number);
            if (extension == null || what < 0 || what > 5) return -1;
            int standing = live(extension) ? 1 : extension.faults == 3 ? 2 : 0;
            return new int[] {extension.plugin, extension.point, extension.kind, extension.faults, extension.calls, standing}[what];
        }

        int at(int point, int k) {
            List<Extension> found = ofPoint(point);
            return k < 0 || k >= found.size() ? -1 : found.get(k).number;
        }

        double weight(int point) {
            double sum = 0.0;
            for (Extension extension : ofPoint(point)) sum += extension.ordinal;
            return sum;
        }

        double ordinal(int number) {
            return known(number) == null ? 0.0 : known(number).ordinal;
        }

        int fault(int k, int what) {
            if (k < 0 || k > 7 || k >= faults.size() || what < 0 || what > 2) return -1;
            return faults.get(faults.size() - 1 - k)[what];
        }

        int event(int k) {
            return k < 0 || k > 15 || k >= events.size() ? -1 : events.get(events.size() - 1 - k);
        }

        int count(int what) {
            switch (what) {
                case 0: return active.size();
                case 1: return extensions.size();
                case 2: return faults.size();
                case 3: return events.size();
                case 4: return (int) extensions.stream().filter(e -> !e.gone && e.faults == 3).count();
                default: return -1;
            }
        }
    }

    private static final class Plugin {
        final TreeMap<Integer, Boolean> needs = new TreeMap<>();
        Object service;
    }

    private static final class Extension {
        int number;
        int plugin;
        int point;
        int kind;
        int p;
        double ordinal;
        int faults;
        int calls;
        boolean gone;
    }

    private static final class Fault extends RuntimeException {
        private static final long serialVersionUID = 1L;
        final int kind;

        Fault(int kind) {
            super(null, null, false, false);
            this.kind = kind;
        }
    }
}
