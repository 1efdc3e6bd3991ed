/**
 * A host of plugins while they run: it starts each behind what it needs, stops it before that, and
 * calls the extensions of a point in order within a boundary that notes every fault with who is to
 * blame. All rows are made in the constructor and used again, so that no call makes an object.
 */
public final class PluginBoundary {
    public static final int REFUSED = -1;
    public static final int FULL = -2;
    public static final int ABSENT = -3;
    public static final int CYCLE = -4;
    public static final int ARITHMETIC = 1;
    public static final int INDEX = 2;
    public static final int CAST = 3;
    public static final int EMPTY = 4;
    public static final int LINKAGE = 5;
    public static final int OWN = 6;
    public static final int DEEP = 7;

    private static final int PLUGINS = 8;
    private static final int EXTENSIONS = 16;
    private static final int POINTS = 3;
    private static final int DEEPEST = 3;
    private static final int FAULTS_THAT_SHUT_OUT = 3;
    private static final int FAULTS_KEPT = 8;
    private static final int EVENTS_KEPT = 16;

    private static final int NOT_THERE = 0;
    private static final int INSTALLED = 1;
    private static final int ACTIVE = 2;

    private static final int NO_SERVICE = 0;
    private static final int TEXT = 2;
    private static final int LONGEST_TEXT = 9;

    private static final int ADD = 0;
    private static final int DIVIDE = 1;
    private static final int LOOK = 2;
    private static final int ASK = 3;
    private static final int BROKEN = 4;
    private static final int NEST = 5;
    private static final int REFUSE = 6;
    private static final int COUNT = 7;
    private static final int BRACKET = 8;

    private static final int STARTED_EVENT = 10;
    private static final int STOPPED_EVENT = 20;
    private static final int BRACKET_EVENT = 40;
    private static final int SHUT_OUT_EVENT = 60;

    private static final int NOBODY = -1;

    private static final int[] PRIMES = {2, 3, 5, 7, 11, 13, 17, 19, 23, 29, 31, 37};

    private final Plugin[] plugins = new Plugin[PLUGINS];
    private final Extension[] extensions = new Extension[EXTENSIONS];
    /** The same rows as in extensions: those made by ordinal and number, behind them the others. */
    private final Extension[] order = new Extension[EXTENSIONS];
    private final History events = new History(EVENTS_KEPT);
    private final History faultExtensions = new History(FAULTS_KEPT);
    private final History faultKinds = new History(FAULTS_KEPT);
    private final History faultProviders = new History(FAULTS_KEPT);
    private int made;
    private int starts;

    public PluginBoundary() {
        for (int number = 0; number < PLUGINS; number++) {
            plugins[number] = new Plugin(number);
        }
        for (int number = 0; number < EXTENSIONS; number++) {
            extensions[number] = new Extension(number);
            order[number] = extensions[number];
        }
    }

    public int install(int plugin) {
        if (!isPlugin(plugin) || plugins[plugin].state != NOT_THERE) {
            return REFUSED;
        }
        plugins[plugin].state = INSTALLED;
        return 0;
    }

    public int uninstall(int plugin) {
        if (!isPlugin(plugin) || plugins[plugin].state != INSTALLED) {
            return REFUSED;
        }
        plugins[plugin].clear();
        for (Extension extension : order) {
            if (extension.plugin == plugin) {
                extension.present = false;
            }
        }
        return 0;
    }

    public int need(int plugin, int other, boolean optional) {
        if (!isThere(plugin) || !isPlugin(other) || plugin == other) {
            return REFUSED;
        }
        Plugin needy = plugins[plugin];
        if (needy.requires(other) || needy.wishes(other)) {
            return REFUSED;
        }
        if (optional) {
            needy.wished |= 1 << other;
        } else {
            needy.required |= 1 << other;
        }
        return Integer.bitCount(needy.required) + Integer.bitCount(needy.wished);
    }

    public int serve(int plugin, int kind, int v) {
        if (!isThere(plugin) || kind < NO_SERVICE || kind > TEXT) {
            return REFUSED;
        }
        if (kind == TEXT && (v < 0 || v > LONGEST_TEXT)) {
            return REFUSED;
        }
        plugins[plugin].service = kind;
        plugins[plugin].value = v;
        return 0;
    }

    public int extend(int plugin, int point, int kind, int p, double ordinal) {
        if (!isThere(plugin) || !isPoint(point) || kind < ADD || kind > BRACKET) {
            return REFUSED;
        }
        if (made >= EXTENSIONS) {
            return FULL;
        }
        Extension extension = extensions[made];
        extension.present = true;
        extension.plugin = plugin;
        extension.point = point;
        extension.kind = kind;
        extension.p = p;
        extension.ordinal = ordinal;
        putInOrder(extension);
        made++;
        return extension.number;
    }

    public int start(int plugin) {
        return isPlugin(plugin) ? startPlugin(plugins[plugin]) : REFUSED;
    }

    public int stop(int plugin) {
        if (!isPlugin(plugin) || plugins[plugin].state != ACTIVE) {
            return REFUSED;
        }
        return stopPlugin(plugins[plugin]);
    }

    public int startAll() {
        for (Plugin plugin : plugins) {
            startPlugin(plugin);
        }
        return activePlugins();
    }

    public int call(int point, int x) {
        return isPoint(point) ? callPoint(point, x, 0) : REFUSED;
    }

    public int forgive(int extension) {
        if (!isExtension(extension) || !extensions[extension].isShutOut()) {
            return REFUSED;
        }
        extensions[extension].faults = 0;
        return 0;
    }

    public int state(int plugin) {
        return isPlugin(plugin) ? plugins[plugin].state : REFUSED;
    }

    public int extension(int extension, int what) {
        if (!isExtension(extension)) {
            return REFUSED;
        }
        Extension told = extensions[extension];
        switch (what) {
            case 0: return told.plugin;
            case 1: return told.point;
            case 2: return told.kind;
            case 3: return told.faults;
            case 4: return told.calls;
            case 5: return standing(told);
            default: return REFUSED;
        }
    }

    public int at(int point, int k) {
        int before = 0;
        for (Extension extension : order) {
            if (isLiveAt(extension, point)) {
                if (before == k) {
                    return extension.number;
                }
                before++;
            }
        }
        return REFUSED;
    }

    public double weight(int point) {
        double sum = 0.0;
        for (Extension extension : order) {
            if (isLiveAt(extension, point)) {
                double ordinal = extension.ordinal;
                // No addition may answer NaN: one that was given is handed on as it came.
                if (ordinal != ordinal) {
                    return ordinal;
                }
                if (areOppositeInfinities(sum, ordinal)) {
                    return 0.0;
                }
                sum += ordinal;
            }
        }
        return sum;
    }

    public double ordinal(int extension) {
        return isExtension(extension) ? extensions[extension].ordinal : 0.0;
    }

    public int fault(int k, int what) {
        switch (what) {
            case 0: return faultExtensions.last(k);
            case 1: return faultKinds.last(k);
            case 2: return faultProviders.last(k);
            default: return REFUSED;
        }
    }

    public int event(int k) {
        return events.last(k);
    }

    public int count(int what) {
        switch (what) {
            case 0: return activePlugins();
            case 1: return made;
            case 2: return faultKinds.noted;
            case 3: return events.noted;
            case 4: return shutOutExtensions();
            default: return REFUSED;
        }
    }

    private static boolean isPlugin(int number) {
        return number >= 0 && number < PLUGINS;
    }

    private static boolean isPoint(int number) {
        return number >= 0 && number < POINTS;
    }

    private boolean isThere(int plugin) {
        return isPlugin(plugin) && plugins[plugin].state != NOT_THERE;
    }

    private boolean isExtension(int number) {
        return number >= 0 && number < EXTENSIONS && extensions[number].present;
    }

    private boolean isLive(Extension extension) {
        return extension.present && !extension.isShutOut() && plugins[extension.plugin].state == ACTIVE;
    }

    private boolean isLiveAt(Extension extension, int point) {
        return extension.point == point && isLive(extension);
    }

    private int standing(Extension extension) {
        if (extension.isShutOut()) {
            return 2;
        }
        return isLive(extension) ? 1 : 0;
    }

    private int activePlugins() {
        int active = 0;
        for (Plugin plugin : plugins) {
            if (plugin.state == ACTIVE) {
                active++;
            }
        }
        return active;
    }

    private int shutOutExtensions() {
        int shutOut = 0;
        for (Extension extension : extensions) {
            if (extension.isShutOut()) {
                shutOut++;
            }
        }
        return shutOut;
    }

    /** The newest has the highest number, so it goes behind all that have its ordinal. */
    private void putInOrder(Extension newest) {
        int place = newest.number;
        while (place > 0 && comesBefore(newest.ordinal, order[place - 1].ordinal)) {
            order[place] = order[place - 1];
            place--;
        }
        order[place] = newest;
    }

    /** NaN, which the document does not place, comes behind every number: else there is no order. */
    private static boolean comesBefore(double one, double other) {
        return one < other || (one == one && other != other);
    }

    /** Ordinals are added as they rise, so the negative infinity is always met first. */
    private static boolean areOppositeInfinities(double sum, double ordinal) {
        return sum < -1.7976931348623157e308 && ordinal > 1.7976931348623157e308;
    }

    /** At most PLUGINS of these stand open at once, as a plugin that is being started is not begun again. */
    private int startPlugin(Plugin plugin) {
        if (plugin.state == NOT_THERE) {
            return ABSENT;
        }
        if (plugin.state == ACTIVE) {
            return 0;
        }
        if (plugin.starting) {
            return CYCLE;
        }
        plugin.starting = true;
        int code = startNeeds(plugin);
        plugin.starting = false;
        if (code == 0) {
            activate(plugin);
        }
        return code;
    }

    private int startNeeds(Plugin plugin) {
        for (Plugin other : plugins) {
            if (plugin.requires(other.number)) {
                int code = startPlugin(other);
                if (code != 0) {
                    return code;
                }
            } else if (plugin.wishes(other.number) && other.state == INSTALLED) {
                startPlugin(other);
            }
        }
        return 0;
    }

    private void activate(Plugin plugin) {
        plugin.state = ACTIVE;
        plugin.startedAs = starts;
        starts++;
        events.note(STARTED_EVENT + plugin.number);
    }

    /** At most PLUGINS of these stand open at once, as a plugin that is being stopped is not begun again. */
    private int stopPlugin(Plugin plugin) {
        plugin.stopping = true;
        int stopped = stopThoseThatRequire(plugin);
        plugin.stopping = false;
        plugin.state = INSTALLED;
        events.note(STOPPED_EVENT + plugin.number);
        return stopped + 1;
    }

    private int stopThoseThatRequire(Plugin needed) {
        int stopped = 0;
        for (int round = 0; round < PLUGINS; round++) {
            Plugin next = lastStartedThatRequires(needed);
            if (next == null) {
                return stopped;
            }
            stopped += stopPlugin(next);
        }
        return stopped;
    }

    private Plugin lastStartedThatRequires(Plugin needed) {
        Plugin last = null;
        for (Plugin plugin : plugins) {
            if (plugin.state == ACTIVE && !plugin.stopping && plugin.requires(needed.number)
                    && (last == null || plugin.startedAs > last.startedAs)) {
                last = plugin;
            }
        }
        return last;
    }

    /**
     * A call can end an extension's life but begin none, so those live at their turn are all of
     * those that were live when the call began, and no list of them has to be kept.
     */
    private int callPoint(int point, int x, int depth) {
        int value = x;
        for (Extension extension : order) {
            if (isLiveAt(extension, point)) {
                extension.calls++;
                value = passThrough(extension, value, depth);
            }
        }
        return value;
    }

    private int passThrough(Extension extension, int x, int depth) {
        switch (extension.kind) {
            case ADD: return x + extension.p;
            case DIVIDE: return divide(extension, x);
            case LOOK: return look(extension, x);
            case ASK: return ask(extension, x);
            case BROKEN: return faulted(extension, LINKAGE, NOBODY, x);
            case NEST: return nest(extension, x, depth);
            case REFUSE: return x < extension.p ? x : faulted(extension, OWN, NOBODY, x);
            case COUNT: return x + extension.calls;
            case BRACKET: return bracket(extension, x);
            default: return x;
        }
    }

    private int divide(Extension extension, int x) {
        if (extension.p == 0) {
            return faulted(extension, ARITHMETIC, NOBODY, x);
        }
        return x / extension.p;
    }

    private int look(Extension extension, int x) {
        int place = (x ^ extension.p) & 15;
        if (place >= PRIMES.length) {
            return faulted(extension, INDEX, NOBODY, x);
        }
        return PRIMES[place];
    }

    private int ask(Extension extension, int x) {
        Plugin asked = plugins[extension.p & 7];
        if (asked.state != ACTIVE || asked.service == NO_SERVICE) {
            return faulted(extension, EMPTY, asked.number, x);
        }
        if (asked.service == TEXT) {
            return faulted(extension, CAST, asked.number, x);
        }
        return x + asked.value;
    }

    private int nest(Extension extension, int x, int depth) {
        if (depth >= DEEPEST) {
            return faulted(extension, DEEP, extension.plugin, x);
        }
        int point = extension.p & 3;
        return callPoint(point == 3 ? 0 : point, x + 1, depth + 1);
    }

    private int bracket(Extension extension, int x) {
        events.note(BRACKET_EVENT + extension.number);
        if (x == extension.p) {
            return faulted(extension, OWN, NOBODY, x);
        }
        return 2 * x;
    }

    /** Answers x, as it stays what it was for an extension in which a fault comes. */
    private int faulted(Extension extension, int kind, int provider, int x) {
        extension.faults++;
        faultExtensions.note(extension.number);
        faultKinds.note(kind);
        faultProviders.note(provider);
        if (extension.isShutOut()) {
            events.note(SHUT_OUT_EVENT + extension.number);
        }
        return x;
    }

    private static final class Plugin {
        final int number;
        int state;
        /** Bit n of required and wished stands for plugin n: needed, not optionally and optionally. */
        int required;
        int wished;
        int service;
        int value;
        int startedAs;
        boolean starting;
        boolean stopping;

        Plugin(int number) {
            this.number = number;
        }

        boolean requires(int other) {
            return (required >> other & 1) == 1;
        }

        boolean wishes(int other) {
            return (wished >> other & 1) == 1;
        }

        void clear() {
            state = NOT_THERE;
            required = 0;
            wished = 0;
            service = NO_SERVICE;
        }
    }

    private static final class Extension {
        final int number;
        /** False before it is made and when it is gone. */
        boolean present;
        int plugin;
        int point;
        int kind;
        int p;
        double ordinal;
        int faults;
        int calls;

        Extension(int number) {
            this.number = number;
        }

        boolean isShutOut() {
            return present && faults >= FAULTS_THAT_SHUT_OUT;
        }
    }

    /** The last of the numbers noted, and how many were noted in all. */
    private static final class History {
        /** 16 places whatever is kept: so the mask 15 keeps each place within the row. */
        final int[] row = new int[16];
        final int kept;
        int noted;

        History(int kept) {
            this.kept = kept;
        }

        void note(int number) {
            row[noted & 15] = number;
            noted++;
        }

        int last(int k) {
            if (k < 0 || k >= kept || k >= noted) {
                return REFUSED;
            }
            return row[(noted - 1 - k) & 15];
        }
    }
}
