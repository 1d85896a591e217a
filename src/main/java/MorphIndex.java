import java.util.Arrays;

/**
 * Cuts running text without spaces into words by a dictionary, a table of links and the least cost,
 * and keeps an index of such texts that is asked for words and phrases.
 *
 * <p>All working rows are made once, with the object; of the calls only add() makes something new.
 */
public final class MorphIndex {
    public static final int NONE = -1;

    private static final int TEXT_LIMIT = 8;
    private static final int DRAFT_LIMIT = 24;
    private static final int ENTRY_LIMIT = 40;
    private static final int SAME_SURFACE_LIMIT = 3;
    private static final int COST_LIMIT = 10000;
    private static final int FILTER_LIMIT = 6;
    private static final int DOCUMENT_LIMIT = 40;
    private static final int WAITING_LIMIT = 4;
    private static final int SEGMENT_LIMIT = 4;

    private static final int CLASS_COUNT = 4;
    private static final int HAN_CLASS = 1;
    private static final int STEM_CLASS = 2;
    private static final int STEM_END = 191;
    private static final int NARROW_FROM = 192;
    private static final int NARROW_STEP = 64;

    /** Parts 1 .. 7 and, as part 0, the edge before the first node and behind the last one. */
    private static final int PART_COUNT = 8;
    private static final int EDGE = 0;

    private static final int RULE_INVOKE = 1;
    private static final int RULE_GROUP = 2;
    private static final int RULE_LENGTH_STEP = 4;
    private static final int RULE_FLAGS_LIMIT = 19;

    /** At one place: three entries of each length, unknown nodes of the lengths 1 .. 4 and of the run. */
    private static final int NODE_LIMIT = DRAFT_LIMIT * (TEXT_LIMIT * SAME_SURFACE_LIMIT + 5);

    private static final int FILTER_CLEAR = -1;
    private static final int FILTER_STOP = 0;
    private static final int FILTER_BASE = 1;
    private static final int FILTER_NARROW = 2;
    private static final int FILTER_STEM = 3;

    private static final int UNKNOWN_TOKEN = 100;

    private final Draft draft;
    private final Lexicon lexicon;
    private final Grammar grammar;
    private final Filters filters;
    private final Lattice lattice;
    private final Route bestRoute;
    private final Route plainRoute;
    private final TokenRow tokenRow;
    private final Shelf shelf;
    private final long[] queryTerms;

    /** Whether lattice, routes and tokens are those of the draft, entries, rules, links and mode of now. */
    private boolean analysed;

    public MorphIndex() {
        draft = new Draft();
        lexicon = new Lexicon();
        grammar = new Grammar();
        filters = new Filters();
        lattice = new Lattice(draft, lexicon, grammar);
        bestRoute = new Route(lattice, grammar, true);
        plainRoute = new Route(lattice, grammar, false);
        tokenRow = new TokenRow(lattice, lexicon);
        shelf = new Shelf();
        queryTerms = new long[DRAFT_LIMIT];
        analysed = false;
    }

    public boolean type(long s) {
        if (s == 0) {
            draft.clear();
        } else if (!draft.append(s)) {
            return false;
        }
        analysed = false;
        return true;
    }

    public int word(int part, int cost, int cuts, int base) {
        int size = draft.size();
        if (size < 1 || size > TEXT_LIMIT || !isWordPart(part) || !isCost(cost)) {
            return NONE;
        }
        if (!areCuts(cuts, size)) {
            return NONE;
        }
        analysed = false;
        return lexicon.put(draft.text(0, size), part, cost, cuts, base);
    }

    public boolean rule(int k, int flags, int part, int cost) {
        if (k < 0 || k >= CLASS_COUNT || flags < 0 || flags > RULE_FLAGS_LIMIT) {
            return false;
        }
        if (!isWordPart(part) || !isCost(cost)) {
            return false;
        }
        grammar.setRule(k, flags, part, cost);
        analysed = false;
        return true;
    }

    public boolean link(int a, int b, int cost) {
        if (!isPart(a) || !isPart(b) || !isCost(cost)) {
            return false;
        }
        grammar.setLink(a, b, cost);
        analysed = false;
        return true;
    }

    public boolean mode(int han, int other) {
        if (han < 0 || han > COST_LIMIT || other < 0 || other > COST_LIMIT) {
            return false;
        }
        grammar.setMode(han, other);
        analysed = false;
        return true;
    }

    public boolean chain(int kind, int v) {
        if (kind == FILTER_CLEAR) {
            filters.clear();
            return true;
        }
        return filters.append(kind, v);
    }

    public int cost() {
        analyse();
        return bestRoute.leastCost();
    }

    public long paths() {
        analyse();
        return bestRoute.leastCount();
    }

    public int nodes() {
        analyse();
        return lattice.count();
    }

    public int tokens() {
        analyse();
        return tokenRow.count();
    }

    public int token(int i, int what) {
        analyse();
        if (!tokenRow.has(i)) {
            return NONE;
        }
        switch (what) {
            case 0:
                return tokenRow.begin(i);
            case 1:
                return tokenRow.length(i);
            case 2:
                return tokenRow.part(i);
            case 3:
                return originOf(i);
            case 4:
                return compoundLength(i);
            default:
                return NONE;
        }
    }

    public long term(int i) {
        analyse();
        return tokenRow.has(i) ? tokenTerm(i) : 0;
    }

    public int add() {
        if (draft.size() == 0 || !shelf.hasRoom()) {
            return NONE;
        }
        analyse();
        Document document = new Document(tokenRow.count());
        for (int i = 0; i < tokenRow.count(); i++) {
            document.post(i, tokenTerm(i), compoundTerm(i));
        }
        return shelf.put(document);
    }

    public boolean drop(int doc) {
        return shelf.discard(doc);
    }

    public int flush() {
        return shelf.storeWaiting();
    }

    public int segment(int i) {
        return i == -1 ? shelf.segmentCount() : shelf.segmentSize(i);
    }

    public int open() {
        return shelf.takeSnapshot();
    }

    public int match(int from) {
        analyse();
        int count = readQuery();
        for (int doc = Math.max(from, 0); doc < DOCUMENT_LIMIT; doc++) {
            if (occurrencesIn(doc, count) > 0) {
                return doc;
            }
        }
        return NONE;
    }

    public int places(int doc) {
        analyse();
        int count = readQuery();
        return occurrencesIn(doc, count);
    }

    private static boolean isPart(int part) {
        return part >= 0 && part < PART_COUNT;
    }

    private static boolean isWordPart(int part) {
        return part != EDGE && isPart(part);
    }

    private static boolean isCost(int cost) {
        return cost >= -COST_LIMIT && cost <= COST_LIMIT;
    }

    private static boolean areCuts(int cuts, int size) {
        int inside = (1 << size) - 2;
        return (cuts & ~inside) == 0;
    }

    /** Reading calls often come in rows on the same draft, so the work is kept until something changes. */
    private void analyse() {
        if (analysed) {
            return;
        }
        lattice.rebuild();
        bestRoute.find();
        plainRoute.find();
        tokenRow.rebuild(bestRoute, plainRoute);
        analysed = true;
    }

    private int originOf(int i) {
        int entry = tokenRow.entry(i);
        return entry != NONE ? entry : UNKNOWN_TOKEN + draft.classAt(tokenRow.begin(i));
    }

    private int compoundLength(int i) {
        int node = tokenRow.compound(i);
        return node == NONE ? 0 : lattice.length(node);
    }

    private long tokenTerm(int i) {
        long text = draft.text(tokenRow.begin(i), tokenRow.length(i));
        return filters.pass(text, tokenRow.part(i), lexicon.baseSurface(tokenRow.entry(i)));
    }

    private long compoundTerm(int i) {
        int node = tokenRow.compound(i);
        if (node == NONE) {
            return 0;
        }
        long text = draft.text(lattice.begin(node), lattice.length(node));
        return filters.pass(text, lattice.part(node), lexicon.baseSurface(lattice.entry(node)));
    }

    /** Answers how many positions the query has; a dropped token leaves a 0 at its position. */
    private int readQuery() {
        for (int i = 0; i < tokenRow.count(); i++) {
            queryTerms[i] = tokenTerm(i);
        }
        return tokenRow.count();
    }

    private int occurrencesIn(int doc, int count) {
        Document document = shelf.inSnapshot(doc);
        return document == null ? 0 : document.occurrences(queryTerms, count);
    }

    /** Texts of at most 8 characters, written as a long with the first character in the lowest byte. */
    private static final class Texts {
        private Texts() {
        }

        static int character(long text, int i) {
            return (int) (text >>> (8 * i)) & 255;
        }

        static int size(long text) {
            int size = 0;
            while (size < TEXT_LIMIT && character(text, size) != 0) {
                size++;
            }
            return size;
        }

        static int classOf(int character) {
            return character / 64;
        }

        static long first(long text, int size) {
            return size >= TEXT_LIMIT ? text : text & ((1L << (8 * size)) - 1);
        }

        static boolean isAllOf(int k, long text, int size) {
            for (int i = 0; i < size; i++) {
                if (classOf(character(text, i)) != k) {
                    return false;
                }
            }
            return true;
        }

        static long narrowed(long text) {
            long answer = text;
            for (int i = 0; i < TEXT_LIMIT; i++) {
                if (character(text, i) >= NARROW_FROM) {
                    answer -= (long) NARROW_STEP << (8 * i);
                }
            }
            return answer;
        }

        static long stemmed(long text, int v) {
            int size = size(text);
            if (size <= v || character(text, size - 1) != STEM_END) {
                return text;
            }
            return isAllOf(STEM_CLASS, text, size) ? first(text, size - 1) : text;
        }
    }

    private static final class Draft {
        private final int[] characters;
        private int size;

        Draft() {
            characters = new int[DRAFT_LIMIT];
            size = 0;
        }

        int size() {
            return size;
        }

        void clear() {
            size = 0;
        }

        boolean append(long text) {
            int more = Texts.size(text);
            if (more == 0 || size + more > DRAFT_LIMIT) {
                return false;
            }
            for (int i = 0; i < more; i++) {
                characters[size + i] = Texts.character(text, i);
            }
            size += more;
            return true;
        }

        /** The characters from a place on, as many of the length as there are. */
        long text(int begin, int length) {
            int most = Math.min(Math.min(length, TEXT_LIMIT), size - begin);
            long text = 0;
            for (int i = 0; i < most; i++) {
                text |= (long) characters[begin + i] << (8 * i);
            }
            return text;
        }

        int classAt(int place) {
            return Texts.classOf(characters[place]);
        }

        int runAt(int place) {
            int most = Math.min(TEXT_LIMIT, size - place);
            int run = 1;
            while (run < most && classAt(place + run) == classAt(place)) {
                run++;
            }
            return run;
        }
    }

    /** The entries of the dictionary. An entry number NONE stands for an unknown word: no cuts, no base. */
    private static final class Lexicon {
        private final long[] surfaces;
        private final int[] sizes;
        private final int[] parts;
        private final int[] costs;
        private final int[] cutSets;
        private final int[] bases;
        private int count;

        Lexicon() {
            surfaces = new long[ENTRY_LIMIT];
            sizes = new int[ENTRY_LIMIT];
            parts = new int[ENTRY_LIMIT];
            costs = new int[ENTRY_LIMIT];
            cutSets = new int[ENTRY_LIMIT];
            bases = new int[ENTRY_LIMIT];
            count = 0;
        }

        int count() {
            return count;
        }

        /** Answers the number of the new entry, or NONE when it is refused. */
        int put(long surface, int part, int cost, int cuts, int base) {
            if (count >= ENTRY_LIMIT || base < NONE || base >= count) {
                return NONE;
            }
            if ((cuts != 0 && base != NONE) || sameSurfaces(surface) >= SAME_SURFACE_LIMIT) {
                return NONE;
            }
            int entry = count;
            surfaces[entry] = surface;
            sizes[entry] = Texts.size(surface);
            parts[entry] = part;
            costs[entry] = cost;
            cutSets[entry] = cuts;
            bases[entry] = base;
            count++;
            return entry;
        }

        /** Whether the surface of the entry begins the text: zero bytes behind a short text match no surface. */
        boolean begins(int entry, long text) {
            return Texts.first(text, sizes[entry]) == surfaces[entry];
        }

        int size(int entry) {
            return sizes[entry];
        }

        int part(int entry) {
            return parts[entry];
        }

        int price(int entry) {
            return costs[entry];
        }

        int cuts(int entry) {
            return entry == NONE ? 0 : cutSets[entry];
        }

        /** The surface of the entry's base, or 0 when it has none. */
        long baseSurface(int entry) {
            if (entry == NONE || bases[entry] == NONE) {
                return 0;
            }
            return surfaces[bases[entry]];
        }

        private int sameSurfaces(long surface) {
            int same = 0;
            for (int entry = 0; entry < count; entry++) {
                if (surfaces[entry] == surface) {
                    same++;
                }
            }
            return same;
        }
    }

    /** What is set by rule(), link() and mode(). */
    private static final class Grammar {
        private final int[] ruleFlags;
        private final int[] ruleParts;
        private final int[] ruleCosts;
        private final int[] links;
        private int han;
        private int other;

        Grammar() {
            ruleFlags = new int[CLASS_COUNT];
            ruleParts = new int[CLASS_COUNT];
            ruleCosts = new int[CLASS_COUNT];
            Arrays.fill(ruleParts, 1);
            links = new int[PART_COUNT * PART_COUNT];
            han = 0;
            other = 0;
        }

        void setRule(int k, int flags, int part, int cost) {
            ruleFlags[k] = flags;
            ruleParts[k] = part;
            ruleCosts[k] = cost;
        }

        void setLink(int a, int b, int cost) {
            links[a * PART_COUNT + b] = cost;
        }

        void setMode(int newHan, int newOther) {
            han = newHan;
            other = newOther;
        }

        boolean invokes(int k) {
            return (ruleFlags[k] & RULE_INVOKE) != 0;
        }

        boolean groups(int k) {
            return (ruleFlags[k] & RULE_GROUP) != 0;
        }

        int lengths(int k) {
            return ruleFlags[k] / RULE_LENGTH_STEP;
        }

        int unknownPart(int k) {
            return ruleParts[k];
        }

        int unknownPrice(int k) {
            return ruleCosts[k];
        }

        int linkPrice(int a, int b) {
            return links[a * PART_COUNT + b];
        }

        /** The charge of a node whose entry has no cuts. */
        int charge(int length, boolean allHan) {
            if (length > 2 && allHan) {
                return han * (length - 2);
            }
            return length > 4 ? other * (length - 4) : 0;
        }
    }

    /**
     * The nodes of the draft, by the place where they begin, and at one place the known ones in the
     * order of their entries before the unknown ones: Route relies on this order.
     */
    private static final class Lattice {
        private final Draft draft;
        private final Lexicon lexicon;
        private final Grammar grammar;
        private final int[] begins;
        private final int[] lengths;
        private final int[] parts;
        private final int[] costs;
        private final int[] charges;
        private final int[] entries;
        private int count;

        Lattice(Draft draft, Lexicon lexicon, Grammar grammar) {
            this.draft = draft;
            this.lexicon = lexicon;
            this.grammar = grammar;
            begins = new int[NODE_LIMIT];
            lengths = new int[NODE_LIMIT];
            parts = new int[NODE_LIMIT];
            costs = new int[NODE_LIMIT];
            charges = new int[NODE_LIMIT];
            entries = new int[NODE_LIMIT];
            count = 0;
        }

        void rebuild() {
            count = 0;
            for (int place = 0; place < draft.size(); place++) {
                int before = count;
                putKnown(place);
                putUnknown(place, count > before);
                if (count == before) {
                    putUnknownOf(place, 1);
                }
            }
            for (int node = 0; node < count; node++) {
                charges[node] = charge(node);
            }
        }

        int count() {
            return count;
        }

        int draftSize() {
            return draft.size();
        }

        int begin(int node) {
            return begins[node];
        }

        int length(int node) {
            return lengths[node];
        }

        int end(int node) {
            return begins[node] + lengths[node];
        }

        int part(int node) {
            return parts[node];
        }

        int entry(int node) {
            return entries[node];
        }

        int price(int node, boolean charged) {
            return charged ? costs[node] + charges[node] : costs[node];
        }

        private void putKnown(int place) {
            long text = draft.text(place, TEXT_LIMIT);
            for (int entry = 0; entry < lexicon.count(); entry++) {
                if (lexicon.begins(entry, text)) {
                    put(place, lexicon.size(entry), lexicon.part(entry), lexicon.price(entry), entry);
                }
            }
        }

        private void putUnknown(int place, boolean known) {
            int k = draft.classAt(place);
            if (known && !grammar.invokes(k)) {
                return;
            }
            int run = draft.runAt(place);
            int longest = Math.min(grammar.lengths(k), run);
            for (int length = 1; length <= longest; length++) {
                putUnknownOf(place, length);
            }
            if (grammar.groups(k) && run > longest) {
                putUnknownOf(place, run);
            }
        }

        private void putUnknownOf(int place, int length) {
            int k = draft.classAt(place);
            put(place, length, grammar.unknownPart(k), grammar.unknownPrice(k), NONE);
        }

        private void put(int begin, int length, int part, int cost, int entry) {
            if (count >= NODE_LIMIT) {
                return;
            }
            begins[count] = begin;
            lengths[count] = length;
            parts[count] = part;
            costs[count] = cost;
            entries[count] = entry;
            count++;
        }

        private int charge(int node) {
            if (lexicon.cuts(entries[node]) != 0) {
                return 0;
            }
            int length = lengths[node];
            long text = draft.text(begins[node], length);
            return grammar.charge(length, Texts.isAllOf(HAN_CLASS, text, length));
        }
    }

    /** The path of least cost through the lattice, with charges (the best path) or without (the plain one). */
    private static final class Route {
        /** Far above the cost of any path. */
        private static final int UNREACHED = 1000000000;

        private final Lattice lattice;
        private final Grammar grammar;
        private final boolean charged;

        /** For each node the least cost from the beginning up to and with this node. */
        private final int[] costUpTo;

        /** For each place and part: the least cost, and in how many ways, of ending there with this part. */
        private final int[] arrivalCosts;
        private final long[] arrivalWays;

        private final int[] backward;
        private int length;
        private int leastCost;
        private long leastCount;

        Route(Lattice lattice, Grammar grammar, boolean charged) {
            this.lattice = lattice;
            this.grammar = grammar;
            this.charged = charged;
            costUpTo = new int[NODE_LIMIT];
            arrivalCosts = new int[(DRAFT_LIMIT + 1) * PART_COUNT];
            arrivalWays = new long[(DRAFT_LIMIT + 1) * PART_COUNT];
            backward = new int[DRAFT_LIMIT];
            length = 0;
            leastCost = 0;
            leastCount = 0;
        }

        void find() {
            Arrays.fill(arrivalWays, 0L);
            arrive(0, EDGE, 0, 1);
            for (int node = 0; node < lattice.count(); node++) {
                reach(node);
            }
            int end = lattice.draftSize();
            leastCost = costInto(end, EDGE);
            leastCount = waysInto(end, EDGE, leastCost);
            trace(end);
        }

        int leastCost() {
            return leastCost;
        }

        long leastCount() {
            return leastCount;
        }

        int length() {
            return length;
        }

        int node(int i) {
            return backward[length - 1 - i];
        }

        private void reach(int node) {
            int begin = lattice.begin(node);
            int part = lattice.part(node);
            int before = costInto(begin, part);
            if (before == UNREACHED) {
                costUpTo[node] = UNREACHED;
                return;
            }
            costUpTo[node] = before + lattice.price(node, charged);
            arrive(lattice.end(node), part, costUpTo[node], waysInto(begin, part, before));
        }

        private void arrive(int place, int part, int cost, long ways) {
            int slot = place * PART_COUNT + part;
            if (arrivalWays[slot] == 0 || cost < arrivalCosts[slot]) {
                arrivalCosts[slot] = cost;
                arrivalWays[slot] = ways;
            } else if (cost == arrivalCosts[slot]) {
                arrivalWays[slot] += ways;
            }
        }

        /** The least cost up to a place, with the link to a node of this part that begins there. */
        private int costInto(int place, int part) {
            int least = UNREACHED;
            for (int a = 0; a < PART_COUNT; a++) {
                int slot = place * PART_COUNT + a;
                if (arrivalWays[slot] != 0) {
                    least = Math.min(least, arrivalCosts[slot] + grammar.linkPrice(a, part));
                }
            }
            return least;
        }

        private long waysInto(int place, int part, int cost) {
            long ways = 0;
            for (int a = 0; a < PART_COUNT; a++) {
                int slot = place * PART_COUNT + a;
                if (arrivalWays[slot] != 0 && arrivalCosts[slot] + grammar.linkPrice(a, part) == cost) {
                    ways += arrivalWays[slot];
                }
            }
            return ways;
        }

        private void trace(int end) {
            length = 0;
            int place = end;
            int next = EDGE;
            for (int step = 0; step < DRAFT_LIMIT && place > 0; step++) {
                int node = lastInto(place, next);
                if (node == NONE) {
                    return;
                }
                backward[length] = node;
                length++;
                place = lattice.begin(node);
                next = lattice.part(node);
            }
        }

        /** Of nodes with the same end the lattice has the preferred one first, so the first that fits is it. */
        private int lastInto(int place, int next) {
            int least = costInto(place, next);
            for (int node = 0; node < lattice.count(); node++) {
                if (lattice.end(node) == place && costUpTo[node] != UNREACHED
                        && costUpTo[node] + grammar.linkPrice(lattice.part(node), next) == least) {
                    return node;
                }
            }
            return NONE;
        }
    }

    private static final class TokenRow {
        private final Lattice lattice;
        private final Lexicon lexicon;
        private final int[] begins;
        private final int[] lengths;
        private final int[] parts;
        private final int[] entries;
        private final int[] compounds;
        private int count;

        TokenRow(Lattice lattice, Lexicon lexicon) {
            this.lattice = lattice;
            this.lexicon = lexicon;
            begins = new int[DRAFT_LIMIT];
            lengths = new int[DRAFT_LIMIT];
            parts = new int[DRAFT_LIMIT];
            entries = new int[DRAFT_LIMIT];
            compounds = new int[DRAFT_LIMIT];
            count = 0;
        }

        void rebuild(Route best, Route plain) {
            count = 0;
            for (int i = 0; i < best.length(); i++) {
                putPieces(best.node(i));
            }
            for (int i = 0; i < plain.length(); i++) {
                attachCompound(plain.node(i));
            }
        }

        int count() {
            return count;
        }

        boolean has(int i) {
            return i >= 0 && i < count;
        }

        int begin(int i) {
            return begins[i];
        }

        int length(int i) {
            return lengths[i];
        }

        int part(int i) {
            return parts[i];
        }

        int entry(int i) {
            return entries[i];
        }

        /** The node of the compound that goes with the token, or NONE. */
        int compound(int i) {
            return compounds[i];
        }

        private void putPieces(int node) {
            int cuts = lexicon.cuts(lattice.entry(node));
            int length = lattice.length(node);
            int start = 0;
            for (int i = 1; i <= length; i++) {
                if (i == length || ((cuts >> i) & 1) != 0) {
                    put(node, start, i - start);
                    start = i;
                }
            }
        }

        private void put(int node, int start, int length) {
            if (count >= DRAFT_LIMIT) {
                return;
            }
            begins[count] = lattice.begin(node) + start;
            lengths[count] = length;
            parts[count] = lattice.part(node);
            entries[count] = lattice.entry(node);
            compounds[count] = NONE;
            count++;
        }

        private void attachCompound(int node) {
            if (lexicon.cuts(lattice.entry(node)) != 0) {
                return;
            }
            int first = beginningAt(lattice.begin(node));
            int last = endingAt(lattice.end(node));
            if (first != NONE && last > first) {
                compounds[first] = node;
            }
        }

        private int beginningAt(int place) {
            for (int i = 0; i < count; i++) {
                if (begins[i] == place) {
                    return i;
                }
            }
            return NONE;
        }

        private int endingAt(int place) {
            for (int i = 0; i < count; i++) {
                if (begins[i] + lengths[i] == place) {
                    return i;
                }
            }
            return NONE;
        }
    }

    private static final class Filters {
        private final int[] kinds;
        private final int[] values;
        private int count;

        Filters() {
            kinds = new int[FILTER_LIMIT];
            values = new int[FILTER_LIMIT];
            count = 0;
        }

        void clear() {
            count = 0;
        }

        boolean append(int kind, int v) {
            if (count >= FILTER_LIMIT || !isFilter(kind, v)) {
                return false;
            }
            kinds[count] = kind;
            values[count] = v;
            count++;
            return true;
        }

        /** The term of a text of this part and base (0: none), or 0 when it is dropped. */
        long pass(long text, int part, long base) {
            long answer = text;
            for (int i = 0; i < count; i++) {
                switch (kinds[i]) {
                    case FILTER_STOP:
                        if (part == values[i]) {
                            return 0;
                        }
                        break;
                    case FILTER_BASE:
                        answer = base != 0 ? base : answer;
                        break;
                    case FILTER_NARROW:
                        answer = Texts.narrowed(answer);
                        break;
                    default:
                        answer = Texts.stemmed(answer, values[i]);
                        break;
                }
            }
            return answer;
        }

        private static boolean isFilter(int kind, int v) {
            switch (kind) {
                case FILTER_STOP:
                case FILTER_STEM:
                    return v >= 1 && v <= 7;
                case FILTER_BASE:
                case FILTER_NARROW:
                    return v == 0;
                default:
                    return false;
            }
        }
    }

    /** The postings of a text: at each position the term of the token and that of the compound, 0 for none. */
    private static final class Document {
        private final long[] tokenTerms;
        private final long[] compoundTerms;
        private int postings;

        Document(int positions) {
            tokenTerms = new long[positions];
            compoundTerms = new long[positions];
            postings = 0;
        }

        void post(int position, long tokenTerm, long compoundTerm) {
            if (position < 0 || position >= tokenTerms.length) {
                return;
            }
            tokenTerms[position] = tokenTerm;
            if (tokenTerm != 0) {
                postings++;
            }
            // Equal pairs are one posting.
            if (compoundTerm != 0 && compoundTerm != tokenTerm) {
                compoundTerms[position] = compoundTerm;
                postings++;
            }
        }

        int postings() {
            return postings;
        }

        /** At how many positions the first count terms occur; a term 0 asks for nothing. */
        int occurrences(long[] terms, int count) {
            int first = 0;
            while (first < count && terms[first] == 0) {
                first++;
            }
            if (first >= count) {
                return 0;
            }
            int found = 0;
            for (int position = 0; position < tokenTerms.length; position++) {
                if (occursAt(position - first, terms, count)) {
                    found++;
                }
            }
            return found;
        }

        private boolean occursAt(int shift, long[] terms, int count) {
            for (int i = 0; i < count; i++) {
                if (terms[i] != 0 && !has(terms[i], i + shift)) {
                    return false;
                }
            }
            return true;
        }

        private boolean has(long term, int position) {
            if (position < 0 || position >= tokenTerms.length) {
                return false;
            }
            return tokenTerms[position] == term || compoundTerms[position] == term;
        }
    }

    /** The documents. As there are at most 40, a set of them is a long: bit i stands for document i. */
    private static final class Shelf {
        private final Document[] documents;
        private int count;
        private long waiting;
        private long dropped;
        private long snapshot;
        private final long[] segments;
        private int segmentCount;

        Shelf() {
            documents = new Document[DOCUMENT_LIMIT];
            segments = new long[SEGMENT_LIMIT];
            count = 0;
            waiting = 0;
            dropped = 0;
            snapshot = 0;
            segmentCount = 0;
        }

        boolean hasRoom() {
            return count < DOCUMENT_LIMIT && Long.bitCount(waiting) < WAITING_LIMIT;
        }

        int put(Document document) {
            if (!hasRoom()) {
                return NONE;
            }
            int number = count;
            documents[number] = document;
            waiting |= 1L << number;
            count++;
            return number;
        }

        boolean discard(int doc) {
            if (doc < 0 || doc >= count || holds(dropped, doc)) {
                return false;
            }
            dropped |= 1L << doc;
            waiting &= ~dropped;
            return true;
        }

        int storeWaiting() {
            if (waiting == 0 || segmentCount >= SEGMENT_LIMIT) {
                return NONE;
            }
            int stored = postingsOf(waiting);
            segments[segmentCount] = waiting;
            segmentCount++;
            waiting = 0;
            return segmentCount < SEGMENT_LIMIT ? stored : stored + mergeAt(smallestPair());
        }

        int segmentCount() {
            return segmentCount;
        }

        int segmentSize(int i) {
            return i < 0 || i >= segmentCount ? NONE : Long.bitCount(segments[i]);
        }

        int takeSnapshot() {
            long stored = 0;
            for (int i = 0; i < segmentCount; i++) {
                stored |= segments[i];
            }
            snapshot = stored & ~dropped;
            return Long.bitCount(snapshot);
        }

        /** The document, or null when it is not one of the snapshot. */
        Document inSnapshot(int doc) {
            if (doc < 0 || doc >= count || !holds(snapshot, doc)) {
                return null;
            }
            return documents[doc];
        }

        private static boolean holds(long set, int doc) {
            return ((set >>> doc) & 1) != 0;
        }

        private int postingsOf(long set) {
            int sum = 0;
            for (int doc = 0; doc < count; doc++) {
                Document document = documents[doc];
                if (holds(set, doc) && document != null) {
                    sum += document.postings();
                }
            }
            return sum;
        }

        private int smallestPair() {
            int smallest = 0;
            for (int i = 1; i + 1 < segmentCount; i++) {
                if (pairSize(i) < pairSize(smallest)) {
                    smallest = i;
                }
            }
            return smallest;
        }

        private int pairSize(int i) {
            return segmentSize(i) + segmentSize(i + 1);
        }

        /** Answers how many postings what came in place of the two segments has. */
        private int mergeAt(int i) {
            long merged = (segments[i] | segments[i + 1]) & ~dropped;
            int kept = i;
            if (merged != 0) {
                segments[kept] = merged;
                kept++;
            }
            for (int from = i + 2; from < segmentCount; from++) {
                segments[kept] = segments[from];
                kept++;
            }
            segmentCount = kept;
            return postingsOf(merged);
        }
    }
}
