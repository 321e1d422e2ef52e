/**
 * Black glass from nine mountains: of which flows blades can be, when they were struck and laid,
 * and by which ways they may have come. The words in capitals are those of the document.
 */
public final class BlackGlass {
    public static final int NONE = -1, UNKNOWN = -2, OUTSIDE = -3, NOT = -4, FULL = -5;

    private static final int PLACES = 10;
    private static final int FLOWS = 9;
    private static final int STUFFS = 3;
    private static final int BLADES = 12;
    private static final int NOW = 9999;
    private static final int MOST = 999;
    private static final int MOST_ERROR = 99;
    private static final int MOST_SPREAD = 99;
    private static final int MOST_LAYER = 99;
    private static final int MOST_BYTES = 200;
    private static final int BYTES_A_CALL = 8;

    private static final int MOST_LINES = 8;
    private static final int LINE_WIDTH = 8;
    private static final int MOST_DIGITS = 4;
    private static final int BLANK = 32;
    private static final int BETWEEN_LINES = 59;
    private static final int LINE_KINDS = 6;
    private static final int PLACE_LINE = 0;
    private static final int FLOW_LINE = 1;
    private static final int LAND_LINE = 2;
    private static final int BOAT_LINE = 3;
    private static final int NEAR_LINE = 4;

    private static final int STRUCK_FIRST = 0;
    private static final int STRUCK_LAST = 1;
    private static final int AGAIN_FIRST = 2;
    private static final int AGAIN_LAST = 3;
    private static final int LAID_FIRST = 4;
    private static final int LAID_LAST = 5;
    private static final int BOUNDS = 6;

    private static final int ALL_PLACES = (1 << PLACES) - 1;
    private static final int ROW_LENGTH = -1;
    private static final int ROW_LOST = -2;

    private static final int GIFTS = 0;
    private static final int CARRIERS = 1;
    private static final int LAWS = 3;
    private static final int MOST_P = 99;
    private static final int WHOLE_SHARE = 1000;
    private static final int MARKET_INSIDE = 900;
    private static final int MARKET_BEYOND = 100;
    // 1000 halved ten times is 0 already; a shift by 32 or more would begin anew.
    private static final int MOST_HALVINGS = 10;

    private final Text text;
    private final Ground ground;
    private final Finds finds;
    private final Glass glass;
    private final Years years;
    private final Rows rows;
    private final Roads roads;
    private final Shares shares;
    private final Floors floors;

    public BlackGlass() {
        text = new Text();
        ground = new Ground();
        finds = new Finds();
        glass = new Glass(ground, finds);
        years = new Years(ground, finds, glass);
        rows = new Rows(finds, years);
        roads = new Roads(ground, finds, years);
        shares = new Shares(ground, roads);
        floors = new Floors(finds);
    }

    // ---- the land

    public int write(long bytes, int n) {
        if (!isWithin(n, 1, BYTES_A_CALL)) {
            return OUTSIDE;
        }
        return text.hasRoomFor(n) ? text.append(bytes, n) : FULL;
    }

    public int erase() {
        return text.empty();
    }

    public int fault() {
        return text.read();
    }

    public int land() {
        if (text.read() != NONE) {
            return NOT;
        }
        int done = text.lineCount;
        for (int line = 0; line < done; line++) {
            ground.tell(text.lines, line * LINE_WIDTH);
        }
        text.empty();
        return done;
    }

    public int place(int place, int what) {
        if (!isPlace(place)) {
            return UNKNOWN;
        }
        switch (what) {
            case 0: return ground.liveFrom[place];
            case 1: return ground.liveTo[place];
            case 2: return ground.warmth[place];
            default: return OUTSIDE;
        }
    }

    public int flow(int flow, int what) {
        if (!ground.isTold(flow)) {
            return UNKNOWN;
        }
        switch (what) {
            case 0: return ground.flowPlace[flow];
            case 1: return ground.open[flow];
            case 2:
            case 3:
            case 4: return ground.stuffs[flow * STUFFS + what - 2];
            case 5: return ground.spread[flow];
            default: return OUTSIDE;
        }
    }

    public int way(int a, int b, int what) {
        if (!isPlace(a) || !isPlace(b) || a == b) {
            return UNKNOWN;
        }
        switch (what) {
            case 0: return ground.landMiles[a * PLACES + b];
            case 1: return ground.boatMiles[a * PLACES + b];
            default: return OUTSIDE;
        }
    }

    // ---- blades

    public int blade(int place, int numbers, int error, int size, int layer) {
        if (!isPlace(place)) {
            return UNKNOWN;
        }
        if (!areMeasured(numbers, error) || !isWithin(size, 1, MOST) || !isWithin(layer, 0, MOST_LAYER)) {
            return OUTSIDE;
        }
        if (finds.many >= BLADES) {
            return FULL;
        }
        int blade = finds.add(place, size, layer);
        finds.setMeasured(blade, numbers, error);
        return blade;
    }

    public int rim(int blade, int rim, int second) {
        if (!finds.has(blade)) {
            return UNKNOWN;
        }
        boolean secondFits = second == 0 || isWithin(second, 1, rim - 1);
        if (!isWithin(rim, 0, MOST) || !secondFits) {
            return OUTSIDE;
        }
        finds.rim[blade] = rim;
        finds.secondRim[blade] = second;
        return 1;
    }

    public int measure(int blade, int numbers, int error) {
        if (!finds.has(blade)) {
            return UNKNOWN;
        }
        if (!areMeasured(numbers, error)) {
            return OUTSIDE;
        }
        int before = finds.error[blade];
        finds.setMeasured(blade, numbers, error);
        return before;
    }

    public int of(int blade, int what) {
        if (!finds.has(blade)) {
            return UNKNOWN;
        }
        switch (what) {
            case 0: return finds.place[blade];
            case 1:
            case 2:
            case 3: return finds.numbers[blade * STUFFS + what - 1];
            case 4: return finds.error[blade];
            case 5: return finds.size[blade];
            case 6: return finds.layer[blade];
            case 7: return finds.rim[blade];
            case 8: return finds.secondRim[blade];
            case 9: return finds.struckFrom[blade];
            default: return OUTSIDE;
        }
    }

    public int off(int blade, int flow) {
        if (!finds.has(blade) || !ground.isTold(flow)) {
            return UNKNOWN;
        }
        return glass.offBetween(blade, flow);
    }

    public int can(int blade) {
        return finds.has(blade) ? glass.canBeOf(blade) : UNKNOWN;
    }

    public int named(int blade) {
        return finds.has(blade) ? glass.nameOf(blade) : UNKNOWN;
    }

    public int strike(int blade, int from) {
        if (!finds.has(blade) || !finds.has(from) || blade == from) {
            return UNKNOWN;
        }
        if (finds.struckFrom[blade] != NONE || finds.comesFrom(from, blade)) {
            return NOT;
        }
        finds.struckFrom[blade] = from;
        return 1;
    }

    public int undo(int blade) {
        if (!finds.has(blade)) {
            return UNKNOWN;
        }
        int before = finds.struckFrom[blade];
        finds.struckFrom[blade] = NONE;
        return before;
    }

    // ---- years

    public int span(int blade, int what) {
        if (!finds.has(blade)) {
            return UNKNOWN;
        }
        if (!isWithin(what, STRUCK_FIRST, LAID_LAST)) {
            return OUTSIDE;
        }
        boolean asksAgain = what == AGAIN_FIRST || what == AGAIN_LAST;
        if (asksAgain && !finds.isReused(blade)) {
            return NONE;
        }
        return years.settle() ? years.bound(what, blade) : NONE;
    }

    public int heirloom(int blade) {
        if (!finds.has(blade)) {
            return UNKNOWN;
        }
        return years.settle() ? years.heirloomOf(blade) : NONE;
    }

    public int from(int blade) {
        return finds.has(blade) ? rows.mayBeFrom(blade) : UNKNOWN;
    }

    public int chain(int what) {
        return what < ROW_LOST ? OUTSIDE : rows.longestRow(what);
    }

    // ---- ways

    public int legs(int blade, int flow, int year, boolean boats, int what) {
        if (!finds.has(blade) || !ground.isTold(flow)) {
            return UNKNOWN;
        }
        if (!isWithin(year, 0, NOW) || !isWithin(what, 0, 1)) {
            return OUTSIDE;
        }
        int start = ground.flowPlace[flow];
        int goal = finds.place[blade];
        int live = ground.liveIn(year);
        if (what == 0) {
            return roads.fewestLegs(start, goal, live, boats);
        }
        roads.measureMiles(start, live, boats);
        return roads.miles[goal];
    }

    public int reach(int blade, int flow, boolean boats, int what) {
        if (!finds.has(blade) || !ground.isTold(flow)) {
            return UNKNOWN;
        }
        if (!isWithin(what, 0, 1)) {
            return OUTSIDE;
        }
        if (!years.settle()) {
            return NONE;
        }
        return what == 0 ? roads.firstYear(blade, flow, boats) : roads.legsInAnyYear(blade, flow, boats);
    }

    public int boats() {
        return roads.comeByBoat();
    }

    public int sea() {
        int byBoat = roads.comeByBoat();
        int least = NONE;
        for (int blade = 0; blade < finds.many; blade++) {
            if (hasBit(byBoat, blade)) {
                least = lesser(least, years.bound(LAID_LAST, blade));
            }
        }
        return least;
    }

    public int next() {
        return glass.nextToMeasure();
    }

    // ---- counts, warmth

    public int counts(int place, int flow, int many, int all) {
        if (!isPlace(place) || !ground.isTold(flow)) {
            return UNKNOWN;
        }
        if (!isWithin(all, 1, MOST) || !isWithin(many, 0, all)) {
            return OUTSIDE;
        }
        shares.setCounts(place, flow, many, all);
        return 1;
    }

    public int miss(int flow, int law, int p) {
        if (!ground.isTold(flow)) {
            return UNKNOWN;
        }
        if (!isWithin(law, 0, LAWS - 1) || !isWithin(p, 1, MOST_P)) {
            return OUTSIDE;
        }
        shares.gather(flow);
        return shares.missOf(law, p);
    }

    public int law(int flow, int what) {
        if (!ground.isTold(flow)) {
            return UNKNOWN;
        }
        if (!isWithin(what, 0, 1)) {
            return OUTSIDE;
        }
        shares.gather(flow);
        return shares.best(what);
    }

    public int dated(int blade, int year) {
        if (!finds.has(blade)) {
            return UNKNOWN;
        }
        if (!isWithin(year, NONE, NOW)) {
            return OUTSIDE;
        }
        finds.datedYear[blade] = year;
        return 1;
    }

    public int learnt(int place, int what) {
        if (!isPlace(place)) {
            return UNKNOWN;
        }
        if (!isWithin(what, 0, 1)) {
            return OUTSIDE;
        }
        return floors.warmthLearnt(place, what);
    }

    public int count(int what) {
        switch (what) {
            case 0: return ground.toldFlows();
            case 1: return text.length;
            case 2: return finds.many;
            case 3: return ground.near;
            case 4: return ground.far;
            case 5: return finds.strikes();
            default: return OUTSIDE;
        }
    }

    private static boolean isPlace(int place) {
        return isWithin(place, 0, PLACES - 1);
    }

    private static boolean areMeasured(int numbers, int error) {
        boolean fit = isWithin(error, 1, MOST_ERROR);
        for (int i = 0; i < STUFFS; i++) {
            fit = fit && numberAt(numbers, i) <= MOST;
        }
        return fit;
    }

    private static int numberAt(int numbers, int i) {
        return numbers >> 10 * i & 1023;
    }

    private static boolean isWithin(int number, int least, int greatest) {
        return number >= least && number <= greatest;
    }

    private static boolean hasBit(int bits, int i) {
        return (bits >> i & 1) != 0;
    }

    private static int cut(int number, int by) {
        return by > 0 ? number / by : 0;
    }

    /** The lesser of a number found before (NONE: none was) and one found now. */
    private static int lesser(int before, int now) {
        return before == NONE ? now : Math.min(before, now);
    }

    /** THE TEXT, and the LINES that were read from it last. */
    private static final class Text {
        final int[] bytes;
        int length;
        // Each line takes LINE_WIDTH: its kind, then its numbers.
        final int[] lines;
        int lineCount;
        // The TOKEN looked at: from start up to end, both the length behind the last one.
        int start;
        int end;

        Text() {
            bytes = new int[MOST_BYTES];
            lines = new int[MOST_LINES * LINE_WIDTH];
        }

        boolean hasRoomFor(int n) {
            return n <= MOST_BYTES - length;
        }

        int append(long more, int n) {
            for (int i = 0; i < n && length < MOST_BYTES; i++) {
                bytes[length] = (int) (more >> 8 * i) & 255;
                length++;
            }
            return length;
        }

        int empty() {
            int before = length;
            length = 0;
            return before;
        }

        /** Reads the LINES: where the FAULT is; NONE. */
        int read() {
            end = 0;
            lineCount = 0;
            for (int line = 0; line < MOST_LINES; line++) {
                if (!readLine(line * LINE_WIDTH)) {
                    return start;
                }
                lineCount++;
                takeToken();
                if (start >= length) {
                    return NONE;
                }
                if (bytes[start] != BETWEEN_LINES) {
                    return start;
                }
            }
            return start;
        }

        private boolean readLine(int at) {
            takeToken();
            int kind = kindOfToken();
            if (kind == NONE) {
                return false;
            }
            lines[at] = kind;
            String form = formOf(kind);
            int before = 0;
            for (int i = 0; i < form.length(); i++) {
                takeToken();
                int number = numberOfToken();
                if (number == NONE || !canStand(form.charAt(i), number, before)) {
                    return false;
                }
                lines[at + 1 + i] = number;
                before = number;
            }
            return true;
        }

        private void takeToken() {
            start = end;
            while (start < length && bytes[start] == BLANK) {
                start++;
            }
            end = Math.min(start + 1, length);
            while (end < length && areOfOneToken(bytes[start], bytes[end])) {
                end++;
            }
        }

        private static boolean areOfOneToken(int sign, int next) {
            return isLetter(sign) && isLetter(next) || isDigit(sign) && isDigit(next);
        }

        private static boolean isLetter(int sign) {
            return isWithin(sign, 'a', 'z');
        }

        private static boolean isDigit(int sign) {
            return isWithin(sign, '0', '9');
        }

        private int numberOfToken() {
            if (start >= length || !isDigit(bytes[start]) || end - start > MOST_DIGITS) {
                return NONE;
            }
            int number = 0;
            for (int at = start; at < end; at++) {
                number = 10 * number + bytes[at] - '0';
            }
            return number;
        }

        private int kindOfToken() {
            for (int kind = 0; kind < LINE_KINDS; kind++) {
                if (tokenIs(wordOf(kind))) {
                    return kind;
                }
            }
            return NONE;
        }

        private boolean tokenIs(String word) {
            boolean same = end - start == word.length();
            for (int i = 0; same && i < word.length(); i++) {
                same = bytes[start + i] == word.charAt(i);
            }
            return same;
        }

        private static String wordOf(int kind) {
            switch (kind) {
                case PLACE_LINE: return "place";
                case FLOW_LINE: return "flow";
                case LAND_LINE: return "land";
                case BOAT_LINE: return "boat";
                case NEAR_LINE: return "near";
                default: return "far";
            }
        }

        /** The letters that the document gives to the numbers of a line. */
        private static String formOf(int kind) {
            switch (kind) {
                case PLACE_LINE: return "PYZW";
                case FLOW_LINE: return "FPYABCS";
                case LAND_LINE:
                case BOAT_LINE: return "PQM";
                default: return "N";
            }
        }

        private static boolean canStand(int letter, int number, int before) {
            switch (letter) {
                case 'P': return isPlace(number);
                case 'Q': return isPlace(number) && number != before;
                case 'Y': return number <= NOW;
                case 'Z': return isWithin(number, before, NOW);
                case 'W': return isWithin(number, 1, MOST);
                case 'F': return number < FLOWS;
                case 'S': return number <= MOST_SPREAD;
                default: return number <= MOST;
            }
        }
    }

    /** What the texts have told: PLACES, FLOWS, WAYS and bounds. */
    private static final class Ground {
        final int[] liveFrom;
        final int[] liveTo;
        final int[] warmth;
        final boolean[] told;
        final int[] flowPlace;
        final int[] open;
        final int[] stuffs;
        final int[] spread;
        final int[] landMiles;
        final int[] boatMiles;
        // For each PLACE the bits of those to which a WAY goes, so that LEGS are counted fast.
        final int[] landTo;
        final int[] boatTo;
        int near;
        int far;

        Ground() {
            liveFrom = new int[PLACES];
            liveTo = new int[PLACES];
            warmth = new int[PLACES];
            for (int place = 0; place < PLACES; place++) {
                liveTo[place] = NOW;
                warmth[place] = 100;
            }
            told = new boolean[FLOWS];
            flowPlace = new int[FLOWS];
            open = new int[FLOWS];
            stuffs = new int[FLOWS * STUFFS];
            spread = new int[FLOWS];
            landMiles = new int[PLACES * PLACES];
            boatMiles = new int[PLACES * PLACES];
            landTo = new int[PLACES];
            boatTo = new int[PLACES];
            near = 20;
            far = 30;
        }

        boolean isTold(int flow) {
            return isWithin(flow, 0, FLOWS - 1) && told[flow];
        }

        int toldFlows() {
            int many = 0;
            for (int flow = 0; flow < FLOWS; flow++) {
                many += told[flow] ? 1 : 0;
            }
            return many;
        }

        int liveIn(int year) {
            int live = 0;
            for (int place = 0; place < PLACES; place++) {
                if (isWithin(year, liveFrom[place], liveTo[place])) {
                    live |= 1 << place;
                }
            }
            return live;
        }

        /** Does the line that stands in a row of read lines from a place on. */
        void tell(int[] lines, int at) {
            int first = lines[at + 1];
            switch (lines[at]) {
                case PLACE_LINE:
                    liveFrom[first] = lines[at + 2];
                    liveTo[first] = lines[at + 3];
                    warmth[first] = lines[at + 4];
                    break;
                case FLOW_LINE:
                    tellFlow(first, lines, at + 2);
                    break;
                case LAND_LINE:
                    tellWay(landMiles, landTo, first, lines[at + 2], lines[at + 3]);
                    break;
                case BOAT_LINE:
                    tellWay(boatMiles, boatTo, first, lines[at + 2], lines[at + 3]);
                    break;
                case NEAR_LINE:
                    near = first;
                    break;
                default:
                    far = first;
            }
        }

        private void tellFlow(int flow, int[] lines, int at) {
            told[flow] = true;
            flowPlace[flow] = lines[at];
            open[flow] = lines[at + 1];
            for (int i = 0; i < STUFFS; i++) {
                stuffs[flow * STUFFS + i] = lines[at + 2 + i];
            }
            spread[flow] = lines[at + 2 + STUFFS];
        }

        private static void tellWay(int[] miles, int[] to, int a, int b, int many) {
            miles[a * PLACES + b] = many;
            miles[b * PLACES + a] = many;
            int bit = many > 0 ? 1 : 0;
            to[a] = to[a] & ~(1 << b) | bit << b;
            to[b] = to[b] & ~(1 << a) | bit << a;
        }

        /** Miles of the shorter WAY from a PLACE to another one; 0: none. */
        int milesOf(int a, int b, boolean boats) {
            int byLand = landMiles[a * PLACES + b];
            int byBoat = boats ? boatMiles[a * PLACES + b] : 0;
            if (byLand == 0 || byBoat == 0) {
                return byLand + byBoat;
            }
            return Math.min(byLand, byBoat);
        }

        int waysFrom(int place, boolean boats) {
            return boats ? landTo[place] | boatTo[place] : landTo[place];
        }
    }

    /** The BLADES, as they were found and told of. */
    private static final class Finds {
        int many;
        final int[] place;
        final int[] numbers;
        final int[] error;
        final int[] size;
        final int[] layer;
        final int[] rim;
        final int[] secondRim;
        final int[] struckFrom;
        final int[] datedYear;

        Finds() {
            place = new int[BLADES];
            numbers = new int[BLADES * STUFFS];
            error = new int[BLADES];
            size = new int[BLADES];
            layer = new int[BLADES];
            rim = new int[BLADES];
            secondRim = new int[BLADES];
            struckFrom = new int[BLADES];
            datedYear = new int[BLADES];
        }

        boolean has(int blade) {
            return isWithin(blade, 0, many - 1);
        }

        /** Adds a BLADE; there must be room for it. */
        int add(int foundAt, int itsSize, int itsLayer) {
            int blade = many;
            place[blade] = foundAt;
            size[blade] = itsSize;
            layer[blade] = itsLayer;
            struckFrom[blade] = NONE;
            datedYear[blade] = NONE;
            many++;
            return blade;
        }

        void setMeasured(int blade, int allNumbers, int itsError) {
            for (int i = 0; i < STUFFS; i++) {
                numbers[blade * STUFFS + i] = numberAt(allNumbers, i);
            }
            error[blade] = itsError;
        }

        boolean isReused(int blade) {
            return secondRim[blade] > 0;
        }

        /** Whether one BLADE was struck from another one, by others, too. */
        boolean comesFrom(int blade, int other) {
            int up = struckFrom[blade];
            for (int steps = 0; up != NONE && up != other && steps < BLADES; steps++) {
                up = struckFrom[up];
            }
            return up == other;
        }

        int strikes() {
            int told = 0;
            for (int blade = 0; blade < many; blade++) {
                told += struckFrom[blade] != NONE ? 1 : 0;
            }
            return told;
        }
    }

    /** Of which FLOWS the BLADES can be. */
    private static final class Glass {
        private final Ground ground;
        private final Finds finds;

        Glass(Ground itsGround, Finds itsFinds) {
            ground = itsGround;
            finds = itsFinds;
        }

        int offBetween(int blade, int flow) {
            int apart = 0;
            for (int i = 0; i < STUFFS; i++) {
                int number = finds.numbers[blade * STUFFS + i];
                int stuff = ground.stuffs[flow * STUFFS + i];
                apart = Math.max(apart, Math.abs(number - stuff));
            }
            return cut(10 * apart, finds.error[blade] + ground.spread[flow]);
        }

        int canBeOf(int blade) {
            int flows = 0;
            for (int flow = 0; flow < FLOWS; flow++) {
                if (ground.told[flow] && offBetween(blade, flow) <= ground.near) {
                    flows |= 1 << flow;
                }
            }
            return flows;
        }

        int nameOf(int blade) {
            int flows = canBeOf(blade);
            if (Integer.bitCount(flows) != 1) {
                return NONE;
            }
            int name = NONE;
            for (int flow = 0; flow < FLOWS; flow++) {
                if (hasBit(flows, flow)) {
                    name = flow;
                } else if (ground.told[flow] && offBetween(blade, flow) < ground.far) {
                    return NONE;
                }
            }
            return name;
        }

        /** The earliest OPEN of some FLOWS; without any (UNKNOWN GLASS) any YEAR will do. */
        int firstOpen(int flows) {
            int first = NONE;
            for (int flow = 0; flow < FLOWS; flow++) {
                if (hasBit(flows, flow)) {
                    first = lesser(first, ground.open[flow]);
                }
            }
            return first == NONE ? 0 : first;
        }

        int nextToMeasure() {
            int best = NONE;
            int bestFlows = 2;
            int bestError = 0;
            for (int blade = 0; blade < finds.many; blade++) {
                int flows = Integer.bitCount(canBeOf(blade));
                int error = finds.error[blade];
                if (flows > bestFlows || flows == bestFlows && error > bestError) {
                    best = blade;
                    bestFlows = flows;
                    bestError = error;
                }
            }
            return best;
        }
    }

    /**
     * SPANS. All that is told of the YEARS bounds one of them by a number, or by another one from
     * below. So the least YEARS that keep to all bounds from below are a way together, if there is
     * one at all, and so are the greatest ones.
     */
    private static final class Years {
        private final Ground ground;
        private final Finds finds;
        private final Glass glass;
        // One bound of all BLADES behind the other, in the order of what the call span asks for.
        private final int[] own;
        private final int[] bounds;
        // The FLOWS that each BLADE CAN BE of, as they were when its bounds by numbers were found.
        final int[] flows;

        Years(Ground itsGround, Finds itsFinds, Glass itsGlass) {
            ground = itsGround;
            finds = itsFinds;
            glass = itsGlass;
            own = new int[BOUNDS * BLADES];
            bounds = new int[BOUNDS * BLADES];
            flows = new int[BLADES];
        }

        int bound(int what, int blade) {
            return bounds[what * BLADES + blade];
        }

        /** Finds the SPANS by all that is told now: whether there is a way. */
        boolean settle() {
            boundByNumbers();
            return settleWithout(NONE);
        }

        /** The bounds by numbers, which no STRIKE changes. */
        void boundByNumbers() {
            for (int blade = 0; blade < finds.many; blade++) {
                int place = finds.place[blade];
                int warmth = ground.warmth[place];
                int rim = finds.rim[blade];
                int second = finds.secondRim[blade];
                flows[blade] = glass.canBeOf(blade);
                setOwn(STRUCK_FIRST, blade, Math.max(glass.firstOpen(flows[blade]), rimFirst(rim, warmth)));
                setOwn(STRUCK_LAST, blade, rimLast(rim, warmth));
                setOwn(AGAIN_FIRST, blade, rimFirst(second, warmth));
                setOwn(AGAIN_LAST, blade, rimLast(second, warmth));
                setOwn(LAID_FIRST, blade, ground.liveFrom[place]);
                setOwn(LAID_LAST, blade, ground.liveTo[place]);
            }
        }

        /** Finds the SPANS from the bounds by numbers as if one BLADE had no STRIKE (NONE: all have theirs). */
        boolean settleWithout(int freed) {
            System.arraycopy(own, 0, bounds, 0, own.length);
            raiseStruck(freed);
            raiseLaid();
            lowerStruck(freed);
            return hasWay();
        }

        int heirloomOf(int blade) {
            boolean reused = finds.isReused(blade);
            int first = bound(reused ? AGAIN_FIRST : STRUCK_FIRST, blade);
            int last = bound(reused ? AGAIN_LAST : STRUCK_LAST, blade);
            if (last < bound(LAID_FIRST, blade)) {
                return 2;
            }
            return first < bound(LAID_LAST, blade) ? 1 : 0;
        }

        private void setOwn(int what, int blade, int year) {
            own[what * BLADES + blade] = year;
        }

        private void raise(int what, int blade, int year) {
            int at = what * BLADES + blade;
            bounds[at] = Math.max(bounds[at], year);
        }

        private void lower(int what, int blade, int year) {
            int at = what * BLADES + blade;
            bounds[at] = Math.min(bounds[at], year);
        }

        private static int rimFirst(int rim, int warmth) {
            return rim == 0 ? 0 : Math.max(0, NOW - cut((rim + 1) * (rim + 1), warmth));
        }

        private static int rimLast(int rim, int warmth) {
            return rim == 0 ? NOW : Math.max(0, NOW - cut((rim - 1) * (rim - 1), warmth));
        }

        private int above(int blade, int freed) {
            return blade == freed ? NONE : finds.struckFrom[blade];
        }

        private void raiseStruck(int freed) {
            for (int blade = 0; blade < finds.many; blade++) {
                int up = above(blade, freed);
                for (int steps = 0; up != NONE && steps < BLADES; steps++) {
                    raise(STRUCK_FIRST, blade, bound(STRUCK_FIRST, up));
                    up = above(up, freed);
                }
            }
        }

        /** Raises AGAIN and LAID; one that isn't REUSED has an AGAIN that bounds nothing. */
        private void raiseLaid() {
            for (int blade = 0; blade < finds.many; blade++) {
                raise(AGAIN_FIRST, blade, bound(STRUCK_FIRST, blade));
                raise(LAID_FIRST, blade, bound(AGAIN_FIRST, blade));
            }
            for (int blade = 0; blade < finds.many; blade++) {
                for (int deeper = 0; deeper < finds.many; deeper++) {
                    boolean samePlace = finds.place[deeper] == finds.place[blade];
                    if (samePlace && finds.layer[deeper] > finds.layer[blade]) {
                        raise(LAID_FIRST, blade, bound(LAID_FIRST, deeper));
                    }
                }
            }
        }

        /** LAID is lowered by no LAYER: all of a PLACE have the same last YEAR. */
        private void lowerStruck(int freed) {
            for (int blade = 0; blade < finds.many; blade++) {
                lower(AGAIN_LAST, blade, bound(LAID_LAST, blade));
                lower(STRUCK_LAST, blade, bound(AGAIN_LAST, blade));
            }
            for (int blade = 0; blade < finds.many; blade++) {
                int up = above(blade, freed);
                for (int steps = 0; up != NONE && steps < BLADES; steps++) {
                    lower(STRUCK_LAST, up, bound(STRUCK_LAST, blade));
                    up = above(up, freed);
                }
            }
        }

        private boolean hasWay() {
            boolean way = true;
            for (int blade = 0; way && blade < finds.many; blade++) {
                way = bound(STRUCK_FIRST, blade) <= bound(STRUCK_LAST, blade)
                        && bound(AGAIN_FIRST, blade) <= bound(AGAIN_LAST, blade)
                        && bound(LAID_FIRST, blade) <= bound(LAID_LAST, blade);
            }
            return way;
        }
    }

    /** Who may be struck from whom, and the longest row of such. */
    private static final class Rows {
        private final Finds finds;
        private final Years years;
        private final int[] mayFrom;
        // The most BLADES in a row that begins with this one.
        private final int[] longest;
        private final int[] row;
        private int rowLength;

        Rows(Finds itsFinds, Years itsYears) {
            finds = itsFinds;
            years = itsYears;
            mayFrom = new int[BLADES];
            longest = new int[BLADES];
            row = new int[BLADES];
        }

        int mayBeFrom(int blade) {
            years.boundByNumbers();
            return findMayFrom(blade);
        }

        int longestRow(int what) {
            years.boundByNumbers();
            for (int blade = 0; blade < finds.many; blade++) {
                mayFrom[blade] = findMayFrom(blade);
            }
            measureRows();
            layRow();
            if (what == ROW_LENGTH) {
                return rowLength;
            }
            if (what == ROW_LOST) {
                return rowLength == 0 ? 0 : finds.size[row[0]] - finds.size[row[rowLength - 1]];
            }
            return isWithin(what, 0, rowLength - 1) ? row[what] : NONE;
        }

        private int findMayFrom(int blade) {
            if (!years.settleWithout(blade)) {
                return 0;
            }
            int may = 0;
            for (int other = 0; other < finds.many; other++) {
                if (isLikely(blade, other) && leavesWay(blade, other)) {
                    may |= 1 << other;
                }
            }
            return may;
        }

        private boolean isLikely(int blade, int other) {
            return (years.flows[blade] & years.flows[other]) != 0
                    && finds.size[other] > finds.size[blade]
                    && !finds.comesFrom(other, blade);
        }

        /** The SPANS without the STRIKE are exact: one more of them breaks just where they don't meet. */
        private boolean leavesWay(int blade, int other) {
            return years.bound(STRUCK_FIRST, other) <= years.bound(STRUCK_LAST, blade);
        }

        /** Rows end, as SIZE falls from one BLADE to the next: as many passes as BLADES find them all. */
        private void measureRows() {
            for (int blade = 0; blade < finds.many; blade++) {
                longest[blade] = 1;
            }
            boolean grew = true;
            for (int pass = 0; grew && pass < BLADES; pass++) {
                grew = false;
                for (int blade = 0; blade < finds.many; blade++) {
                    int length = lengthFrom(blade);
                    grew = grew || length > longest[blade];
                    longest[blade] = length;
                }
            }
        }

        private int lengthFrom(int blade) {
            int length = 1;
            for (int behind = 0; behind < finds.many; behind++) {
                if (hasBit(mayFrom[behind], blade)) {
                    length = Math.max(length, longest[behind] + 1);
                }
            }
            return length;
        }

        private void layRow() {
            int wanted = 0;
            for (int blade = 0; blade < finds.many; blade++) {
                wanted = Math.max(wanted, longest[blade]);
            }
            rowLength = Math.min(wanted, BLADES);
            int ahead = NONE;
            for (int i = 0; i < rowLength; i++) {
                ahead = firstBehind(ahead, wanted - i);
                row[i] = Math.max(0, ahead);
            }
        }

        /** The first BLADE that may stand behind one (NONE: it begins) and goes on for so many. */
        private int firstBehind(int ahead, int length) {
            for (int blade = 0; blade < finds.many; blade++) {
                boolean fits = ahead == NONE || hasBit(mayFrom[blade], ahead);
                if (fits && longest[blade] == length) {
                    return blade;
                }
            }
            return NONE;
        }
    }

    /** Ways from the FLOWS to the BLADES. */
    private static final class Roads {
        private final Ground ground;
        private final Finds finds;
        private final Years years;
        final int[] miles;

        Roads(Ground itsGround, Finds itsFinds, Years itsYears) {
            ground = itsGround;
            finds = itsFinds;
            years = itsYears;
            miles = new int[PLACES];
        }

        /** The fewest WAYS from a PLACE to another one over those that live; NONE. */
        int fewestLegs(int start, int goal, int live, boolean boats) {
            int reached = 1 << start;
            int edge = reached;
            for (int legs = 0; legs < PLACES; legs++) {
                if (hasBit(reached, goal)) {
                    return legs;
                }
                int beyond = 0;
                for (int place = 0; place < PLACES; place++) {
                    if (hasBit(edge, place)) {
                        beyond |= ground.waysFrom(place, boats);
                    }
                }
                edge = beyond & live & ~reached;
                if (edge == 0) {
                    return NONE;
                }
                reached |= edge;
            }
            return NONE;
        }

        /** Finds the least MILES from a PLACE to each one (NONE: there is no way). */
        void measureMiles(int start, int live, boolean boats) {
            for (int place = 0; place < PLACES; place++) {
                miles[place] = NONE;
            }
            miles[start] = 0;
            int open = ALL_PLACES;
            for (int round = 0; round < PLACES; round++) {
                int here = nearestOf(open);
                if (here == NONE) {
                    return;
                }
                open &= ~(1 << here);
                goOnFrom(here, open & live, boats);
            }
        }

        private int nearestOf(int open) {
            int nearest = NONE;
            for (int place = 0; place < PLACES; place++) {
                if (hasBit(open, place) && miles[place] != NONE
                        && (nearest == NONE || miles[place] < miles[nearest])) {
                    nearest = place;
                }
            }
            return nearest;
        }

        private void goOnFrom(int here, int open, boolean boats) {
            for (int place = 0; place < PLACES; place++) {
                int leg = hasBit(open, place) ? ground.milesOf(here, place, boats) : 0;
                if (leg > 0) {
                    miles[place] = lesser(miles[place], miles[here] + leg);
                }
            }
        }

        int firstYear(int blade, int flow, boolean boats) {
            int first = NONE;
            for (int place = NONE; place < PLACES; place++) {
                int year = yearOfChange(blade, flow, place);
                if (legsIn(year, blade, flow, boats) != NONE) {
                    first = lesser(first, year);
                }
            }
            return first;
        }

        int legsInAnyYear(int blade, int flow, boolean boats) {
            int fewest = NONE;
            for (int place = NONE; place < PLACES; place++) {
                int legs = legsIn(yearOfChange(blade, flow, place), blade, flow, boats);
                if (legs != NONE) {
                    fewest = lesser(fewest, legs);
                }
            }
            return fewest;
        }

        /**
         * The YEARS of a BLADE and a FLOW in which more may become open than in the one ahead: their
         * first (place NONE), and that from which a PLACE is LIVE; NONE, if it isn't one of theirs.
         * No other YEAR can be the first with a way, or have fewer LEGS than these.
         */
        private int yearOfChange(int blade, int flow, int place) {
            int first = Math.max(years.bound(STRUCK_FIRST, blade), ground.open[flow]);
            int last = years.bound(LAID_LAST, blade);
            int year = place == NONE ? first : ground.liveFrom[place];
            return isWithin(year, first, last) ? year : NONE;
        }

        private int legsIn(int year, int blade, int flow, boolean boats) {
            if (year == NONE) {
                return NONE;
            }
            return fewestLegs(ground.flowPlace[flow], finds.place[blade], ground.liveIn(year), boats);
        }

        /** The BLADES that must have come by BOAT, by bits; the SPANS are found, too. */
        int comeByBoat() {
            if (!years.settle()) {
                return 0;
            }
            int byBoat = 0;
            for (int blade = 0; blade < finds.many; blade++) {
                if (mustHaveSailed(blade)) {
                    byBoat |= 1 << blade;
                }
            }
            return byBoat;
        }

        private boolean mustHaveSailed(int blade) {
            int flows = years.flows[blade];
            boolean sails = false;
            for (int flow = 0; flow < FLOWS; flow++) {
                if (hasBit(flows, flow)) {
                    if (firstYear(blade, flow, false) != NONE) {
                        return false;
                    }
                    sails = sails || firstYear(blade, flow, true) != NONE;
                }
            }
            return sails;
        }
    }

    /** COUNTS of PLACES, and the laws for them. */
    private static final class Shares {
        private final Ground ground;
        private final Roads roads;
        private final int[] many;
        // 0: there are no COUNTS of this PLACE and FLOW.
        private final int[] all;
        // SHARE and MILES of the PLACES that a FLOW's laws are held against.
        private final int[] share;
        private final int[] milesTo;
        private int gathered;

        Shares(Ground itsGround, Roads itsRoads) {
            ground = itsGround;
            roads = itsRoads;
            many = new int[PLACES * FLOWS];
            all = new int[PLACES * FLOWS];
            share = new int[PLACES];
            milesTo = new int[PLACES];
        }

        void setCounts(int place, int flow, int itsMany, int itsAll) {
            many[place * FLOWS + flow] = itsMany;
            all[place * FLOWS + flow] = itsAll;
        }

        void gather(int flow) {
            roads.measureMiles(ground.flowPlace[flow], ALL_PLACES, true);
            gathered = 0;
            for (int place = 0; place < PLACES; place++) {
                int at = place * FLOWS + flow;
                if (all[at] > 0 && roads.miles[place] != NONE) {
                    share[gathered] = cut(WHOLE_SHARE * many[at], all[at]);
                    milesTo[gathered] = roads.miles[place];
                    gathered++;
                }
            }
        }

        /** The MISS of a LAW for the FLOW that was gathered for. */
        int missOf(int law, int p) {
            int miss = 0;
            for (int i = 0; i < gathered; i++) {
                miss += Math.abs(share[i] - shareByLaw(law, p, milesTo[i]));
            }
            return miss;
        }

        private static int shareByLaw(int law, int p, int miles) {
            if (law == GIFTS) {
                return WHOLE_SHARE >> Math.min(cut(miles, 10 * p), MOST_HALVINGS);
            }
            if (law == CARRIERS) {
                return Math.max(0, WHOLE_SHARE - p * miles / 10);
            }
            return miles <= 10 * p ? MARKET_INSIDE : MARKET_BEYOND;
        }

        /** The BEST LAW with its p (what 0), or its MISS, for the FLOW that was gathered for. */
        int best(int what) {
            int bestLaw = 1;
            int least = NONE;
            for (int law = 0; law < LAWS; law++) {
                for (int p = 1; p <= MOST_P; p++) {
                    int miss = missOf(law, p);
                    if (least == NONE || miss < least) {
                        least = miss;
                        bestLaw = 100 * law + p;
                    }
                }
            }
            return what == 0 ? bestLaw : least;
        }
    }

    /** WARMTH that is learnt on dated floors. */
    private static final class Floors {
        private final Finds finds;

        Floors(Finds itsFinds) {
            finds = itsFinds;
        }

        int warmthLearnt(int place, int what) {
            int least = 1;
            int greatest = MOST;
            boolean any = false;
            for (int blade = 0; blade < finds.many; blade++) {
                if (finds.place[blade] == place && finds.rim[blade] > 0 && finds.datedYear[blade] != NONE) {
                    any = true;
                    least = Math.max(least, leastFor(finds.rim[blade], finds.datedYear[blade]));
                    greatest = Math.min(greatest, greatestFor(finds.rim[blade], finds.datedYear[blade]));
                }
            }
            if (!any || least > greatest) {
                return NONE;
            }
            return what == 0 ? least : greatest;
        }

        /** More WARMTH makes a RIM's span later: from this one on it doesn't end ahead of the YEAR. */
        private static int leastFor(int rim, int year) {
            // No span ends ahead of YEAR 0, however long ago it was.
            return year == 0 ? 1 : cut((rim - 1) * (rim - 1), NOW - year + 1) + 1;
        }

        /** Up to this WARMTH the span doesn't begin behind the YEAR. */
        private static int greatestFor(int rim, int year) {
            return year == NOW ? MOST : cut((rim + 1) * (rim + 1), NOW - year);
        }
    }
}
