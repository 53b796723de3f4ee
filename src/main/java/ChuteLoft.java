/** A loft, and a field onto which people jump. README.md says how it is used. */
public final class ChuteLoft {
    private static final int NONE = -1;
    private static final int MOST_JUMPERS = 8;
    private static final int MOST_RIGS = 8;
    private static final int MOST_ABOARD = 6;
    private static final int LAYERS = 10;
    private static final int TOP = LAYERS - 1;
    private static final int LOWEST_OPEN = 2;
    private static final int LOWEST_OPEN_OF_STUDENTS = 4;
    private static final int HIGHEST_OPEN = 6;
    private static final int FLAT = 0;
    private static final int STEEP = 1;
    private static final int LAST_DAY = 500;
    private static final int DAYS_OF_A_RESERVE = 60;
    private static final int BEST_NEAT = 9;
    private static final int DAYS_OF_PRACTICE = 30;
    private static final int FARTHEST_SPOT = 200;
    private static final int SPOT_STEP = 20;
    private static final int LONGEST_GAP = 9;
    /** Far above the 86 ticks of the longest flight: six jumpers, nine ticks apart. */
    private static final int MOST_TICKS = 1000;

    private static final int[] GROUND_LIMITS = {8, 14, 20, 30};
    private static final int[] LOADING_LIMITS = {4, 6, 9, 20};

    private final Jumper[] jumpers = new Jumper[MOST_JUMPERS];
    private int jumperCount = 0;
    private final Rig[] rigs = new Rig[MOST_RIGS];
    private int rigCount = 0;
    private final Winds winds = new Winds();
    /** Who is aboard, always kept in the ORDER. */
    private final int[] line = new int[MOST_ABOARD];
    private int aboard = 0;
    private boolean held = false;
    /** Used again for each flight, those that only would be among them. */
    private final Flight flight = new Flight();
    private final Jump alone = new Jump();
    private int day = 0;
    private int draw = 3;
    private int flights = 0;
    private int jumps = 0;
    private int troubles = 0;
    private int off = 0;
    private int met = 0;
    private int refused = 0;

    public ChuteLoft() {
        for (int i = 0; i < MOST_JUMPERS; i++) {
            jumpers[i] = new Jumper();
        }
        for (int i = 0; i < MOST_RIGS; i++) {
            rigs[i] = new Rig();
        }
    }

    // ---- jumpers and rigs

    public int jumper(int weight, int licence) throws IllegalArgumentException, IllegalStateException {
        checkArgument(weight, 50, 130);
        checkArgument(licence, 0, 3);
        if (jumperCount >= MOST_JUMPERS) {
            throw new IllegalStateException("there are 8 jumpers");
        }
        Jumper told = jumpers[jumperCount];
        told.weight = weight;
        told.licence = licence;
        told.lastDay = day;
        jumperCount++;
        return jumperCount - 1;
    }

    public int rig(int area, int days) throws IllegalArgumentException, IllegalStateException {
        checkArgument(area, 80, 300);
        checkArgument(days, 0, DAYS_OF_A_RESERVE);
        if (rigCount >= MOST_RIGS) {
            throw new IllegalStateException("there are 8 rigs");
        }
        Rig told = rigs[rigCount];
        told.area = area;
        told.due = day + days;
        rigCount++;
        return rigCount - 1;
    }

    public int lend(int rig, int jumper) throws IndexOutOfBoundsException, IllegalStateException {
        rigAt(rig);
        Jumper borrower = jumperAt(jumper);
        int before = holderOf(rig);
        if (placeOf(jumper) != NONE || placeOf(before) != NONE) {
            throw new IllegalStateException("who has it, or shall have it, is aboard");
        }
        if (before != NONE) {
            jumperAt(before).rig = NONE;
        }
        borrower.rig = rig;
        return before;
    }

    public int pack(int rig, int jumper) throws IndexOutOfBoundsException, IllegalStateException {
        Rig packing = rigAt(rig);
        Jumper packer = jumperAt(jumper);
        if (packing.packed) {
            throw new IllegalStateException("the rig is packed");
        }
        packing.neat = Math.max(0, BEST_NEAT - packer.packedToday);
        packing.packed = true;
        packer.packedToday++;
        return packing.neat;
    }

    public int renew(int rig) throws IndexOutOfBoundsException {
        Rig renewed = rigAt(rig);
        renewed.due = day + DAYS_OF_A_RESERVE;
        return renewed.due;
    }

    public int pass(int days) throws IllegalArgumentException, IllegalStateException {
        checkArgument(days, 1, 90);
        if (day + days > LAST_DAY || aboard > 0) {
            throw new IllegalStateException("the last day is 500, and nobody waits aboard overnight");
        }
        day += days;
        for (int i = 0; i < jumperCount; i++) {
            jumperAt(i).packedToday = 0;
        }
        return day;
    }

    public int wind(int layer, int wx, int wy) throws IndexOutOfBoundsException, IllegalArgumentException {
        checkLayer(layer);
        checkArgument(wx, -20, 20);
        checkArgument(wy, -20, 20);
        winds.tell(layer, wx, wy);
        return winds.ground();
    }

    // ---- the plane

    public int board(int jumper, int style, int open)
            throws IndexOutOfBoundsException, IllegalArgumentException, IllegalStateException {
        Jumper boarding = jumperAt(jumper);
        checkArgument(style, FLAT, STEEP);
        checkArgument(open, boarding.licence == 0 ? LOWEST_OPEN_OF_STUDENTS : LOWEST_OPEN, HIGHEST_OPEN);
        if (held || aboard >= MOST_ABOARD) {
            throw new IllegalStateException("the plane is held, or full");
        }
        int why = whyNot(jumper);
        if (why != 0) {
            return -why;
        }
        boarding.style = style;
        boarding.open = open;
        lineUp(jumper);
        return aboard;
    }

    public int empty() {
        int were = aboard;
        aboard = 0;
        return were;
    }

    public int fly(int spot, int gap) throws IllegalArgumentException, IllegalStateException {
        checkArgument(spot, -FARTHEST_SPOT, FARTHEST_SPOT);
        checkArgument(gap, 1, LONGEST_GAP);
        if (held || aboard == 0) {
            throw new IllegalStateException("the plane is held, or empty");
        }
        planFlight();
        drawTroubles();
        flight.leave(spot, gap, winds);
        met += flight.run(winds);
        int points = 0;
        for (int place = 0; place < aboard; place++) {
            points += settle(jumperAt(order(place)), flight.jumpAt(place));
        }
        aboard = 0;
        flights++;
        return points;
    }

    public boolean hold(boolean is) {
        boolean was = held;
        held = is;
        return was;
    }

    public int gong() {
        refused++;
        return refused;
    }

    // ---- what is asked

    public int ofJumper(int jumper, int what) throws IndexOutOfBoundsException, IllegalArgumentException {
        Jumper asked = jumperAt(jumper);
        switch (what) {
            case 0: return asked.weight;
            case 1: return asked.licence;
            case 2: return asked.rig;
            case 3: return asked.lastDay;
            case 4: return asked.jumps;
            case 5: return asked.points;
            case 6: return asked.packedToday;
            case 7: return placeOf(jumper);
            case 8: return asked.troubles;
            default: throw new IllegalArgumentException("what is 0 to 8");
        }
    }

    public double loading(int jumper) throws IndexOutOfBoundsException {
        return loadingOf(jumperAt(jumper));
    }

    public double landed(int jumper, boolean isY) throws IndexOutOfBoundsException {
        Jumper asked = jumperAt(jumper);
        return isY ? asked.landedY : asked.landedX;
    }

    public int refuses(int jumper) throws IndexOutOfBoundsException {
        return whyNot(jumper);
    }

    public int ofRig(int rig, int what) throws IndexOutOfBoundsException, IllegalArgumentException {
        Rig asked = rigAt(rig);
        switch (what) {
            case 0: return asked.area;
            case 1: return asked.due;
            case 2: return asked.neat;
            case 3: return asked.packed ? 1 : 0;
            case 4: return holderOf(rig);
            default: throw new IllegalArgumentException("what is 0 to 4");
        }
    }

    public double wear(int rig) throws IndexOutOfBoundsException {
        return rigAt(rig).wear;
    }

    public int ofWind(int layer, boolean isY) throws IndexOutOfBoundsException {
        checkLayer(layer);
        return isY ? winds.yOf(layer) : winds.xOf(layer);
    }

    public int many(int what) throws IllegalArgumentException {
        switch (what) {
            case 0: return day;
            case 1: return jumperCount;
            case 2: return rigCount;
            case 3: return winds.ground();
            case 4: return aboard;
            case 5: return draw;
            case 6: return flights;
            case 7: return jumps;
            case 8: return troubles;
            case 9: return off;
            case 10: return met;
            case 11: return held ? 1 : 0;
            case 12: return refused;
            default: throw new IllegalArgumentException("what is 0 to 12");
        }
    }

    public int order(int place) throws IndexOutOfBoundsException {
        if (place < 0 || place >= aboard || place >= MOST_ABOARD) {
            throw new IndexOutOfBoundsException("there is no such place");
        }
        return line[place];
    }

    // ---- what would be (nothing is changed; without TROUBLE)

    public double wouldLand(int jumper, int style, int open, int spot, boolean isY)
            throws IndexOutOfBoundsException, IllegalArgumentException, IllegalStateException {
        Jumper asked = jumperAt(jumper);
        checkArgument(style, FLAT, STEEP);
        checkArgument(open, LOWEST_OPEN, HIGHEST_OPEN);
        checkArgument(spot, -FARTHEST_SPOT, FARTHEST_SPOT);
        planAlone(asked, style, open);
        alone.leave(spot, 0);
        alone.comeDown(winds);
        return isY ? alone.y : alone.x;
    }

    public int takes(int jumper, int style, int open)
            throws IndexOutOfBoundsException, IllegalArgumentException, IllegalStateException {
        Jumper asked = jumperAt(jumper);
        checkArgument(style, FLAT, STEEP);
        checkArgument(open, LOWEST_OPEN, HIGHEST_OPEN);
        planAlone(asked, style, open);
        alone.leave(0, 0);
        return alone.comeDown(winds);
    }

    public int spot(int gap) throws IllegalArgumentException {
        checkArgument(gap, 1, LONGEST_GAP);
        planFlight();
        int best = 0;
        int most = NONE;
        for (int spot = -FARTHEST_SPOT; spot <= FARTHEST_SPOT; spot += SPOT_STEP) {
            int points = pointsFrom(spot, gap);
            // Of two equally near ones the smaller comes first here, and stays.
            if (points > most || points == most && Math.abs(spot) < Math.abs(best)) {
                most = points;
                best = spot;
            }
        }
        return best;
    }

    public int wouldMeet(int gap, int spot) throws IllegalArgumentException {
        checkArgument(gap, 1, LONGEST_GAP);
        checkArgument(spot, -FARTHEST_SPOT, FARTHEST_SPOT);
        planFlight();
        flight.leave(spot, gap, winds);
        return flight.run(winds);
    }

    public int best(int jumper) throws IndexOutOfBoundsException {
        Jumper asked = jumperAt(jumper);
        int best = NONE;
        float greatest = 0f;
        for (int i = 0; i < rigCount; i++) {
            int holder = holderOf(i);
            float loading = loadingWith(asked, rigAt(i));
            if ((holder == NONE || holder == jumper) && isLet(asked, loading) && loading > greatest) {
                best = i;
                greatest = loading;
            }
        }
        return best;
    }

    public long digest() {
        long d = 58311L;
        for (int what = 0; what <= 12; what++) {
            d = d * 31 + many(what);
        }
        for (int i = 0; i < jumperCount; i++) {
            d = digestOfJumper(d, i);
        }
        for (int i = 0; i < rigCount; i++) {
            d = digestOfRig(d, i);
        }
        for (int layer = 0; layer < LAYERS; layer++) {
            d = d * 31 + ofWind(layer, false);
            d = d * 31 + ofWind(layer, true);
        }
        d = d * 31 + spot(3);
        return d * 31 + wouldMeet(3, 0);
    }

    private long digestOfJumper(long before, int number) {
        long d = before;
        for (int what = 0; what <= 8; what++) {
            d = d * 31 + ofJumper(number, what);
        }
        d = d * 31 + (long) (1024.0 * landed(number, false));
        d = d * 31 + (long) (1024.0 * landed(number, true));
        d = d * 31 + refuses(number);
        return d * 31 + best(number);
    }

    private long digestOfRig(long before, int number) {
        long d = before;
        for (int what = 0; what <= 4; what++) {
            d = d * 31 + ofRig(number, what);
        }
        return d * 31 + (long) (64.0 * wear(number));
    }

    private static void checkArgument(int value, int least, int most) {
        if (value < least || value > most) {
            throw new IllegalArgumentException("an argument is out of its bounds");
        }
    }

    private static void checkLayer(int layer) {
        if (layer < 0 || layer >= LAYERS) {
            throw new IndexOutOfBoundsException("a layer is 0 to 9");
        }
    }

    private Jumper jumperAt(int number) {
        if (number < 0 || number >= jumperCount || number >= MOST_JUMPERS) {
            throw new IndexOutOfBoundsException("there is no such jumper");
        }
        return jumpers[number];
    }

    private Rig rigAt(int number) {
        if (number < 0 || number >= rigCount || number >= MOST_RIGS) {
            throw new IndexOutOfBoundsException("there is no such rig");
        }
        return rigs[number];
    }

    private int holderOf(int rig) {
        for (int i = 0; i < jumperCount; i++) {
            if (jumperAt(i).rig == rig) {
                return i;
            }
        }
        return NONE;
    }

    private int placeOf(int jumper) {
        for (int place = 0; place < aboard; place++) {
            if (order(place) == jumper) {
                return place;
            }
        }
        return NONE;
    }

    private float loadingOf(Jumper who) {
        return who.rig == NONE ? 0f : loadingWith(who, rigAt(who.rig));
    }

    private static float loadingWith(Jumper who, Rig rig) {
        return rig.area > 0 ? who.weight * 10f / rig.area : 0f;
    }

    private static int limitOf(int[] limits, int licence) {
        return licence >= 0 && licence < limits.length ? limits[licence] : 0;
    }

    private boolean isLet(Jumper who, float loading) {
        if (loading > limitOf(LOADING_LIMITS, who.licence)) {
            return false;
        }
        return loading <= 4f || day - who.lastDay <= DAYS_OF_PRACTICE;
    }

    private int whyNot(int jumper) {
        Jumper who = jumperAt(jumper);
        if (who.rig == NONE) {
            return 1;
        }
        Rig rig = rigAt(who.rig);
        if (!rig.packed) {
            return 2;
        }
        if (rig.due < day) {
            return 3;
        }
        if (winds.ground() > limitOf(GROUND_LIMITS, who.licence)) {
            return 4;
        }
        if (!isLet(who, loadingWith(who, rig))) {
            return 5;
        }
        return placeOf(jumper) == NONE ? 0 : 6;
    }

    private void lineUp(int jumper) {
        int place = aboard;
        while (place > 0 && goesAhead(jumper, order(place - 1))) {
            setPlace(place, order(place - 1));
            place--;
        }
        setPlace(place, jumper);
        aboard++;
    }

    private void setPlace(int place, int jumper) {
        if (place >= 0 && place < MOST_ABOARD) {
            line[place] = jumper;
        }
    }

    private boolean goesAhead(int one, int other) {
        Jumper a = jumperAt(one);
        Jumper b = jumperAt(other);
        boolean isStudentA = a.licence == 0;
        boolean isStudentB = b.licence == 0;
        if (isStudentA != isStudentB) {
            return isStudentB;
        }
        if (a.style != b.style) {
            return a.style == FLAT;
        }
        float loadingOfA = loadingOf(a);
        float loadingOfB = loadingOf(b);
        return loadingOfA != loadingOfB ? loadingOfA > loadingOfB : one < other;
    }

    private void planAlone(Jumper who, int style, int open) {
        if (who.rig == NONE) {
            throw new IllegalStateException("that jumper has no rig");
        }
        alone.plan(who.licence, style, open, loadingOf(who));
    }

    private void planFlight() {
        flight.size = aboard;
        for (int place = 0; place < aboard; place++) {
            Jumper who = jumperAt(order(place));
            flight.jumpAt(place).plan(who.licence, who.style, who.open, loadingOf(who));
        }
    }

    private void drawTroubles() {
        for (int place = 0; place < aboard; place++) {
            Rig rig = rigAt(jumperAt(order(place)).rig);
            draw = (5 * draw + 3) % 32;
            if (draw < BEST_NEAT - rig.neat + (int) (rig.wear * 2f)) {
                flight.jumpAt(place).planReserve();
            }
        }
    }

    private int pointsFrom(int spot, int gap) {
        flight.leave(spot, gap, winds);
        int points = 0;
        for (int place = 0; place < aboard; place++) {
            Jump jump = flight.jumpAt(place);
            jump.comeDown(winds);
            points += jump.points();
        }
        return points;
    }

    /** Answers the points of this jump. */
    private int settle(Jumper who, Jump jump) {
        Rig rig = rigAt(who.rig);
        rig.packed = false;
        rig.wear += jump.isTrouble ? 0.25f : 0.0625f;
        if (jump.isTrouble) {
            rig.due = day - 1;
            who.troubles++;
            troubles++;
        }
        who.lastDay = day;
        who.landedX = jump.x;
        who.landedY = jump.y;
        who.jumps++;
        jumps++;
        if (jump.far() > 100.0) {
            off++;
        }
        int points = jump.points();
        who.points += points;
        return points;
    }

    private static final class Jumper {
        int weight = 0;
        int licence = 0;
        int rig = NONE;
        int lastDay = 0;
        int jumps = 0;
        int points = 0;
        int packedToday = 0;
        int troubles = 0;
        double landedX = 0.0;
        double landedY = 0.0;
        /** Of the boarding; of no meaning while not aboard. */
        int style = FLAT;
        int open = HIGHEST_OPEN;
    }

    private static final class Rig {
        int area = 0;
        int due = 0;
        int neat = 0;
        boolean packed = false;
        float wear = 0f;
    }

    private static final class Winds {
        private final int[] x = new int[LAYERS];
        private final int[] y = new int[LAYERS];

        void tell(int layer, int wx, int wy) {
            if (layer >= 0 && layer < LAYERS) {
                x[layer] = wx;
                y[layer] = wy;
            }
        }

        int xOf(int layer) {
            return layer >= 0 && layer < LAYERS ? x[layer] : 0;
        }

        int yOf(int layer) {
            return layer >= 0 && layer < LAYERS ? y[layer] : 0;
        }

        int ground() {
            return Math.abs(x[0]) + Math.abs(y[0]);
        }
    }

    /** One jump, from the plane to the ground. */
    private static final class Jump {
        private int opensIn = HIGHEST_OPEN;
        private int ticksOfFall = 1;
        private int ticksOfGlide = 1;
        private double forward = 0.0;
        boolean isTrouble = false;
        int leavesAt = 0;
        private int layer = TOP;
        private int ticksHere = 0;
        double x = 0.0;
        double y = 0.0;
        /** A bit for each one of the same flight, by place, that was met. */
        int metBits = 0;

        void plan(int licence, int style, int open, float loading) {
            opensIn = open;
            ticksOfFall = style == FLAT ? 2 : 1;
            ticksOfGlide = loading > 0f ? 1 + (int) (8f / loading) : 1;
            double full = 4.0 + loading;
            forward = licence == 0 ? full / 2.0 : full;
            isTrouble = false;
        }

        /** With trouble one falls on through the layer to open, and never glides in it. */
        void planReserve() {
            opensIn--;
            ticksOfGlide = 4;
            forward = 3.0;
            isTrouble = true;
        }

        void leave(double fromX, int tick) {
            leavesAt = tick;
            layer = TOP;
            ticksHere = 0;
            x = fromX;
            y = 0.0;
            metBits = 0;
        }

        boolean isDown() {
            return layer < 0;
        }

        boolean isGliding() {
            return layer <= opensIn && layer >= 0;
        }

        /** Answers how many ticks it took. */
        int comeDown(Winds winds) {
            int ticks = 0;
            while (!isDown() && ticks < MOST_TICKS) {
                goOn(winds);
                ticks++;
            }
            return ticks;
        }

        void goOn(Winds winds) {
            boolean glides = isGliding();
            if (glides) {
                x += winds.xOf(layer);
                y += winds.yOf(layer);
                steer();
            } else {
                x += winds.xOf(layer) * 0.5;
                y += winds.yOf(layer) * 0.5;
            }
            ticksHere++;
            if (ticksHere >= (glides ? ticksOfGlide : ticksOfFall)) {
                layer--;
                ticksHere = 0;
            }
        }

        private void steer() {
            if (sizeOf(x) >= sizeOf(y)) {
                x = nearer(x, forward);
            } else {
                y = nearer(y, forward);
            }
        }

        private static double nearer(double from, double by) {
            if (from > by) {
                return from - by;
            }
            return from < -by ? from + by : 0.0;
        }

        private static double sizeOf(double number) {
            return number < 0 ? -number : number;
        }

        double far() {
            return sizeOf(x) >= sizeOf(y) ? sizeOf(x) : sizeOf(y);
        }

        int points() {
            double far = far();
            if (far <= 5.0) {
                return 3;
            }
            return far <= 20.0 ? 1 : 0;
        }

        boolean isNear(Jump other) {
            return isGliding() && other.isGliding() && layer == other.layer
                    && sizeOf(x - other.x) < 10.0 && sizeOf(y - other.y) < 10.0;
        }
    }

    /** The jumps of all who are aboard, in the ORDER. */
    private static final class Flight {
        private final Jump[] jumps = new Jump[MOST_ABOARD];
        int size = 0;

        Flight() {
            for (int i = 0; i < MOST_ABOARD; i++) {
                jumps[i] = new Jump();
            }
        }

        Jump jumpAt(int place) {
            return jumps[place >= 0 && place < MOST_ABOARD ? place : 0];
        }

        void leave(int spot, int gap, Winds winds) {
            for (int place = 0; place < size; place++) {
                int tick = place * gap;
                jumpAt(place).leave(spot + tick * (30.0 - winds.xOf(TOP)), tick);
            }
        }

        /** Answers how many pairs met. */
        int run(Winds winds) {
            int pairs = 0;
            boolean isOver = false;
            for (int tick = 0; tick < MOST_TICKS && !isOver; tick++) {
                isOver = goOn(tick, winds);
                pairs += countNewPairs();
            }
            return pairs;
        }

        /** Answers whether all are down. */
        private boolean goOn(int tick, Winds winds) {
            boolean isOver = true;
            for (int place = 0; place < size; place++) {
                Jump jump = jumpAt(place);
                if (tick >= jump.leavesAt && !jump.isDown()) {
                    jump.goOn(winds);
                }
                isOver = isOver && jump.isDown();
            }
            return isOver;
        }

        private int countNewPairs() {
            int pairs = 0;
            for (int one = 0; one < size; one++) {
                Jump jump = jumpAt(one);
                for (int other = one + 1; other < size; other++) {
                    int bit = 1 << other;
                    if ((jump.metBits & bit) == 0 && jump.isNear(jumpAt(other))) {
                        jump.metBits |= bit;
                        pairs++;
                    }
                }
            }
            return pairs;
        }
    }
}
