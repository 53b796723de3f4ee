import java.util.ArrayList;
import java.util.Comparator;
import java.util.List;

/**
 * The document once more, in another form: rows of numbers, and each jump written down TICK by TICK before anything is
 * asked of it. RunsTest compares its answers with those of the class.
 */
final class Model {
    static final class Person {
        int weight, licence, rig = -1, lastJump, jumps, points, packed, troubles, style, open;
        double x, y;
        boolean isAboard;
    }

    static final class Gear {
        int area, due, neat;
        boolean packed;
        float wear;
    }

    /** Where one is behind a TICK. */
    static final class Moment {
        int layer;
        boolean isUnderCanopy;
        double x, y;
    }

    private final List<Person> people = new ArrayList<>();
    private final List<Gear> gears = new ArrayList<>();
    private final int[][] winds = new int[10][2];
    private final int[] counts = new int[13];

    Model() {
        counts[5] = 3;
    }

    private Person person(int number) {
        if (number < 0 || number >= people.size()) {
            throw new IndexOutOfBoundsException();
        }
        return people.get(number);
    }

    private Gear gear(int number) {
        if (number < 0 || number >= gears.size()) {
            throw new IndexOutOfBoundsException();
        }
        return gears.get(number);
    }

    private static void argument(boolean isRight) {
        if (!isRight) {
            throw new IllegalArgumentException();
        }
    }

    private static void state(boolean isRight) {
        if (!isRight) {
            throw new IllegalStateException();
        }
    }

    private static void index(boolean isRight) {
        if (!isRight) {
            throw new IndexOutOfBoundsException();
        }
    }

    private static boolean isIn(int value, int low, int high) {
        return low <= value && value <= high;
    }

    int jumper(int weight, int licence) {
        argument(isIn(weight, 50, 130) && isIn(licence, 0, 3));
        state(people.size() < 8);
        Person p = new Person();
        p.weight = weight;
        p.licence = licence;
        p.lastJump = counts[0];
        people.add(p);
        return people.size() - 1;
    }

    int rig(int area, int days) {
        argument(isIn(area, 80, 300) && isIn(days, 0, 60));
        state(gears.size() < 8);
        Gear g = new Gear();
        g.area = area;
        g.due = counts[0] + days;
        gears.add(g);
        return gears.size() - 1;
    }

    private Person haver(int rig) {
        return people.stream().filter(p -> p.rig == rig).findFirst().orElse(null);
    }

    int lend(int rig, int jumper) {
        gear(rig);
        Person p = person(jumper);
        Person had = haver(rig);
        state(!p.isAboard && (had == null || !had.isAboard));
        if (had != null) {
            had.rig = -1;
        }
        p.rig = rig;
        return people.indexOf(had);
    }

    int pack(int rig, int jumper) {
        Gear g = gear(rig);
        Person p = person(jumper);
        state(!g.packed);
        g.packed = true;
        g.neat = p.packed > 9 ? 0 : 9 - p.packed;
        p.packed++;
        return g.neat;
    }

    int renew(int rig) {
        return gear(rig).due = counts[0] + 60;
    }

    int pass(int days) {
        argument(isIn(days, 1, 90));
        state(counts[0] + days <= 500 && aboard().isEmpty());
        counts[0] += days;
        people.forEach(p -> p.packed = 0);
        return counts[0];
    }

    int wind(int layer, int wx, int wy) {
        index(isIn(layer, 0, 9));
        argument(isIn(wx, -20, 20) && isIn(wy, -20, 20));
        winds[layer] = new int[] {wx, wy};
        return ground();
    }

    private int ground() {
        return Math.abs(winds[0][0]) + Math.abs(winds[0][1]);
    }

    private List<Person> aboard() {
        List<Person> line = new ArrayList<>(people);
        line.removeIf(p -> !p.isAboard);
        // A stable sort: of those alike in all, the smaller number stays ahead.
        line.sort(Comparator.<Person>comparingInt(p -> p.licence > 0 ? 0 : 1).thenComparingInt(p -> p.style)
                .thenComparing(p -> load(p), Comparator.reverseOrder()));
        return line;
    }

    private float load(Person p) {
        return p.weight * 10f / gears.get(p.rig).area;
    }

    int board(int jumper, int style, int open) {
        Person p = person(jumper);
        argument(isIn(style, 0, 1) && isIn(open, p.licence == 0 ? 4 : 2, 6));
        state(counts[11] == 0 && aboard().size() < 6);
        int why = refuses(jumper);
        if (why > 0) {
            return -why;
        }
        p.isAboard = true;
        p.style = style;
        p.open = open;
        return aboard().size();
    }

    int empty() {
        int were = aboard().size();
        people.forEach(p -> p.isAboard = false);
        return were;
    }

    /** All TICKS of a jump, the first one first. */
    private List<Moment> path(Person p, int style, int open, double fromX, boolean isTrouble) {
        List<Moment> path = new ArrayList<>();
        double x = fromX;
        double y = 0.0;
        int opens = isTrouble ? open - 1 : open;
        for (int layer = 9; layer >= 0; layer--) {
            boolean glides = layer <= opens;
            int ticks = !glides ? 2 - style : isTrouble ? 4 : 1 + (int) (8f / load(p));
            for (int i = 1; i <= ticks; i++) {
                x += glides ? winds[layer][0] : winds[layer][0] / 2.0;
                y += glides ? winds[layer][1] : winds[layer][1] / 2.0;
                if (glides) {
                    double forward = isTrouble ? 3.0 : (4.0 + load(p)) * (p.licence == 0 ? 0.5 : 1.0);
                    if (Math.abs(x) >= Math.abs(y)) {
                        x = Math.signum(x) * Math.max(0.0, Math.abs(x) - forward);
                    } else {
                        y = Math.signum(y) * Math.max(0.0, Math.abs(y) - forward);
                    }
                }
                Moment m = new Moment();
                m.layer = i == ticks ? layer - 1 : layer;
                m.isUnderCanopy = m.layer <= opens && m.layer >= 0;
                m.x = x;
                m.y = y;
                path.add(m);
            }
        }
        return path;
    }

    private List<List<Moment>> paths(int spot, int gap, List<Boolean> troubles) {
        List<List<Moment>> paths = new ArrayList<>();
        List<Person> line = aboard();
        for (int k = 0; k < line.size(); k++) {
            Person p = line.get(k);
            double x = spot + k * gap * (30.0 - winds[9][0]);
            paths.add(path(p, p.style, p.open, x, troubles != null && troubles.get(k)));
        }
        return paths;
    }

    private static int meetings(List<List<Moment>> paths, int gap) {
        int pairs = 0;
        for (int a = 0; a < paths.size(); a++) {
            for (int b = a + 1; b < paths.size(); b++) {
                pairs += haveMet(paths.get(a), paths.get(b), (b - a) * gap) ? 1 : 0;
            }
        }
        return pairs;
    }

    private static boolean haveMet(List<Moment> a, List<Moment> b, int later) {
        for (int tick = later; tick < a.size() && tick - later < b.size(); tick++) {
            Moment m = a.get(tick);
            Moment n = b.get(tick - later);
            if (m.isUnderCanopy && n.isUnderCanopy && m.layer == n.layer
                    && !(Math.abs(m.x - n.x) >= 10.0 || Math.abs(m.y - n.y) >= 10.0)) {
                return true;
            }
        }
        return false;
    }

    private static Moment last(List<Moment> path) {
        return path.get(path.size() - 1);
    }

    private static double far(Moment m) {
        return Math.max(Math.abs(m.x), Math.abs(m.y));
    }

    private static int points(Moment m) {
        return far(m) > 20.0 ? 0 : far(m) > 5.0 ? 1 : 3;
    }

    int fly(int spot, int gap) {
        argument(isIn(spot, -200, 200) && isIn(gap, 1, 9));
        List<Person> line = aboard();
        state(counts[11] == 0 && !line.isEmpty());
        List<Boolean> troubles = new ArrayList<>();
        for (Person p : line) {
            Gear g = gears.get(p.rig);
            counts[5] = Math.floorMod(5 * counts[5] + 3, 32);
            troubles.add(counts[5] < (9 - g.neat) + (int) (g.wear * 2f));
        }
        List<List<Moment>> paths = paths(spot, gap, troubles);
        counts[10] += meetings(paths, gap);
        counts[6]++;
        int sum = 0;
        for (int k = 0; k < line.size(); k++) {
            sum += land(line.get(k), last(paths.get(k)), troubles.get(k));
        }
        return sum;
    }

    private int land(Person p, Moment m, boolean isTrouble) {
        Gear g = gears.get(p.rig);
        g.packed = false;
        g.wear = g.wear + (isTrouble ? 0.25f : 0.0625f);
        if (isTrouble) {
            g.due = counts[0] - 1;
            p.troubles++;
            counts[8]++;
        }
        counts[7]++;
        counts[9] += far(m) > 100.0 ? 1 : 0;
        p.jumps++;
        p.points += points(m);
        p.lastJump = counts[0];
        p.x = m.x;
        p.y = m.y;
        p.isAboard = false;
        return points(m);
    }

    boolean hold(boolean is) {
        boolean was = counts[11] == 1;
        counts[11] = is ? 1 : 0;
        return was;
    }

    int gong() {
        return ++counts[12];
    }

    int ofJumper(int jumper, int what) {
        Person p = person(jumper);
        argument(isIn(what, 0, 8));
        int place = aboard().indexOf(p);
        return new int[] {p.weight, p.licence, p.rig, p.lastJump, p.jumps, p.points, p.packed, place, p.troubles}[what];
    }

    double loading(int jumper) {
        Person p = person(jumper);
        return p.rig < 0 ? 0.0 : load(p);
    }

    double landed(int jumper, boolean isY) {
        Person p = person(jumper);
        return isY ? p.y : p.x;
    }

    private boolean isLet(Person p, float loading) {
        float[] limits = {4f, 6f, 9f, 20f};
        boolean isOutOfPractice = counts[0] > p.lastJump + 30;
        return !(loading > limits[p.licence]) && !(isOutOfPractice && loading > 4f);
    }

    int refuses(int jumper) {
        Person p = person(jumper);
        if (p.rig < 0) {
            return 1;
        }
        Gear g = gears.get(p.rig);
        int[] grounds = {8, 14, 20, 30};
        boolean[] reasons = {!g.packed, g.due < counts[0], ground() > grounds[p.licence], !isLet(p, load(p)),
            p.isAboard};
        for (int i = 0; i < reasons.length; i++) {
            if (reasons[i]) {
                return i + 2;
            }
        }
        return 0;
    }

    int ofRig(int rig, int what) {
        Gear g = gear(rig);
        argument(isIn(what, 0, 4));
        return new int[] {g.area, g.due, g.neat, g.packed ? 1 : 0, people.indexOf(haver(rig))}[what];
    }

    double wear(int rig) {
        return gear(rig).wear;
    }

    int ofWind(int layer, boolean isY) {
        index(isIn(layer, 0, 9));
        return winds[layer][isY ? 1 : 0];
    }

    int many(int what) {
        argument(isIn(what, 0, 12));
        return switch (what) {
            case 1 -> people.size();
            case 2 -> gears.size();
            case 3 -> ground();
            case 4 -> aboard().size();
            default -> counts[what];
        };
    }

    int order(int place) {
        List<Person> line = aboard();
        index(isIn(place, 0, line.size() - 1));
        return people.indexOf(line.get(place));
    }

    double wouldLand(int jumper, int style, int open, int spot, boolean isY) {
        Person p = person(jumper);
        argument(isIn(style, 0, 1) && isIn(open, 2, 6) && isIn(spot, -200, 200));
        state(p.rig >= 0);
        Moment m = last(path(p, style, open, spot, false));
        return isY ? m.y : m.x;
    }

    int takes(int jumper, int style, int open) {
        Person p = person(jumper);
        argument(isIn(style, 0, 1) && isIn(open, 2, 6));
        state(p.rig >= 0);
        return path(p, style, open, 0.0, false).size();
    }

    int spot(int gap) {
        argument(isIn(gap, 1, 9));
        List<Integer> spots = new ArrayList<>();
        for (int spot = -200; spot <= 200; spot += 20) {
            spots.add(spot);
        }
        spots.sort(Comparator.<Integer>comparingInt(s -> -paths(s, gap, null).stream().mapToInt(p -> points(last(p)))
                .sum()).thenComparingInt(s -> Math.abs(s)).thenComparingInt(s -> s));
        return spots.get(0);
    }

    int wouldMeet(int gap, int spot) {
        argument(isIn(gap, 1, 9) && isIn(spot, -200, 200));
        return meetings(paths(spot, gap, null), gap);
    }

    int best(int jumper) {
        Person p = person(jumper);
        int best = -1;
        float most = 0f;
        for (int i = gears.size() - 1; i >= 0; i--) {
            float loading = p.weight * 10f / gears.get(i).area;
            Person had = haver(i);
            if ((had == null || had == p) && isLet(p, loading) && loading >= most) {
                best = i;
                most = loading;
            }
        }
        return best;
    }

    long digest() {
        List<Long> values = new ArrayList<>();
        for (int what = 0; what <= 12; what++) {
            values.add((long) many(what));
        }
        for (int i = 0; i < people.size(); i++) {
            for (int what = 0; what <= 8; what++) {
                values.add((long) ofJumper(i, what));
            }
            values.add((long) (1024 * people.get(i).x));
            values.add((long) (1024 * people.get(i).y));
            values.add((long) refuses(i));
            values.add((long) best(i));
        }
        for (int i = 0; i < gears.size(); i++) {
            for (int what = 0; what <= 4; what++) {
                values.add((long) ofRig(i, what));
            }
            values.add((long) (64 * wear(i)));
        }
        for (int[] wind : winds) {
            values.add((long) wind[0]);
            values.add((long) wind[1]);
        }
        values.add((long) spot(3));
        values.add((long) wouldMeet(3, 0));
        long d = 58311L;
        for (long v : values) {
            d = d * 31 + v;
        }
        return d;
    }
}
