import java.util.ArrayList;
import java.util.Arrays;
import java.util.HashMap;
import java.util.HashSet;
import java.util.List;
import java.util.Map;
import java.util.Set;

/**
 * The document once more, as slow and as plain as can be: rows are texts, and nothing is kept that can
 * be told anew. ModelTest holds GrandsireLoft against it.
 */
public final class LoftModel {
    private static final int NONE = -1;

    private record Lead(int method, int call) {
    }

    private static final class Method {
        int stage;
        List<Integer> changes;
        int[] last = new int[3];
    }

    private static final Map<String, Integer> NUMBERS = new HashMap<>();
    private static final Map<Integer, List<String>> ALL = new HashMap<>();

    static {
        for (int stage = 4; stage <= 6; stage++) {
            List<String> all = new ArrayList<>();
            extend("", rounds(stage), all);
            for (int number = 0; number < all.size(); number++) {
                NUMBERS.put(all.get(number), number);
            }
            ALL.put(stage, all);
        }
    }

    private static void extend(String row, String left, List<String> all) {
        if (left.isEmpty()) {
            all.add(row);
        }
        for (int at = 0; at < left.length(); at++) {
            extend(row + left.charAt(at), left.substring(0, at) + left.substring(at + 1), all);
        }
    }

    private List<Integer> changeDraft = new ArrayList<>();
    private final List<Method> methods = new ArrayList<>();
    private List<Lead> leadDraft = new ArrayList<>();
    private final List<List<Lead>> touches = new ArrayList<>();

    private final boolean[] takenOut = new boolean[6];
    private final int[][] wearOf = new int[6][2];
    private final boolean[][] worn = new boolean[6][2];

    private int day;
    private final int[] bands = {6, 6, 6, 6};
    private int turn;
    private int bandKept = NONE;
    private final List<List<Integer>> plans = new ArrayList<>();
    private int drops;

    private int rings = NONE;
    private int byPeople;
    private int theGap;
    private long theDelay;
    private int theDone;
    private final List<List<Long>> pulls = new ArrayList<>();
    private int patient = 200;
    private final int[] lates = new int[6];
    private final int[] earlies = new int[6];
    private final long[] sums = new long[6];
    private int wrongs;
    private int rungs;
    private int last = NONE;

    public LoftModel() {
        for (int d = 0; d <= 60; d++) {
            plans.add(new ArrayList<>());
        }
        for (int bell = 0; bell < 6; bell++) {
            pulls.add(new ArrayList<>());
        }
    }

    // ---- rows

    private static String rounds(int stage) {
        return "012345".substring(0, stage);
    }

    private static boolean isChange(int places, int stage) {
        if (places < 0 || places >= 1 << stage) {
            return false;
        }
        StringBuilder signs = new StringBuilder();
        for (int place = 0; place < stage; place++) {
            signs.append((places & 1 << place) != 0 ? 'm' : '.');
        }
        return signs.toString().matches("(m|\\.\\.)*") && signs.indexOf(".") >= 0;
    }

    private static String changed(String row, int places) {
        char[] bells = row.toCharArray();
        for (int place = 0; place < bells.length; place++) {
            if ((places & 1 << place) == 0) {
                bells[place] = row.charAt(place + 1);
                bells[place + 1] = row.charAt(place);
                place++;
            }
        }
        return new String(bells);
    }

    private static List<String> leadRows(Method method, int call, String from) {
        List<String> rows = new ArrayList<>();
        String row = from;
        for (int place = 0; place < method.changes.size(); place++) {
            boolean isLast = place == method.changes.size() - 1;
            row = changed(row, isLast ? method.last[call] : method.changes.get(place));
            rows.add(row);
        }
        return rows;
    }

    private int stageOf(List<Lead> touch) {
        return methods.get(touch.get(0).method()).stage;
    }

    private List<String> rowsOf(List<Lead> touch) {
        List<String> rows = new ArrayList<>();
        String from = rounds(stageOf(touch));
        for (Lead lead : touch) {
            rows.addAll(leadRows(methods.get(lead.method()), lead.call(), from));
            from = rows.get(rows.size() - 1);
        }
        return rows;
    }

    private boolean isSound(List<Lead> touch) {
        List<String> rows = rowsOf(touch);
        return new HashSet<>(rows).size() == rows.size() && rows.get(rows.size() - 1).equals(rounds(stageOf(touch)));
    }

    // ---- exceptions

    private static void index(boolean holds) {
        if (!holds) {
            throw new IndexOutOfBoundsException();
        }
    }

    private static void argument(boolean holds) {
        if (!holds) {
            throw new IllegalArgumentException();
        }
    }

    private static void state(boolean holds) {
        if (!holds) {
            throw new IllegalStateException();
        }
    }

    private static boolean in(int value, int least, int most) {
        return least <= value && value <= most;
    }

    private void isMethod(int method) {
        index(in(method, 0, methods.size() - 1));
    }

    private void isTouch(int touch) {
        index(in(touch, 0, touches.size() - 1));
    }

    private void isBell(int bell) {
        index(in(bell, 0, 5));
    }

    // ---- methods

    public int change(int places) {
        argument(in(places, 0, 63));
        state(changeDraft.size() < 12);
        changeDraft.add(places);
        return changeDraft.size();
    }

    public int dropChanges() {
        int size = changeDraft.size();
        changeDraft = new ArrayList<>();
        return size;
    }

    public int method(int stage) {
        argument(in(stage, 4, 6));
        state(!changeDraft.isEmpty());
        for (int places : changeDraft) {
            state(isChange(places, stage));
        }
        state(methods.size() < 8);
        Method made = new Method();
        made.stage = stage;
        made.changes = changeDraft;
        Arrays.fill(made.last, changeDraft.get(changeDraft.size() - 1));
        changeDraft = new ArrayList<>();
        methods.add(made);
        return methods.size() - 1;
    }

    public int setCall(int method, int call, int places) {
        isMethod(method);
        argument(in(call, 1, 2));
        argument(isChange(places, methods.get(method).stage));
        state(rings == NONE);
        int before = methods.get(method).last[call];
        methods.get(method).last[call] = places;
        drop();
        return before;
    }

    public int stage(int method) {
        isMethod(method);
        return methods.get(method).stage;
    }

    public int changeAt(int method, int call, int place) {
        isMethod(method);
        index(place >= 0);
        argument(in(call, 0, 2));
        Method asked = methods.get(method);
        if (place >= asked.changes.size()) {
            return NONE;
        }
        return place + 1 == asked.changes.size() ? asked.last[call] : asked.changes.get(place);
    }

    public int head(int method, int call) {
        isMethod(method);
        argument(in(call, 0, 2));
        Method asked = methods.get(method);
        List<String> rows = leadRows(asked, call, rounds(asked.stage));
        return NUMBERS.get(rows.get(rows.size() - 1));
    }

    public int course(int method) {
        isMethod(method);
        Method asked = methods.get(method);
        String row = rounds(asked.stage);
        int leads = 0;
        do {
            List<String> rows = leadRows(asked, 0, row);
            row = rows.get(rows.size() - 1);
            leads++;
        } while (!row.equals(rounds(asked.stage)));
        return leads;
    }

    public boolean isFalse(int method, int row) {
        isMethod(method);
        Method asked = methods.get(method);
        List<String> all = ALL.get(asked.stage);
        index(in(row, 0, all.size() - 1));
        if (row == 0) {
            return false;
        }
        Set<String> common = new HashSet<>(leadRows(asked, 0, all.get(row)));
        common.retainAll(leadRows(asked, 0, all.get(0)));
        return !common.isEmpty();
    }

    public int falseRows(int method) {
        isMethod(method);
        int count = 0;
        for (int row = 0; row < ALL.get(methods.get(method).stage).size(); row++) {
            if (isFalse(method, row)) {
                count++;
            }
        }
        return count;
    }

    // ---- touches

    public int lead(int method, int call) {
        isMethod(method);
        argument(in(call, 0, 2));
        state(leadDraft.size() < 20);
        state(leadDraft.isEmpty() || stageOf(leadDraft) == methods.get(method).stage);
        leadDraft.add(new Lead(method, call));
        return leadDraft.size();
    }

    public int dropLeads() {
        int size = leadDraft.size();
        leadDraft = new ArrayList<>();
        return size;
    }

    public int touch() {
        state(!leadDraft.isEmpty());
        state(touches.size() < 12);
        touches.add(leadDraft);
        leadDraft = new ArrayList<>();
        return touches.size() - 1;
    }

    public int compose(int method, int leads) {
        isMethod(method);
        argument(in(leads, 1, 6));
        state(touches.size() < 12);
        return composed(method, leads, new ArrayList<>());
    }

    private int composed(int method, int leads, List<Lead> begun) {
        if (begun.size() == leads) {
            if (!isSound(begun)) {
                return NONE;
            }
            touches.add(new ArrayList<>(begun));
            return touches.size() - 1;
        }
        for (int call = 0; call <= 2; call++) {
            begun.add(new Lead(method, call));
            int made = composed(method, leads, begun);
            begun.remove(begun.size() - 1);
            if (made != NONE) {
                return made;
            }
        }
        return NONE;
    }

    public int touches() {
        return touches.size();
    }

    public int leads(int touch) {
        isTouch(touch);
        return touches.get(touch).size();
    }

    public int leadAt(int touch, int lead) {
        isTouch(touch);
        index(in(lead, 0, leads(touch) - 1));
        return 10 * touches.get(touch).get(lead).method() + touches.get(touch).get(lead).call();
    }

    public int rows(int touch) {
        isTouch(touch);
        return rowsOf(touches.get(touch)).size();
    }

    public int rowAt(int touch, int row) {
        isTouch(touch);
        index(in(row, 0, rows(touch) - 1));
        return NUMBERS.get(rowsOf(touches.get(touch)).get(row));
    }

    public int bellAt(int touch, int row, int place) {
        isTouch(touch);
        index(in(row, 0, rows(touch) - 1));
        index(in(place, 0, stageOf(touches.get(touch)) - 1));
        return rowsOf(touches.get(touch)).get(row).charAt(place) - '0';
    }

    public boolean isTrue(int touch) {
        return firstRepeat(touch) == NONE;
    }

    public boolean comesRound(int touch) {
        isTouch(touch);
        return rowAt(touch, rows(touch) - 1) == 0;
    }

    public int firstRepeat(int touch) {
        isTouch(touch);
        List<String> rows = rowsOf(touches.get(touch));
        for (int row = 0; row < rows.size(); row++) {
            if (rows.subList(0, row).contains(rows.get(row))) {
                return row;
            }
        }
        return NONE;
    }

    // ---- bells

    public int takeOut(int bell) {
        isBell(bell);
        state(!takenOut[bell]);
        state(rings == NONE);
        takenOut[bell] = true;
        return drop();
    }

    public boolean bringIn(int bell) {
        isBell(bell);
        state(takenOut[bell]);
        takenOut[bell] = false;
        return isIn(bell);
    }

    public int mend(int bell, int part) {
        isBell(bell);
        argument(in(part, 0, 1));
        state(rings == NONE);
        int before = wearOf[bell][part];
        wearOf[bell][part] = 0;
        worn[bell][part] = false;
        return before;
    }

    public int wear(int bell, int part) {
        isBell(bell);
        argument(in(part, 0, 1));
        return wearOf[bell][part];
    }

    public boolean isIn(int bell) {
        isBell(bell);
        return !takenOut[bell] && !worn[bell][0] && !worn[bell][1];
    }

    private boolean needsOneOut(int touch) {
        for (int bell = 0; bell < stageOf(touches.get(touch)); bell++) {
            if (!isIn(bell)) {
                return true;
            }
        }
        return false;
    }

    private int drop() {
        int count = 0;
        for (int d = day; d <= 60; d++) {
            List<Integer> kept = new ArrayList<>();
            for (int touch : plans.get(d)) {
                if (needsOneOut(touch) || !isSound(touches.get(touch))) {
                    count++;
                } else {
                    kept.add(touch);
                }
            }
            plans.set(d, kept);
        }
        drops += count;
        return count;
    }

    private void blow(int bell, int row) {
        wearOf[bell][0] += 1 + row % 2;
        wearOf[bell][1]++;
    }

    private void wearOut() {
        for (int bell = 0; bell < 6; bell++) {
            worn[bell][0] |= wearOf[bell][0] >= 300;
            worn[bell][1] |= wearOf[bell][1] >= 200;
        }
    }

    // ---- rota

    public int setBand(int band, int size) {
        index(in(band, 0, 3));
        argument(in(size, 4, 6));
        int before = bands[band];
        bands[band] = size;
        return before;
    }

    public int plan(int d, int touch) {
        isTouch(touch);
        argument(in(d, day, 60));
        state(plans.get(d).size() < 4);
        state(!plans.get(d).contains(touch));
        state(isSound(touches.get(touch)));
        state(!needsOneOut(touch));
        plans.get(d).add(touch);
        return plans.get(d).size();
    }

    public int planned(int d) {
        argument(in(d, day, 60));
        return plans.get(d).size();
    }

    public int plannedAt(int d, int place) {
        argument(in(d, day, 60));
        index(in(place, 0, plans.get(d).size() - 1));
        return plans.get(d).get(place);
    }

    /** The bands of the days, and behind them the turn. */
    private int[] bandsTo(int lastDay) {
        int[] told = new int[lastDay + 2];
        int next = turn;
        for (int d = day; d <= lastDay; d++) {
            told[d] = NONE;
            int stage = 0;
            for (int touch : plans.get(d)) {
                stage = Math.max(stage, stageOf(touches.get(touch)));
            }
            for (int band = next; band < next + 4 && stage > 0; band++) {
                if (bands[band % 4] >= stage) {
                    told[d] = band % 4;
                    break;
                }
            }
            if (d == day && bandKept != NONE) {
                told[d] = bandKept;
            }
            if (told[d] != NONE) {
                next = (told[d] + 1) % 4;
            }
        }
        told[lastDay + 1] = next;
        return told;
    }

    public int rota(int d) {
        argument(in(d, day, 60));
        return bandsTo(d)[d];
    }

    public int pass() {
        state(rings == NONE);
        state(day < 60);
        turn = bandsTo(day)[day + 1];
        bandKept = NONE;
        day++;
        return day;
    }

    public int today() {
        return day;
    }

    public int dropped() {
        return drops;
    }

    // ---- ringing

    public int ring(int touch, int people, int gap) {
        isTouch(touch);
        argument(people >= 0 && people < 1 << stageOf(touches.get(touch)));
        argument(in(gap, 100, 1000));
        state(rings == NONE);
        state(plans.get(day).contains(touch));
        state(touch != last);
        state(rota(day) != NONE);
        state(bands[rota(day)] >= stageOf(touches.get(touch)));
        bandKept = rota(day);
        rings = touch;
        byPeople = people;
        theGap = gap;
        theDelay = 0;
        theDone = 0;
        for (int bell = 0; bell < 6; bell++) {
            pulls.set(bell, new ArrayList<>());
        }
        doRows();
        return theDone;
    }

    private boolean isByPeople(int bell) {
        return (byPeople & 1 << bell) != 0;
    }

    private long dueAt(int row, int place) {
        return (long) theGap * (stageOf(touches.get(rings)) * row + place + row / 2) + theDelay;
    }

    private void doRows() {
        while (rings != NONE) {
            int stage = stageOf(touches.get(rings));
            for (int bell = 0; bell < stage; bell++) {
                if (isByPeople(bell) && pulls.get(bell).size() <= theDone) {
                    return;
                }
            }
            String row = rowsOf(touches.get(rings)).get(theDone);
            long[] times = new long[stage];
            for (int place = 0; place < stage; place++) {
                int bell = row.charAt(place) - '0';
                if (isByPeople(bell)) {
                    times[place] = pulls.get(bell).get(theDone);
                } else {
                    times[place] = dueAt(theDone, place);
                    blow(bell, theDone);
                }
            }
            for (int place = 1; place < stage; place++) {
                if (times[place] <= times[place - 1]) {
                    wrongs++;
                    break;
                }
            }
            theDone++;
            wearOut();
            if (needsOneOut(rings)) {
                rings = NONE;
                drop();
            } else if (theDone == rows(rings)) {
                plans.get(day).remove((Integer) rings);
                last = rings;
                rungs++;
                rings = NONE;
            }
        }
    }

    public int stand() {
        state(rings != NONE);
        rings = NONE;
        wearOut();
        drop();
        return theDone;
    }

    public boolean isRinging() {
        return rings != NONE;
    }

    public int pull(int bell, int time) {
        isBell(bell);
        argument(in(time, 0, 2000000000));
        long error = time - nextDue(bell);
        state(sums[bell] + error >= Integer.MIN_VALUE && sums[bell] + error <= Integer.MAX_VALUE);
        long delay = theDelay + Math.max(0, error - patient);
        state(delay <= 2000000000);
        int row = pulls.get(bell).size();
        pulls.get(bell).add((long) time);
        blow(bell, row);
        sums[bell] += error;
        lates[bell] += error > theGap / 4 ? 1 : 0;
        earlies[bell] += -error > theGap / 4 ? 1 : 0;
        theDelay = delay;
        doRows();
        return (int) error;
    }

    private long nextDue(int bell) {
        state(rings != NONE);
        state(isByPeople(bell));
        int row = pulls.get(bell).size();
        state(row < rows(rings));
        return dueAt(row, rowsOf(touches.get(rings)).get(row).indexOf('0' + bell));
    }

    public int due(int bell) {
        isBell(bell);
        return (int) nextDue(bell);
    }

    public int setPatience(int patience) {
        argument(in(patience, 0, 1000));
        int before = patient;
        patient = patience;
        return before;
    }

    public int done() {
        return rings == NONE ? NONE : theDone;
    }

    public int delay() {
        return rings == NONE ? 0 : (int) theDelay;
    }

    public int late(int bell) {
        isBell(bell);
        return lates[bell];
    }

    public int early(int bell) {
        isBell(bell);
        return earlies[bell];
    }

    public int errors(int bell) {
        isBell(bell);
        return (int) sums[bell];
    }

    public int wrong() {
        return wrongs;
    }

    public int rung() {
        return rungs;
    }

    public int latest() {
        return last;
    }
}
