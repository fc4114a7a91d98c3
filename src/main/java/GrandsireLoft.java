import java.util.ArrayList;

/**
 * A bell tower: methods by place notation with calls, touches that are proved, a composer, a trainer
 * who hears pulls and tells who is late, ropes and clappers that wear, and a rota of bands whose
 * touches are dropped when a bell is out.
 */
public final class GrandsireLoft {
    public static final int NONE = -1;
    public static final int PLAIN = 0, BOB = 1, SINGLE = 2;
    public static final int ROPE = 0, CLAPPER = 1;

    private static final int BELLS = 6;
    private static final int LEAST_STAGE = 4;
    private static final int ROWS_OF_ALL_BELLS = 720;
    private static final int MOST_PLACES = 63;

    private static final int CALLS = 3;
    private static final int MOST_METHODS = 8;
    private static final int MOST_CHANGES = 12;
    private static final int MOST_FALSE_ROWS = MOST_CHANGES * (MOST_CHANGES - 1);

    private static final int MOST_TOUCHES = 12;
    private static final int MOST_LEADS = 20;
    private static final int MOST_ROWS = MOST_LEADS * MOST_CHANGES;
    private static final int MOST_COMPOSED_LEADS = 6;
    private static final int WAYS_TO_CALL = 729;

    private static final int PARTS = 2;
    private static final int ROPE_LASTS = 300;
    private static final int CLAPPER_LASTS = 200;

    private static final int BANDS = 4;
    private static final int LAST_DAY = 60;
    private static final int MOST_PLANNED = 4;

    private static final int LEAST_GAP = 100;
    private static final int MOST_GAP = 1000;
    private static final int FIRST_PATIENCE = 200;
    private static final int MOST_PATIENCE = 1000;
    private static final int MOST_TIME = 2000000000;

    private final ArrayList<Method> methodList;
    private final int[] changeDraft;
    private int changeCount;

    private final ArrayList<Touch> touchList;
    private final Prover prover;
    private final Composer composer;
    private Touch leadDraft;

    private final Belfry belfry;
    private final Rota bandRota;

    private Ringing ringing;
    private int patienceNow;
    private int wrongRows;
    private int rungCount;
    private int latestTouch;

    public GrandsireLoft() {
        methodList = new ArrayList<>();
        changeDraft = new int[MOST_CHANGES];
        touchList = new ArrayList<>();
        prover = new Prover();
        composer = new Composer(prover);
        leadDraft = new Touch();
        belfry = new Belfry();
        bandRota = new Rota();
        patienceNow = FIRST_PATIENCE;
        latestTouch = NONE;
    }

    // ---- methods

    public int change(int places) throws IllegalArgumentException, IllegalStateException {
        requireRange(places, 0, MOST_PLACES);
        if (changeCount >= MOST_CHANGES) {
            throw new IllegalStateException("the draft of a lead is full");
        }
        changeDraft[changeCount] = places;
        changeCount++;
        return changeCount;
    }

    public int dropChanges() {
        int before = changeCount;
        changeCount = 0;
        return before;
    }

    public int method(int stage) throws IllegalArgumentException, IllegalStateException {
        requireRange(stage, LEAST_STAGE, BELLS);
        if (changeCount == 0 || methodList.size() >= MOST_METHODS || !isDraftOf(stage)) {
            throw new IllegalStateException("no method can be made of the draft");
        }
        int number = methodList.size();
        methodList.add(new Method(number, stage, changeDraft, changeCount));
        changeCount = 0;
        return number;
    }

    public int setCall(int method, int call, int places)
            throws IndexOutOfBoundsException, IllegalArgumentException, IllegalStateException {
        Method called = methodAt(method);
        requireRange(call, BOB, SINGLE);
        if (!Rows.isChange(places, called.stage)) {
            throw new IllegalArgumentException("no change of the stage");
        }
        requireSilence();
        int before = called.changeOf(call, called.length - 1);
        called.setLastChange(call, places);
        rewriteTouches();
        bandRota.dropUnfit(belfry.bellsOut());
        return before;
    }

    public int stage(int method) throws IndexOutOfBoundsException {
        return methodAt(method).stage;
    }

    public int changeAt(int method, int call, int place) throws IndexOutOfBoundsException, IllegalArgumentException {
        Method asked = methodAt(method);
        if (place < 0) {
            throw new IndexOutOfBoundsException("there is no such place");
        }
        requireRange(call, PLAIN, SINGLE);
        return asked.changeOf(call, place);
    }

    public int head(int method, int call) throws IndexOutOfBoundsException, IllegalArgumentException {
        Method asked = methodAt(method);
        requireRange(call, PLAIN, SINGLE);
        return Rows.number(asked.lastRow(Rows.rounds(asked.stage), call), asked.stage);
    }

    public int course(int method) throws IndexOutOfBoundsException {
        return methodAt(method).leadsToRounds();
    }

    public boolean isFalse(int method, int row) throws IndexOutOfBoundsException {
        Method asked = methodAt(method);
        requireIndex(row, Rows.count(asked.stage));
        return asked.hasFalse(row);
    }

    public int falseRows(int method) throws IndexOutOfBoundsException {
        return methodAt(method).falseCount;
    }

    // ---- touches

    public int lead(int method, int call)
            throws IndexOutOfBoundsException, IllegalArgumentException, IllegalStateException {
        Method led = methodAt(method);
        requireRange(call, PLAIN, SINGLE);
        if (!leadDraft.takesLead(led)) {
            throw new IllegalStateException("the draft of a touch does not take this lead");
        }
        leadDraft.addLead(led, call);
        return leadDraft.leadCount();
    }

    public int dropLeads() {
        int before = leadDraft.leadCount();
        leadDraft.clear();
        return before;
    }

    public int touch() throws IllegalStateException {
        if (leadDraft.leadCount() == 0) {
            throw new IllegalStateException("the draft of a touch is empty");
        }
        requireRoomForTouch();
        leadDraft.writeFrom(0, prover);
        int number = keepTouch(leadDraft);
        leadDraft = new Touch();
        return number;
    }

    public int compose(int method, int leads)
            throws IndexOutOfBoundsException, IllegalArgumentException, IllegalStateException {
        Method led = methodAt(method);
        requireRange(leads, 1, MOST_COMPOSED_LEADS);
        requireRoomForTouch();
        Touch sound = composer.soundTouch(led, leads);
        return sound == null ? NONE : keepTouch(sound);
    }

    public int touches() {
        return touchList.size();
    }

    public int leads(int touch) throws IndexOutOfBoundsException {
        return touchAt(touch).leadCount();
    }

    public int leadAt(int touch, int lead) throws IndexOutOfBoundsException {
        Touch asked = touchAt(touch);
        requireIndex(lead, asked.leadCount());
        return 10 * asked.leadMethods.get(lead).number + asked.leadCalls[lead];
    }

    public int rows(int touch) throws IndexOutOfBoundsException {
        return touchAt(touch).rowCount;
    }

    public int rowAt(int touch, int row) throws IndexOutOfBoundsException {
        Touch asked = touchAt(touch);
        requireIndex(row, asked.rowCount);
        return Rows.number(asked.keptRows[row], asked.stage);
    }

    public int bellAt(int touch, int row, int place) throws IndexOutOfBoundsException {
        Touch asked = touchAt(touch);
        requireIndex(row, asked.rowCount);
        requireIndex(place, asked.stage);
        return Rows.bellIn(asked.rowAnew(row), place);
    }

    public boolean isTrue(int touch) throws IndexOutOfBoundsException {
        return touchAt(touch).repeat == NONE;
    }

    public boolean comesRound(int touch) throws IndexOutOfBoundsException {
        return touchAt(touch).endsInRounds;
    }

    public int firstRepeat(int touch) throws IndexOutOfBoundsException {
        return touchAt(touch).repeat;
    }

    // ---- bells

    public int takeOut(int bell) throws IndexOutOfBoundsException, IllegalStateException {
        Bell taken = bellNumbered(bell);
        if (taken.takenOut) {
            throw new IllegalStateException("the bell was taken out by hand already");
        }
        requireSilence();
        taken.takenOut = true;
        return bandRota.dropUnfit(belfry.bellsOut());
    }

    public boolean bringIn(int bell) throws IndexOutOfBoundsException, IllegalStateException {
        Bell brought = bellNumbered(bell);
        if (!brought.takenOut) {
            throw new IllegalStateException("the bell was not taken out by hand");
        }
        brought.takenOut = false;
        return brought.isUsable();
    }

    public int mend(int bell, int part)
            throws IndexOutOfBoundsException, IllegalArgumentException, IllegalStateException {
        Bell mended = bellNumbered(bell);
        requireRange(part, ROPE, CLAPPER);
        requireSilence();
        return mended.renew(part);
    }

    public int wear(int bell, int part) throws IndexOutOfBoundsException, IllegalArgumentException {
        Bell asked = bellNumbered(bell);
        requireRange(part, ROPE, CLAPPER);
        return asked.wearOf[part];
    }

    public boolean isIn(int bell) throws IndexOutOfBoundsException {
        return bellNumbered(bell).isUsable();
    }

    // ---- rota

    public int setBand(int band, int size) throws IndexOutOfBoundsException, IllegalArgumentException {
        requireIndex(band, BANDS);
        requireRange(size, LEAST_STAGE, BELLS);
        int before = bandRota.sizes[band];
        bandRota.sizes[band] = size;
        return before;
    }

    public int plan(int day, int touch)
            throws IndexOutOfBoundsException, IllegalArgumentException, IllegalStateException {
        Touch wanted = touchAt(touch);
        Day planDay = dayAt(day);
        if (!planDay.takesTouch(wanted) || !wanted.isFit(belfry.bellsOut())) {
            throw new IllegalStateException("the touch can't be planned for this day");
        }
        planDay.touchesInOrder.add(wanted);
        return planDay.touchesInOrder.size();
    }

    public int planned(int day) throws IllegalArgumentException {
        return dayAt(day).touchesInOrder.size();
    }

    public int plannedAt(int day, int place) throws IllegalArgumentException, IndexOutOfBoundsException {
        Day asked = dayAt(day);
        requireIndex(place, asked.touchesInOrder.size());
        return asked.touchesInOrder.get(place).number;
    }

    public int rota(int day) throws IllegalArgumentException {
        requireRange(day, bandRota.thisDay, LAST_DAY);
        return bandRota.bandFor(day);
    }

    public int pass() throws IllegalStateException {
        requireSilence();
        if (bandRota.thisDay >= LAST_DAY) {
            throw new IllegalStateException("today is the last day");
        }
        bandRota.endDay();
        return bandRota.thisDay;
    }

    public int today() {
        return bandRota.thisDay;
    }

    public int dropped() {
        return bandRota.droppedCount;
    }

    // ---- ringing

    public int ring(int touch, int people, int gap)
            throws IndexOutOfBoundsException, IllegalArgumentException, IllegalStateException {
        Touch wanted = touchAt(touch);
        requireRange(people, 0, (1 << wanted.stage) - 1);
        requireRange(gap, LEAST_GAP, MOST_GAP);
        requireSilence();
        if (touch == latestTouch || !bandRota.canRingToday(wanted)) {
            throw new IllegalStateException("the touch can't be rung today");
        }
        bandRota.keepBandOfToday();
        belfry.forgetPulls();
        Ringing begun = new Ringing(wanted, belfry.bells, people, gap);
        ringing = begun;
        doReadyRows();
        return begun.doneRows;
    }

    public int stand() throws IllegalStateException {
        Ringing stopped = ringing;
        if (stopped == null) {
            throw new IllegalStateException("no ringing is on");
        }
        endRinging();
        return stopped.doneRows;
    }

    public boolean isRinging() {
        return ringing != null;
    }

    public int pull(int bell, int time)
            throws IndexOutOfBoundsException, IllegalArgumentException, IllegalStateException {
        Bell pulled = bellNumbered(bell);
        requireRange(time, 0, MOST_TIME);
        Ringing on = ringingThatAwaits(bell);
        int error = time - on.nextDue(bell);
        if (!pulled.hasRoomForError(error) || !on.canWait(error, patienceNow)) {
            throw new IllegalStateException("the error is too great");
        }
        pulled.hearPull(time);
        pulled.noteError(error, on.quarterGap());
        on.waitFor(error, patienceNow);
        doReadyRows();
        return error;
    }

    public int due(int bell) throws IndexOutOfBoundsException, IllegalStateException {
        requireIndex(bell, BELLS);
        return ringingThatAwaits(bell).nextDue(bell);
    }

    public int setPatience(int patience) throws IllegalArgumentException {
        requireRange(patience, 0, MOST_PATIENCE);
        int before = patienceNow;
        patienceNow = patience;
        return before;
    }

    public int done() {
        return ringing == null ? NONE : ringing.doneRows;
    }

    public int delay() {
        return ringing == null ? 0 : ringing.waited;
    }

    public int late(int bell) throws IndexOutOfBoundsException {
        return bellNumbered(bell).latePulls;
    }

    public int early(int bell) throws IndexOutOfBoundsException {
        return bellNumbered(bell).earlyPulls;
    }

    public int errors(int bell) throws IndexOutOfBoundsException {
        return bellNumbered(bell).errorSum;
    }

    public int wrong() {
        return wrongRows;
    }

    public int rung() {
        return rungCount;
    }

    public int latest() {
        return latestTouch;
    }

    // ---- what is asked of arguments and of the state

    private static void requireRange(int value, int least, int most) {
        if (value < least || value > most) {
            throw new IllegalArgumentException("out of range");
        }
    }

    private static void requireIndex(int index, int count) {
        if (index < 0 || index >= count) {
            throw new IndexOutOfBoundsException("there is no such one");
        }
    }

    private void requireSilence() {
        if (ringing != null) {
            throw new IllegalStateException("a ringing is on");
        }
    }

    private void requireRoomForTouch() {
        if (touchList.size() >= MOST_TOUCHES) {
            throw new IllegalStateException("there are as many touches as can be");
        }
    }

    private Method methodAt(int method) {
        requireIndex(method, methodList.size());
        return methodList.get(method);
    }

    private Touch touchAt(int touch) {
        requireIndex(touch, touchList.size());
        return touchList.get(touch);
    }

    private Bell bellNumbered(int bell) {
        requireIndex(bell, BELLS);
        return belfry.bells[bell];
    }

    private Day dayAt(int day) {
        requireRange(day, bandRota.thisDay, LAST_DAY);
        return bandRota.days[day];
    }

    private Ringing ringingThatAwaits(int bell) {
        Ringing on = ringing;
        if (on == null || !on.awaitsPull(bell)) {
            throw new IllegalStateException("no pull of this bell is due");
        }
        return on;
    }

    private boolean isDraftOf(int stage) {
        for (int place = 0; place < changeCount; place++) {
            if (!Rows.isChange(changeDraft[place], stage)) {
                return false;
            }
        }
        return true;
    }

    // ---- what one call brings about elsewhere

    private int keepTouch(Touch made) {
        made.number = touchList.size();
        touchList.add(made);
        return made.number;
    }

    private void rewriteTouches() {
        for (int number = 0; number < touchList.size(); number++) {
            touchList.get(number).writeFrom(0, prover);
        }
    }

    private void doReadyRows() {
        for (int row = 0; row < MOST_ROWS; row++) {
            Ringing on = ringing;
            if (on == null || !on.isNextRowReady()) {
                return;
            }
            if (on.doNextRow()) {
                wrongRows++;
            }
            if (belfry.noteWornOut()) {
                endRinging();
            } else if (on.areAllRowsDone()) {
                endRinging();
                countAsRung(on.touch);
            }
        }
    }

    private void countAsRung(Touch touch) {
        bandRota.takeFromToday(touch);
        latestTouch = touch.number;
        rungCount++;
    }

    private void endRinging() {
        ringing = null;
        // pulls ahead of the rows that are done may have worn a bell out unnoticed so far
        belfry.noteWornOut();
        bandRota.dropUnfit(belfry.bellsOut());
    }

    /** Rows and changes. A row is packed: the bell at the place p is in the three bits from 3 * p on. */
    private static final class Rows {
        private Rows() {
        }

        static int rounds(int stage) {
            int row = 0;
            for (int place = 0; place < stage; place++) {
                row |= place << 3 * place;
            }
            return row;
        }

        static int count(int stage) {
            int count = 1;
            for (int bells = 2; bells <= stage; bells++) {
                count *= bells;
            }
            return count;
        }

        static int bellIn(int row, int place) {
            return row >> 3 * place & 7;
        }

        static int placeOf(int row, int bell, int stage) {
            for (int place = 0; place < stage; place++) {
                if (bellIn(row, place) == bell) {
                    return place;
                }
            }
            return NONE;
        }

        static int number(int row, int stage) {
            int number = 0;
            int seen = 0;
            for (int place = 0; place < stage; place++) {
                int bell = bellIn(row, place);
                int lesserToCome = bell - Integer.bitCount(seen & (1 << bell) - 1);
                number = number * (stage - place) + lesserToCome;
                seen |= 1 << bell;
            }
            return number;
        }

        static boolean isMade(int places, int place) {
            return (places >> place & 1) == 1;
        }

        static boolean isChange(int places, int stage) {
            int all = (1 << stage) - 1;
            if (places < 0 || places >= all) {
                return false;
            }
            int open = 0;
            for (int place = 0; place < stage; place++) {
                if (!isMade(places, place)) {
                    open++;
                } else if (open % 2 != 0) {
                    return false;
                }
            }
            return open % 2 == 0;
        }

        static int afterChange(int row, int places, int stage) {
            int after = row;
            int place = 0;
            while (place + 1 < stage) {
                if (isMade(places, place)) {
                    place++;
                } else {
                    after = swapped(after, place);
                    place += 2;
                }
            }
            return after;
        }

        private static int swapped(int row, int place) {
            int unlike = bellIn(row, place) ^ bellIn(row, place + 1);
            return row ^ unlike << 3 * place ^ unlike << 3 * (place + 1);
        }

        /** The row which those changes lead to a row that lead from rounds to the row 'way'. */
        static int originOf(int row, int way, int stage) {
            int origin = 0;
            for (int place = 0; place < stage; place++) {
                origin |= bellIn(row, place) << 3 * bellIn(way, place);
            }
            return origin;
        }
    }

    private static final class Method {
        final int number;
        final int stage;
        final int length;
        int falseCount;
        private final int[] changes;
        private final int[] lastChanges;
        private final int[] falseNumbers;

        Method(int number, int stage, int[] draft, int length) {
            this.number = number;
            this.stage = stage;
            this.length = length;
            changes = new int[MOST_CHANGES];
            lastChanges = new int[CALLS];
            falseNumbers = new int[MOST_FALSE_ROWS];
            for (int place = 0; place < length; place++) {
                changes[place] = draft[place];
            }
            for (int call = PLAIN; call < CALLS; call++) {
                lastChanges[call] = draft[length - 1];
            }
            gatherFalseRows();
        }

        int changeOf(int call, int place) {
            if (place >= length) {
                return NONE;
            }
            return place == length - 1 ? lastChanges[call] : changes[place];
        }

        void setLastChange(int call, int places) {
            lastChanges[call] = places;
        }

        int lastRow(int start, int call) {
            int row = start;
            for (int place = 0; place < length; place++) {
                row = Rows.afterChange(row, changeOf(call, place), stage);
            }
            return row;
        }

        int leadsToRounds() {
            int rounds = Rows.rounds(stage);
            int row = lastRow(rounds, PLAIN);
            int count = 1;
            while (row != rounds && count < ROWS_OF_ALL_BELLS) {
                row = lastRow(row, PLAIN);
                count++;
            }
            return count;
        }

        /** The next greater call that leads to other rows than all lesser ones. */
        int nextUnlikeCall(int call) {
            for (int next = call + 1; next < CALLS; next++) {
                if (!isLikeLesserCall(next)) {
                    return next;
                }
            }
            return NONE;
        }

        private boolean isLikeLesserCall(int call) {
            for (int lesser = PLAIN; lesser < call; lesser++) {
                if (lastChanges[lesser] == lastChanges[call]) {
                    return true;
                }
            }
            return false;
        }

        boolean hasFalse(int row) {
            for (int index = 0; index < falseCount; index++) {
                if (falseNumbers[index] == row) {
                    return true;
                }
            }
            return false;
        }

        private void gatherFalseRows() {
            int[] leadRows = new int[MOST_CHANGES];
            int row = Rows.rounds(stage);
            for (int place = 0; place < length; place++) {
                row = Rows.afterChange(row, changes[place], stage);
                leadRows[place] = row;
            }
            for (int shared = 0; shared < length; shared++) {
                for (int way = 0; way < length; way++) {
                    int origin = Rows.originOf(leadRows[shared], leadRows[way], stage);
                    noteFalse(Rows.number(origin, stage));
                }
            }
        }

        private void noteFalse(int row) {
            if (row != 0 && !hasFalse(row) && falseCount < MOST_FALSE_ROWS) {
                falseNumbers[falseCount] = row;
                falseCount++;
            }
        }
    }

    /** A touch, or the draft of one; its rows are kept from one writing to the next. */
    private static final class Touch {
        int number;
        int stage;
        int rowCount;
        int repeat;
        int repeatLead;
        boolean endsInRounds;
        final ArrayList<Method> leadMethods;
        final int[] leadCalls;
        final int[] keptRows;

        Touch() {
            number = NONE;
            repeat = NONE;
            repeatLead = NONE;
            leadMethods = new ArrayList<>();
            leadCalls = new int[MOST_LEADS];
            keptRows = new int[MOST_ROWS];
        }

        int leadCount() {
            return leadMethods.size();
        }

        boolean takesLead(Method method) {
            if (leadMethods.isEmpty()) {
                return true;
            }
            return leadMethods.size() < MOST_LEADS && method.stage == stage;
        }

        void addLead(Method method, int call) {
            stage = method.stage;
            leadCalls[leadMethods.size()] = call;
            leadMethods.add(method);
        }

        void clear() {
            leadMethods.clear();
        }

        /** Writes the rows from a lead on; those ahead of it must be written already, and be all unlike. */
        void writeFrom(int firstLead, Prover prover) {
            rowCount = 0;
            repeat = NONE;
            repeatLead = NONE;
            for (int lead = 0; lead < leadMethods.size(); lead++) {
                if (lead < firstLead) {
                    rowCount += leadMethods.get(lead).length;
                } else {
                    writeLead(lead, prover);
                }
            }
            endsInRounds = lastRow() == Rows.rounds(stage);
        }

        private void writeLead(int lead, Prover prover) {
            Method method = leadMethods.get(lead);
            int row = lastRow();
            for (int place = 0; place < method.length && rowCount < MOST_ROWS; place++) {
                row = Rows.afterChange(row, method.changeOf(leadCalls[lead], place), stage);
                keptRows[rowCount] = row;
                if (repeat == NONE && prover.isRepeat(keptRows, rowCount, stage)) {
                    repeat = rowCount;
                    repeatLead = lead;
                }
                rowCount++;
            }
        }

        private int lastRow() {
            return rowCount == 0 ? Rows.rounds(stage) : keptRows[rowCount - 1];
        }

        int rowAnew(int index) {
            int row = Rows.rounds(stage);
            int written = 0;
            for (int lead = 0; lead < leadMethods.size(); lead++) {
                Method method = leadMethods.get(lead);
                for (int place = 0; place < method.length && written <= index; place++) {
                    row = Rows.afterChange(row, method.changeOf(leadCalls[lead], place), stage);
                    written++;
                }
            }
            return row;
        }

        boolean isSound() {
            return repeat == NONE && endsInRounds;
        }

        boolean isFit(int bellsOut) {
            int needed = (1 << stage) - 1;
            return isSound() && (bellsOut & needed) == 0;
        }
    }

    /** Finds rows that were there before. What it knows of other rows need not be cleared: it looks if it still holds. */
    private static final class Prover {
        private final int[] firstAt;

        Prover() {
            firstAt = new int[ROWS_OF_ALL_BELLS];
        }

        /** To be asked of all rows in their order, up to the first that is a repeat. */
        boolean isRepeat(int[] rows, int index, int stage) {
            int number = Rows.number(rows[index], stage);
            int first = firstAt[number];
            if (first < index && rows[first] == rows[index]) {
                return true;
            }
            firstAt[number] = index;
            return false;
        }
    }

    private static final class Composer {
        private final Prover prover;
        private Touch trial;

        Composer(Prover prover) {
            this.prover = prover;
            trial = new Touch();
        }

        /** The touch of the least calls that is sound; null if there is none. */
        Touch soundTouch(Method method, int leadCount) {
            trial.clear();
            for (int lead = 0; lead < leadCount; lead++) {
                trial.addLead(method, PLAIN);
            }
            int changed = 0;
            for (int way = 0; way < WAYS_TO_CALL && changed != NONE; way++) {
                trial.writeFrom(changed, prover);
                if (trial.isSound()) {
                    return handOutTrial();
                }
                // whatever is called behind a lead with a repeat, the repeat stays
                changed = callNext(method, trial.repeat == NONE ? leadCount - 1 : trial.repeatLead);
            }
            return null;
        }

        private Touch handOutTrial() {
            Touch found = trial;
            trial = new Touch();
            return found;
        }

        /** Goes on from a lead, all behind it being PLAIN, to the next greater calls; returns the first lead changed. */
        private int callNext(Method method, int lastLead) {
            for (int lead = lastLead; lead >= 0; lead--) {
                int next = method.nextUnlikeCall(trial.leadCalls[lead]);
                if (next != NONE) {
                    trial.leadCalls[lead] = next;
                    return lead;
                }
                trial.leadCalls[lead] = PLAIN;
            }
            return NONE;
        }
    }

    private static final class Bell {
        boolean takenOut;
        int latePulls;
        int earlyPulls;
        int errorSum;
        int pulls;
        final int[] wearOf;
        private final boolean[] wornOut;
        private final int[] pullTimes;

        Bell() {
            wearOf = new int[PARTS];
            wornOut = new boolean[PARTS];
            pullTimes = new int[MOST_ROWS];
        }

        boolean isUsable() {
            return !takenOut && !wornOut[ROPE] && !wornOut[CLAPPER];
        }

        int renew(int part) {
            int before = wearOf[part];
            wearOf[part] = 0;
            wornOut[part] = false;
            return before;
        }

        void strike(int row) {
            wearOf[ROPE] += row % 2 == 0 ? 1 : 2;
            wearOf[CLAPPER] += 1;
        }

        /** Tells whether a part is worn out that was not so far. */
        boolean noteWornOut() {
            boolean rope = !wornOut[ROPE] && wearOf[ROPE] >= ROPE_LASTS;
            boolean clapper = !wornOut[CLAPPER] && wearOf[CLAPPER] >= CLAPPER_LASTS;
            wornOut[ROPE] |= rope;
            wornOut[CLAPPER] |= clapper;
            return rope || clapper;
        }

        void hearPull(int time) {
            if (pulls < MOST_ROWS) {
                pullTimes[pulls] = time;
                strike(pulls);
                pulls++;
            }
        }

        int pullTime(int row) {
            return pullTimes[row];
        }

        boolean hasRoomForError(int error) {
            long sum = (long) errorSum + error;
            return sum == (int) sum;
        }

        void noteError(int error, int quarterGap) {
            errorSum += error;
            if (error > quarterGap) {
                latePulls++;
            } else if (error < -quarterGap) {
                earlyPulls++;
            }
        }
    }

    private static final class Belfry {
        final Bell[] bells;

        Belfry() {
            bells = new Bell[BELLS];
            for (int bell = 0; bell < BELLS; bell++) {
                bells[bell] = new Bell();
            }
        }

        /** The set of the bells that are out: the bell b counts 2 to the power of b. */
        int bellsOut() {
            int out = 0;
            for (int bell = 0; bell < BELLS; bell++) {
                if (!bells[bell].isUsable()) {
                    out |= 1 << bell;
                }
            }
            return out;
        }

        boolean noteWornOut() {
            boolean any = false;
            for (int bell = 0; bell < BELLS; bell++) {
                any |= bells[bell].noteWornOut();
            }
            return any;
        }

        void forgetPulls() {
            for (int bell = 0; bell < BELLS; bell++) {
                bells[bell].pulls = 0;
            }
        }
    }

    private static final class Day {
        final ArrayList<Touch> touchesInOrder;

        Day() {
            touchesInOrder = new ArrayList<>();
        }

        boolean hasTouch(Touch touch) {
            for (int place = 0; place < touchesInOrder.size(); place++) {
                if (touchesInOrder.get(place) == touch) {
                    return true;
                }
            }
            return false;
        }

        boolean takesTouch(Touch touch) {
            return touchesInOrder.size() < MOST_PLANNED && !hasTouch(touch);
        }

        int greatestStage() {
            int greatest = 0;
            for (int place = 0; place < touchesInOrder.size(); place++) {
                greatest = Math.max(greatest, touchesInOrder.get(place).stage);
            }
            return greatest;
        }

        void takeAway(Touch touch) {
            for (int place = touchesInOrder.size() - 1; place >= 0; place--) {
                if (touchesInOrder.get(place) == touch) {
                    touchesInOrder.remove(place);
                }
            }
        }

        int dropUnfit(int bellsOut) {
            int before = touchesInOrder.size();
            for (int place = before - 1; place >= 0; place--) {
                if (!touchesInOrder.get(place).isFit(bellsOut)) {
                    touchesInOrder.remove(place);
                }
            }
            return before - touchesInOrder.size();
        }
    }

    private static final class Rota {
        final int[] sizes;
        final Day[] days;
        int thisDay;
        int droppedCount;
        private int turn;
        private int keptBand;

        Rota() {
            sizes = new int[BANDS];
            for (int band = 0; band < BANDS; band++) {
                sizes[band] = BELLS;
            }
            days = new Day[LAST_DAY + 1];
            for (int day = 0; day <= LAST_DAY; day++) {
                days[day] = new Day();
            }
            keptBand = NONE;
        }

        int bandFor(int day) {
            int band = NONE;
            int from = turn;
            for (int next = thisDay; next <= day && next <= LAST_DAY; next++) {
                boolean isKept = next == thisDay && keptBand != NONE;
                band = isKept ? keptBand : firstBand(from, days[next].greatestStage());
                from = turnBehind(band, from);
            }
            return band;
        }

        private int firstBand(int from, int greatestStage) {
            if (greatestStage == 0) {
                return NONE;
            }
            for (int step = 0; step < BANDS; step++) {
                int band = (from + step) % BANDS;
                if (sizes[band] >= greatestStage) {
                    return band;
                }
            }
            return NONE;
        }

        private static int turnBehind(int band, int turnBefore) {
            return band == NONE ? turnBefore : (band + 1) % BANDS;
        }

        boolean canRingToday(Touch touch) {
            int band = bandFor(thisDay);
            return band != NONE && sizes[band] >= touch.stage && days[thisDay].hasTouch(touch);
        }

        void keepBandOfToday() {
            keptBand = bandFor(thisDay);
        }

        void endDay() {
            turn = turnBehind(bandFor(thisDay), turn);
            keptBand = NONE;
            days[thisDay].touchesInOrder.clear();
            thisDay++;
        }

        void takeFromToday(Touch touch) {
            days[thisDay].takeAway(touch);
        }

        int dropUnfit(int bellsOut) {
            int count = 0;
            for (int day = thisDay; day <= LAST_DAY; day++) {
                count += days[day].dropUnfit(bellsOut);
            }
            droppedCount += count;
            return count;
        }
    }

    private static final class Ringing {
        final Touch touch;
        int doneRows;
        int waited;
        private final Bell[] bells;
        private final int people;
        private final int gap;

        Ringing(Touch touch, Bell[] bells, int people, int gap) {
            this.touch = touch;
            this.bells = bells;
            this.people = people;
            this.gap = gap;
        }

        private boolean isByPeople(int bell) {
            return (people >> bell & 1) == 1;
        }

        int quarterGap() {
            return gap / 4;
        }

        boolean awaitsPull(int bell) {
            return isByPeople(bell) && bells[bell].pulls < touch.rowCount;
        }

        int nextDue(int bell) {
            int row = bells[bell].pulls;
            return dueAt(row, Rows.placeOf(touch.keptRows[row], bell, touch.stage));
        }

        private int dueAt(int row, int place) {
            return gap * (touch.stage * row + place + row / 2) + waited;
        }

        boolean canWait(int error, int patience) {
            return error <= patience || (long) waited + error - patience <= MOST_TIME;
        }

        void waitFor(int error, int patience) {
            if (error > patience) {
                waited += error - patience;
            }
        }

        boolean areAllRowsDone() {
            return doneRows >= touch.rowCount;
        }

        boolean isNextRowReady() {
            if (areAllRowsDone()) {
                return false;
            }
            for (int bell = 0; bell < touch.stage; bell++) {
                if (isByPeople(bell) && bells[bell].pulls <= doneRows) {
                    return false;
                }
            }
            return true;
        }

        /** Does the next row, which must be ready; tells whether it is wrong. */
        boolean doNextRow() {
            boolean isWrong = false;
            int timeAhead = -1;
            for (int place = 0; place < touch.stage; place++) {
                int time = timeOfBlow(place);
                isWrong |= time <= timeAhead;
                timeAhead = time;
            }
            doneRows++;
            return isWrong;
        }

        private int timeOfBlow(int place) {
            int bell = Rows.bellIn(touch.keptRows[doneRows], place);
            if (isByPeople(bell)) {
                return bells[bell].pullTime(doneRows);
            }
            bells[bell].strike(doneRows);
            return dueAt(doneRows, place);
        }
    }
}
