/**
 * A sorter with a scanner: parts enter a belt, are tracked with their gaps, are read by a scanner
 * behind which long parts leave a shadow, and are diverted into lanes within windows.
 */
public final class PickScanner {
    public static final int NONE = -1;

    private static final int MOST_SAVED = 6;
    private static final int MOST_LANES = 6;
    private static final int MOST_ROUTES = 30;
    private static final int MOST_ON_BELT = 20;
    private static final int MOST_PARTS = 300;
    private static final int MOST_DISTANCE = 50000;
    private static final int MOST_MILLIMETERS = 500;
    private static final int MOST_SIGNS = 80;
    private static final int MOST_DIGITS = 3;
    private static final int MOST_NESTED = 6;
    private static final int GREATEST_CODE = 999;
    private static final int LEAST_LENGTH = 10;
    private static final int GREATEST_LENGTH = 400;
    private static final int GREATEST_POSITION = 4999;
    private static final int GREATEST_WINDOW = 200;
    private static final int GREATEST_CAPACITY = 50;
    private static final int FIRST_SIGN = 32;
    private static final int LAST_SIGN = 126;
    /** Farther than any part on the belt still has to go, and than any lane can be away. */
    private static final int FAR = 1000000;

    private static final int SCANNER = 0;
    private static final int SHADOW = 1;
    private static final int DOUBLE_DISTANCE = 2;
    private static final int GAP = 3;
    private static final int END = 4;
    private static final int MERGE_GAP = 5;
    private static final int SETTINGS = 6;
    private static final int[] INITIAL_SETTINGS = {300, 20, 50, 40, 2000, 5};
    private static final int[] LEAST_SETTINGS = {50, 0, 0, 0, 1000, 0};
    private static final int[] GREATEST_SETTINGS = {1000, 200, 500, 500, 5000, 100};

    private static final int LENGTH = 0;
    private static final int FATE = 1;
    private static final int FRONT = 2;
    private static final int CODE = 3;
    private static final int CONFLICTING = 4;
    private static final int MERGED = 5;
    private static final int REPEATS = 6;
    private static final int DOUBLES = 7;
    private static final int PRESENT_LANE = 8;
    private static final int FAILURE = 9;
    private static final int PART_PROPERTIES = 10;
    private static final int LANE_PROPERTIES = 6;
    private static final int ROUTES_TO_LANE = 5;

    private static final int ON_BELT = 0;
    private static final int LOST_WITHOUT_CODE = 1;
    private static final int LOST_CONFLICTING = 2;
    private static final int LOST_MERGED = 3;
    private static final int LOST_UNTRIED = 4;
    private static final int GAP_TOO_SMALL = 5;
    private static final int LANE_FULL = 6;
    private static final int TAKEN_OFF = 9;
    private static final int DIVERTED = 10;

    private final State now;
    /** What would be is tried out here, so that nothing changes. */
    private final State trial;
    /** The states from before earlier calls, the oldest one first. */
    private final State[] saved = new State[MOST_SAVED];
    private int savedCount;
    private final LeftParts left = new LeftParts();
    private final RuleText buffer = new RuleText();
    /** The text is read into this rule; once it is loaded, the states share it, and it stays as it is. */
    private Rule draft = new Rule();

    public PickScanner() {
        Rule nowhere = new Rule();
        nowhere.addLeaf(NONE);
        now = new State(nowhere);
        trial = new State(nowhere);
        for (int i = 0; i < MOST_SAVED; i++) {
            saved[i] = new State(nowhere);
        }
    }

    // ---- settings, lanes, routes

    public int set(int index, int value) throws IndexOutOfBoundsException, IllegalArgumentException, IllegalStateException {
        if (index < 0 || index >= SETTINGS) {
            throw new IndexOutOfBoundsException("there is no such setting");
        }
        if (value < LEAST_SETTINGS[index] || value > GREATEST_SETTINGS[index]) {
            throw new IllegalArgumentException("the value is out of the setting's range");
        }
        if (now.onBelt > 0) {
            throw new IllegalStateException("there are parts on the belt");
        }
        save();
        int previous = now.settings[index];
        now.settings[index] = value;
        return previous;
    }

    public int addLane(int position, int window, int capacity) throws IllegalArgumentException, IllegalStateException {
        if (position < 1 || position > GREATEST_POSITION) {
            throw new IllegalArgumentException("the position is out of range");
        }
        if (window < 1 || window > GREATEST_WINDOW) {
            throw new IllegalArgumentException("the window is out of range");
        }
        if (capacity < 1 || capacity > GREATEST_CAPACITY) {
            throw new IllegalArgumentException("the capacity is out of range");
        }
        if (now.laneCount >= MOST_LANES) {
            throw new IllegalStateException("there is no room for another lane");
        }
        save();
        int lane = now.laneCount;
        now.lanes[lane].begin(position, window, capacity);
        now.laneCount++;
        return lane;
    }

    public int emptyLane(int lane) throws IndexOutOfBoundsException {
        if (!now.hasLane(lane)) {
            throw new IndexOutOfBoundsException("there is no such lane");
        }
        save();
        int content = now.lanes[lane].content;
        now.lanes[lane].content = 0;
        return content;
    }

    public int route(int code, int lane) throws IllegalArgumentException, IndexOutOfBoundsException, IllegalStateException {
        if (code < 0 || code > GREATEST_CODE) {
            throw new IllegalArgumentException("the code is out of range");
        }
        if (!now.hasLane(lane)) {
            throw new IndexOutOfBoundsException("there is no such lane");
        }
        int previous = now.routes.laneOf(code);
        if (previous == NONE && now.routes.count >= MOST_ROUTES) {
            throw new IllegalStateException("there is no room for another route");
        }
        save();
        now.routes.put(code, lane);
        return previous;
    }

    public int removeRoute(int code) throws IllegalArgumentException, IllegalStateException {
        if (code < 0 || code > GREATEST_CODE) {
            throw new IllegalArgumentException("the code is out of range");
        }
        int lane = now.routes.laneOf(code);
        if (lane == NONE) {
            throw new IllegalStateException("there is no route of this code");
        }
        save();
        now.routes.drop(code);
        return lane;
    }

    // ---- the belt

    public int enter(int length) throws IllegalArgumentException, IllegalStateException {
        if (length < LEAST_LENGTH || length > GREATEST_LENGTH) {
            throw new IllegalArgumentException("the length is out of range");
        }
        if (now.freeAtEntry() < 0) {
            throw new IllegalStateException("the entry is not free");
        }
        if (now.onBelt >= MOST_ON_BELT || now.entered >= MOST_PARTS) {
            throw new IllegalStateException("there is no room for another part");
        }
        save();
        return now.beginPart(length);
    }

    public int read(int code) throws IllegalArgumentException {
        if (code < 0 || code > GREATEST_CODE) {
            throw new IllegalArgumentException("the code is out of range");
        }
        save();
        Part owner = now.ownerOfRead();
        if (owner == null) {
            now.strayReads++;
            return NONE;
        }
        owner.accept(code, now.distance, now.settings[DOUBLE_DISTANCE]);
        return owner.number;
    }

    public int move(int millimeters) throws IllegalArgumentException, IllegalStateException {
        if (millimeters < 1 || millimeters > MOST_MILLIMETERS) {
            throw new IllegalArgumentException("the number of millimeters is out of range");
        }
        if (now.distance + millimeters > MOST_DISTANCE) {
            throw new IllegalStateException("the belt can't move so far");
        }
        save();
        int before = now.onBelt;
        now.aimParts();
        int passed = 0;
        for (int round = 0; round < millimeters && passed < millimeters; round++) {
            passed += now.stride(millimeters - passed);
        }
        keepDeparted(before);
        return before - now.onBelt;
    }

    public int takeOff(int part) throws IndexOutOfBoundsException, IllegalStateException {
        if (!hasEntered(part)) {
            throw new IndexOutOfBoundsException("no such part has entered");
        }
        int place = now.placeOf(part);
        if (place == NONE) {
            throw new IllegalStateException("the part is not on the belt");
        }
        save();
        int before = now.onBelt;
        int front = now.parts[place].front;
        now.leave(place, TAKEN_OFF);
        keepDeparted(before);
        return front;
    }

    public int undo() throws IllegalStateException {
        if (savedCount <= 0) {
            throw new IllegalStateException("no state is saved");
        }
        savedCount--;
        now.copyFrom(saved[savedCount]);
        return savedCount;
    }

    // ---- what there is

    public int part(int part, int property) throws IndexOutOfBoundsException, IllegalArgumentException {
        if (!hasEntered(part)) {
            throw new IndexOutOfBoundsException("no such part has entered");
        }
        if (property < 0 || property >= PART_PROPERTIES) {
            throw new IllegalArgumentException("there is no such property");
        }
        return partProperty(part, property);
    }

    public int lane(int lane, int property) throws IndexOutOfBoundsException, IllegalArgumentException {
        if (!now.hasLane(lane)) {
            throw new IndexOutOfBoundsException("there is no such lane");
        }
        if (property < 0 || property >= LANE_PROPERTIES) {
            throw new IllegalArgumentException("there is no such property");
        }
        return property == ROUTES_TO_LANE ? now.routes.countTo(lane) : now.lanes[lane].property(property);
    }

    public int total(int property) throws IllegalArgumentException {
        switch (property) {
            case 0: return now.distance;
            case 1: return now.entered;
            case 2: return now.onBelt;
            case 3: return countFates(DIVERTED, DIVERTED + MOST_LANES - 1);
            case 4: return countFates(LOST_WITHOUT_CODE, LANE_FULL);
            case 5: return countFates(TAKEN_OFF, TAKEN_OFF);
            case 6: return now.laneCount;
            case 7: return now.routes.count;
            case 8: return now.strayReads;
            case 9: return sumOverParts(DOUBLES);
            case 10: return sumOverParts(REPEATS);
            case 11: return sumOverParts(CONFLICTING);
            case 12: return sumOverParts(MERGED);
            case 13: return savedCount;
            case 14: return buffer.length;
            default: throw new IllegalArgumentException("there is no such total");
        }
    }

    public int lost(int reason) throws IllegalArgumentException {
        if (reason < LOST_WITHOUT_CODE || reason > LANE_FULL) {
            throw new IllegalArgumentException("there is no such reason");
        }
        return countFates(reason, reason);
    }

    public int setting(int index) throws IndexOutOfBoundsException {
        if (index < 0 || index >= SETTINGS) {
            throw new IndexOutOfBoundsException("there is no such setting");
        }
        return now.settings[index];
    }

    public int routeAt(int index) throws IllegalArgumentException {
        if (index < 0) {
            throw new IllegalArgumentException("the index is negative");
        }
        return now.routes.codeAndLane(index);
    }

    public int gapAhead(int part) throws IndexOutOfBoundsException, IllegalStateException {
        if (!hasEntered(part)) {
            throw new IndexOutOfBoundsException("no such part has entered");
        }
        int place = now.placeOf(part);
        if (place == NONE) {
            throw new IllegalStateException("the part is not on the belt");
        }
        return place == 0 ? NONE : now.gapBetween(place - 1, place);
    }

    public int ranked(int rank) throws IllegalArgumentException {
        if (rank < 0) {
            throw new IllegalArgumentException("the rank is negative");
        }
        now.aimParts();
        for (int place = 0; place < now.onBelt; place++) {
            if (now.rankOf(place) == rank) {
                return now.parts[place].number;
            }
        }
        return NONE;
    }

    public double share() {
        int gone = now.entered - now.onBelt;
        if (gone <= 0) {
            return 1.0;
        }
        return (double) countFates(DIVERTED, DIVERTED + MOST_LANES - 1) / (double) gone;
    }

    // ---- what would be, if nothing else is done; nothing changes, and the limit of the distance does not apply

    public int fateOf(int part) throws IndexOutOfBoundsException {
        if (!hasEntered(part)) {
            throw new IndexOutOfBoundsException("no such part has entered");
        }
        startTrial();
        int place = trial.placeOf(part);
        if (place == NONE) {
            return partProperty(part, FATE);
        }
        Part subject = trial.parts[place];
        for (int round = 0; round < FAR && subject.fate == ON_BELT; round++) {
            trial.stride(FAR);
        }
        return subject.fate;
    }

    public int entryIn() {
        startTrial();
        int passed = 0;
        for (int round = 0; round < FAR; round++) {
            int missing = trial.settings[MERGE_GAP] - trial.freeAtEntry();
            if (missing <= 0) {
                break;
            }
            passed += trial.stride(missing);
        }
        return passed;
    }

    public int nextLeaving() {
        int before = now.onBelt;
        if (before == 0) {
            return NONE;
        }
        startTrial();
        int passed = 0;
        for (int round = 0; round < FAR && trial.onBelt == before; round++) {
            passed += trial.stride(FAR);
        }
        return passed;
    }

    public int laneFor(int code, int length) throws IllegalArgumentException {
        if (code < 0 || code > GREATEST_CODE) {
            throw new IllegalArgumentException("the code is out of range");
        }
        if (length < LEAST_LENGTH || length > GREATEST_LENGTH) {
            throw new IllegalArgumentException("the length is out of range");
        }
        return now.laneGiven(code, length);
    }

    // ---- rule texts

    public int append(int code) throws IllegalArgumentException, IllegalStateException {
        if (code < FIRST_SIGN || code > LAST_SIGN) {
            throw new IllegalArgumentException("the character's code is out of range");
        }
        if (buffer.length >= MOST_SIGNS) {
            throw new IllegalStateException("the text is full");
        }
        buffer.add(code);
        return buffer.length;
    }

    public int clear() {
        int length = buffer.length;
        buffer.length = 0;
        return length;
    }

    public int errorPosition() {
        return buffer.parseInto(draft);
    }

    public int load() throws IllegalStateException {
        if (buffer.parseInto(draft) != NONE) {
            throw new IllegalStateException("the text is not a rule");
        }
        save();
        now.rule = draft;
        draft = new Rule();
        buffer.length = 0;
        return now.rule.questions;
    }

    // ---- helpers of the calls above

    private void save() {
        if (savedCount >= MOST_SAVED) {
            dropOldestSaved();
        }
        saved[savedCount].copyFrom(now);
        savedCount++;
    }

    /** The dropped state's object goes to the end of the row, where it is used again. */
    private void dropOldestSaved() {
        State oldest = saved[0];
        for (int i = 1; i < MOST_SAVED; i++) {
            saved[i - 1] = saved[i];
        }
        saved[MOST_SAVED - 1] = oldest;
        savedCount = MOST_SAVED - 1;
    }

    private boolean hasEntered(int part) {
        return part >= 0 && part < now.entered;
    }

    /** The parts that have left the belt since there were so many on it stand behind those that stayed. */
    private void keepDeparted(int before) {
        for (int place = now.onBelt; place < before && place < MOST_ON_BELT; place++) {
            left.keep(now.parts[place]);
        }
    }

    private int partProperty(int part, int property) {
        int place = now.placeOf(part);
        if (place == NONE) {
            return left.propertyOf(part, property);
        }
        return property == PRESENT_LANE ? now.laneOf(now.parts[place]) : now.parts[place].property(property);
    }

    private int sumOverParts(int property) {
        int sum = 0;
        for (int part = 0; part < now.entered; part++) {
            sum += partProperty(part, property);
        }
        return sum;
    }

    private int countFates(int least, int greatest) {
        int count = 0;
        for (int part = 0; part < now.entered; part++) {
            int fate = partProperty(part, FATE);
            if (fate >= least && fate <= greatest) {
                count++;
            }
        }
        return count;
    }

    private void startTrial() {
        trial.copyFrom(now);
        trial.aimParts();
    }

    /** All that an undo restores, but for the records of the parts that have left. */
    private static final class State {
        final int[] settings = INITIAL_SETTINGS.clone();
        final Lane[] lanes = new Lane[MOST_LANES];
        int laneCount;
        final Routes routes = new Routes();
        Rule rule;
        /** Those on the belt come first, the greatest front first; the other objects wait for new parts. */
        final Part[] parts = new Part[MOST_ON_BELT];
        int onBelt;
        int entered;
        int distance;
        int strayReads;
        /** While the belt moves: no part has left in the latest millimeter, so that gaps and contents are as they were. */
        private boolean settled;

        State(Rule firstRule) {
            rule = firstRule;
            for (int i = 0; i < MOST_LANES; i++) {
                lanes[i] = new Lane();
            }
            for (int i = 0; i < MOST_ON_BELT; i++) {
                parts[i] = new Part();
            }
        }

        void copyFrom(State other) {
            System.arraycopy(other.settings, 0, settings, 0, SETTINGS);
            laneCount = other.laneCount;
            for (int i = 0; i < MOST_LANES; i++) {
                lanes[i].copyFrom(other.lanes[i]);
            }
            routes.copyFrom(other.routes);
            rule = other.rule;
            onBelt = other.onBelt;
            for (int i = 0; i < MOST_ON_BELT; i++) {
                parts[i].copyFrom(other.parts[i]);
            }
            entered = other.entered;
            distance = other.distance;
            strayReads = other.strayReads;
        }

        boolean hasLane(int lane) {
            return lane >= 0 && lane < laneCount;
        }

        /** The place of a part in the row of those on the belt, NONE if it is not there. */
        int placeOf(int number) {
            for (int place = 0; place < onBelt; place++) {
                if (parts[place].number == number) {
                    return place;
                }
            }
            return NONE;
        }

        int gapBetween(int ahead, int behind) {
            return parts[ahead].tail() - parts[behind].front;
        }

        /** The tail of the part that entered last of those on the belt; FAR if the belt is empty. */
        int freeAtEntry() {
            return onBelt > 0 ? parts[onBelt - 1].tail() : FAR;
        }

        /** Lets a part enter where there is room for it; answers its number. */
        int beginPart(int length) {
            if (onBelt >= MOST_ON_BELT) {
                return NONE;
            }
            int number = entered;
            Part entering = parts[onBelt];
            entering.begin(number, length);
            if (onBelt > 0 && freeAtEntry() < settings[MERGE_GAP]) {
                entering.merged = true;
                parts[onBelt - 1].merged = true;
            }
            onBelt++;
            entered++;
            return number;
        }

        /** The part to which a code belongs that is read now; null if it would be stray. */
        Part ownerOfRead() {
            int scanner = settings[SCANNER];
            Part shadowing = null;
            Part scanned = null;
            for (int place = 0; place < onBelt; place++) {
                Part candidate = parts[place];
                int tail = candidate.tail();
                if (tail >= scanner && tail < scanner + settings[SHADOW]) {
                    // Tails get smaller from place to place, so that the last one found has the smallest.
                    shadowing = candidate;
                }
                if (tail < scanner && candidate.front >= scanner) {
                    scanned = candidate;
                }
            }
            if (shadowing != null && (shadowing.code == NONE || scanned == null)) {
                return shadowing;
            }
            return scanned;
        }

        int laneOf(Part candidate) {
            if (candidate.code == NONE || candidate.conflicting || candidate.merged) {
                return NONE;
            }
            return laneGiven(candidate.code, candidate.length);
        }

        int laneGiven(int code, int length) {
            int lane = routes.laneOf(code);
            if (lane == NONE) {
                lane = rule.laneBy(code, length);
            }
            return hasLane(lane) ? lane : NONE;
        }

        /** Looks up the lanes of all parts on the belt, which stay the same while the belt moves. */
        void aimParts() {
            for (int place = 0; place < onBelt; place++) {
                parts[place].aim = laneOf(parts[place]);
            }
            settled = false;
        }

        /**
         * Moves by 1 to 'most' millimeters, up to the next one in which a part may leave; answers
         * by how many. All fronts move alike, so that in a settled stretch a part that could not be
         * diverted in the latest millimeter would fail in the same way again.
         */
        int stride(int most) {
            int quiet = settled ? Math.max(0, Math.min(quietMillimeters(), most - 1)) : 0;
            advance(quiet + 1);
            int before = onBelt;
            divertParts();
            loseParts();
            settled = onBelt == before;
            return quiet + 1;
        }

        /** The number of millimeters in which no part comes to its lane or to the end. */
        private int quietMillimeters() {
            int quiet = FAR;
            for (int place = 0; place < onBelt; place++) {
                Part candidate = parts[place];
                quiet = Math.min(quiet, settings[END] - 1 - candidate.front);
                if (hasLane(candidate.aim)) {
                    int toLane = lanes[candidate.aim].position - 1 - candidate.middle();
                    if (toLane >= 0) {
                        quiet = Math.min(quiet, toLane);
                    }
                }
            }
            return quiet;
        }

        private void advance(int millimeters) {
            distance += millimeters;
            for (int place = 0; place < onBelt; place++) {
                parts[place].front += millimeters;
            }
        }

        private void divertParts() {
            int place = 0;
            for (int todo = onBelt; todo > 0; todo--) {
                if (diverts(place)) {
                    leave(place, DIVERTED + parts[place].aim);
                } else {
                    place++;
                }
            }
        }

        /** Tries a part if it is in the window of its lane; true if the lane takes it. */
        private boolean diverts(int place) {
            Part candidate = parts[place];
            if (!hasLane(candidate.aim)) {
                return false;
            }
            Lane lane = lanes[candidate.aim];
            if (!lane.covers(candidate.middle())) {
                return false;
            }
            if (!hasGaps(place)) {
                candidate.failure = GAP_TOO_SMALL;
                return false;
            }
            if (!lane.takes()) {
                candidate.failure = LANE_FULL;
                return false;
            }
            return true;
        }

        private boolean hasGaps(int place) {
            if (place > 0 && gapBetween(place - 1, place) < settings[GAP]) {
                return false;
            }
            return place + 1 >= onBelt || gapBetween(place, place + 1) >= settings[GAP];
        }

        /** No part reaches the end before the one with the greatest front. */
        private void loseParts() {
            for (int todo = onBelt; todo > 0 && parts[0].front >= settings[END]; todo--) {
                leave(0, parts[0].reason());
            }
        }

        /** Puts a part behind those that stay on the belt, where its object is found until a part enters. */
        void leave(int place, int fate) {
            if (place < 0 || place >= onBelt) {
                return;
            }
            Part gone = parts[place];
            gone.fate = fate;
            onBelt--;
            for (int i = place; i < onBelt; i++) {
                parts[i] = parts[i + 1];
            }
            parts[onBelt] = gone;
        }

        /** The number of parts on the belt that rank before this one; aimParts comes first. */
        int rankOf(int place) {
            int rank = 0;
            int own = distanceToLane(place);
            for (int other = 0; other < onBelt; other++) {
                int others = distanceToLane(other);
                // Numbers grow from place to place.
                if (others < own || others == own && other < place) {
                    rank++;
                }
            }
            return rank;
        }

        private int distanceToLane(int place) {
            Part candidate = parts[place];
            return hasLane(candidate.aim) ? lanes[candidate.aim].position - candidate.middle() : FAR;
        }
    }

    private static final class Part {
        int number;
        int length;
        int front;
        int fate;
        int code = NONE;
        boolean conflicting;
        boolean merged;
        int repeats;
        int doubles;
        int failure;
        /** How far the belt had moved at the latest read that was no double. */
        private int readAt;
        /** The lane as it was looked up last; good only until something else changes. */
        int aim = NONE;

        void begin(int newNumber, int newLength) {
            number = newNumber;
            length = newLength;
            front = 0;
            fate = ON_BELT;
            code = NONE;
            conflicting = false;
            merged = false;
            repeats = 0;
            doubles = 0;
            failure = 0;
            readAt = 0;
            aim = NONE;
        }

        void copyFrom(Part other) {
            number = other.number;
            length = other.length;
            front = other.front;
            fate = other.fate;
            code = other.code;
            conflicting = other.conflicting;
            merged = other.merged;
            repeats = other.repeats;
            doubles = other.doubles;
            failure = other.failure;
            readAt = other.readAt;
            aim = other.aim;
        }

        int tail() {
            return front - length;
        }

        int middle() {
            return front - length / 2;
        }

        void accept(int read, int distance, int doubleDistance) {
            if (code == read && distance - readAt <= doubleDistance) {
                doubles++;
                return;
            }
            if (code == NONE) {
                code = read;
            } else if (code == read) {
                repeats++;
            } else {
                conflicting = true;
            }
            readAt = distance;
        }

        /** With this reason the part is lost, if it reaches the end now. */
        int reason() {
            if (code == NONE) {
                return LOST_WITHOUT_CODE;
            }
            if (conflicting) {
                return LOST_CONFLICTING;
            }
            if (merged) {
                return LOST_MERGED;
            }
            return failure == 0 ? LOST_UNTRIED : failure;
        }

        /** All properties but the lane, which a part alone does not know. */
        int property(int property) {
            switch (property) {
                case LENGTH: return length;
                case FATE: return fate;
                case FRONT: return front;
                case CODE: return code;
                case CONFLICTING: return conflicting ? 1 : 0;
                case MERGED: return merged ? 1 : 0;
                case REPEATS: return repeats;
                case DOUBLES: return doubles;
                case FAILURE: return failure;
                default: return NONE;
            }
        }
    }

    /**
     * What is known of the parts that have left the belt. A part that has left does not change any
     * more, so that all saved states share these records; after an undo, the record of a part that
     * is on the belt again is not looked at until the part leaves and is recorded anew.
     */
    private static final class LeftParts {
        private final int[] records = new int[MOST_PARTS * PART_PROPERTIES];

        void keep(Part gone) {
            if (gone.number < 0 || gone.number >= MOST_PARTS) {
                return;
            }
            int start = gone.number * PART_PROPERTIES;
            for (int property = 0; property < PART_PROPERTIES; property++) {
                records[start + property] = gone.property(property);
            }
        }

        int propertyOf(int number, int property) {
            if (number < 0 || number >= MOST_PARTS || property < 0 || property >= PART_PROPERTIES) {
                return NONE;
            }
            return records[number * PART_PROPERTIES + property];
        }
    }

    private static final class Lane {
        int position;
        private int window;
        private int capacity;
        int content;
        private int diverted;

        void begin(int newPosition, int newWindow, int newCapacity) {
            position = newPosition;
            window = newWindow;
            capacity = newCapacity;
            content = 0;
            diverted = 0;
        }

        void copyFrom(Lane other) {
            position = other.position;
            window = other.window;
            capacity = other.capacity;
            content = other.content;
            diverted = other.diverted;
        }

        boolean covers(int middle) {
            return middle >= position && middle < position + window;
        }

        /** Takes a part if there is room for it. */
        boolean takes() {
            if (content >= capacity) {
                return false;
            }
            content++;
            diverted++;
            return true;
        }

        /** All properties but the number of routes, which a lane alone does not know. */
        int property(int property) {
            switch (property) {
                case 0: return position;
                case 1: return window;
                case 2: return capacity;
                case 3: return content;
                case 4: return diverted;
                default: return NONE;
            }
        }
    }

    /** The table of routes, the lowest code first. */
    private static final class Routes {
        private final int[] codes = new int[MOST_ROUTES];
        private final int[] lanes = new int[MOST_ROUTES];
        int count;

        void copyFrom(Routes other) {
            System.arraycopy(other.codes, 0, codes, 0, MOST_ROUTES);
            System.arraycopy(other.lanes, 0, lanes, 0, MOST_ROUTES);
            count = other.count;
        }

        /** The place of the first route whose code is not less than this one. */
        private int placeFor(int code) {
            for (int place = 0; place < count; place++) {
                if (codes[place] >= code) {
                    return place;
                }
            }
            return count;
        }

        int laneOf(int code) {
            int place = placeFor(code);
            return place < count && codes[place] == code ? lanes[place] : NONE;
        }

        /** Changes the route of this code; adds it if there is none and there is room. */
        void put(int code, int lane) {
            int place = placeFor(code);
            boolean isNew = place >= count || codes[place] != code;
            if (isNew && count >= MOST_ROUTES) {
                return;
            }
            if (isNew) {
                for (int i = count; i > place; i--) {
                    codes[i] = codes[i - 1];
                    lanes[i] = lanes[i - 1];
                }
                count++;
            }
            codes[place] = code;
            lanes[place] = lane;
        }

        void drop(int code) {
            int place = placeFor(code);
            if (place >= count || codes[place] != code) {
                return;
            }
            count--;
            for (int i = place; i < count; i++) {
                codes[i] = codes[i + 1];
                lanes[i] = lanes[i + 1];
            }
        }

        int countTo(int lane) {
            int leading = 0;
            for (int place = 0; place < count; place++) {
                if (lanes[place] == lane) {
                    leading++;
                }
            }
            return leading;
        }

        int codeAndLane(int place) {
            return place >= 0 && place < count ? 10 * codes[place] + lanes[place] : NONE;
        }
    }

    /**
     * A rule as a row of nodes in the order of the text: the kind of a condition ('c', 'l' or 'm')
     * with its numbers and the node at which its second rule begins (the first one begins at the
     * next node), or a leaf with its lane.
     */
    private static final class Rule {
        private static final char LEAF = 'x';
        // A node stands for at least one character of the text.
        private final char[] kinds = new char[MOST_SIGNS];
        private final int[] firsts = new int[MOST_SIGNS];
        private final int[] seconds = new int[MOST_SIGNS];
        private final int[] others = new int[MOST_SIGNS];
        private int count;
        int questions;

        void restart() {
            count = 0;
            questions = 0;
        }

        void addLeaf(int lane) {
            addNode(LEAF, lane, 0);
        }

        /** Answers the node of the condition. */
        int addCondition(int kind, int first, int second) {
            questions++;
            return addNode((char) kind, first, second);
        }

        private int addNode(char kind, int first, int second) {
            if (count >= MOST_SIGNS) {
                return NONE;
            }
            kinds[count] = kind;
            firsts[count] = first;
            seconds[count] = second;
            others[count] = NONE;
            count++;
            return count - 1;
        }

        /** The second rule of this condition begins with the node that is added next. */
        void otherwise(int node) {
            if (node >= 0 && node < count) {
                others[node] = count;
            }
        }

        /** The lane that the rule gives, whether there is such a lane or not. */
        int laneBy(int code, int length) {
            int node = 0;
            for (int round = 0; round < MOST_SIGNS; round++) {
                if (node < 0 || node >= count) {
                    return NONE;
                }
                if (kinds[node] == LEAF) {
                    return firsts[node];
                }
                node = holds(kinds[node], firsts[node], seconds[node], code, length) ? node + 1 : others[node];
            }
            return NONE;
        }

        private static boolean holds(char kind, int first, int second, int code, int length) {
            switch (kind) {
                case 'c': return code < first;
                case 'l': return length < first;
                case 'm': return first != 0 && code % first == second;
                default: return false;
            }
        }
    }

    /** The buffer, which reads its text from left to right and stops at the first error. */
    private static final class RuleText {
        private static final int NO_SIGN = -1;
        private final char[] signs = new char[MOST_SIGNS];
        int length;
        /** The place of the sign that is read next. */
        private int at;

        void add(int sign) {
            if (length < MOST_SIGNS) {
                signs[length] = (char) sign;
                length++;
            }
        }

        /** Makes the rule that the text is; answers the error position, NONE if the text is a rule. */
        int parseInto(Rule rule) {
            at = 0;
            rule.restart();
            return takesRule(rule, 0) && at == length ? NONE : at;
        }

        /** 'nested' is the number of "?" around this rule. */
        private boolean takesRule(Rule rule, int nested) {
            int sign = nextSign();
            if (sign == 'x' || sign >= '0' && sign < '0' + MOST_LANES) {
                rule.addLeaf(sign == 'x' ? NONE : sign - '0');
                at++;
                return true;
            }
            return nested < MOST_NESTED && takesChoice(rule, nested);
        }

        private boolean takesChoice(Rule rule, int nested) {
            if (!takesSign('?')) {
                return false;
            }
            int node = takeCondition(rule);
            if (node == NONE || !takesRule(rule, nested + 1)) {
                return false;
            }
            rule.otherwise(node);
            return takesRule(rule, nested + 1);
        }

        /** Answers the node of the condition, NONE at an error. */
        private int takeCondition(Rule rule) {
            int kind = nextSign();
            if (!takesSign('c') && !takesSign('l') && !takesSign('m')) {
                return NONE;
            }
            int first = takeNumber();
            int second = 0;
            if (kind == 'm') {
                // Nothing divides by 0: the comma is not allowed behind it.
                if (first == 0 || first == NONE || !takesSign(',')) {
                    return NONE;
                }
                second = takeNumber();
            }
            if (first == NONE || second == NONE || !takesSign(';')) {
                return NONE;
            }
            return rule.addCondition(kind, first, second);
        }

        /** Answers the number, NONE if there is no digit. */
        private int takeNumber() {
            int number = NONE;
            for (int digits = 0; digits < MOST_DIGITS; digits++) {
                int sign = nextSign();
                if (sign < '0' || sign > '9') {
                    break;
                }
                number = (digits == 0 ? 0 : 10 * number) + sign - '0';
                at++;
            }
            return number;
        }

        private boolean takesSign(int sign) {
            if (nextSign() != sign) {
                return false;
            }
            at++;
            return true;
        }

        private int nextSign() {
            return at >= 0 && at < length && at < MOST_SIGNS ? signs[at] : NO_SIGN;
        }
    }
}
