import java.util.ArrayDeque;
import java.util.ArrayList;
import java.util.Comparator;
import java.util.Deque;
import java.util.List;
import java.util.TreeMap;

/**
 * The document once more, as plainly as can be: every state is copied whole, the belt moves millimeter
 * by millimeter, and lanes are looked up in each of them. It is written apart from PickScanner, so that
 * the two agree by chance in hardly any mistake.
 */
final class NaiveScanner {
    private static final int[][] RANGES = {{50, 1000}, {0, 200}, {0, 500}, {0, 500}, {1000, 5000}, {0, 100}};

    private static final class Item {
        int number;
        int length;
        int front;
        int fate;
        Integer code;
        boolean conflicting;
        boolean merged;
        int repeats;
        int doubles;
        int failure;
        int latest;

        Item copy() {
            Item copy = new Item();
            copy.number = number;
            copy.length = length;
            copy.front = front;
            copy.fate = fate;
            copy.code = code;
            copy.conflicting = conflicting;
            copy.merged = merged;
            copy.repeats = repeats;
            copy.doubles = doubles;
            copy.failure = failure;
            copy.latest = latest;
            return copy;
        }
    }

    private static final class World {
        int[] settings = {300, 20, 50, 40, 2000, 5};
        List<int[]> lanes = new ArrayList<>();
        TreeMap<Integer, Integer> routes = new TreeMap<>();
        String rule = "x";
        List<Item> items = new ArrayList<>();
        int distance;
        int strays;

        World copy() {
            World copy = new World();
            copy.settings = settings.clone();
            for (int[] lane : lanes) {
                copy.lanes.add(lane.clone());
            }
            copy.routes.putAll(routes);
            copy.rule = rule;
            for (Item item : items) {
                copy.items.add(item.copy());
            }
            copy.distance = distance;
            copy.strays = strays;
            return copy;
        }

        List<Item> belt() {
            List<Item> belt = new ArrayList<>();
            for (Item item : items) {
                if (item.fate == 0) {
                    belt.add(item);
                }
            }
            belt.sort(Comparator.comparingInt((Item item) -> -item.front));
            return belt;
        }

        int laneOf(Item item) {
            return item.code == null || item.conflicting || item.merged ? -1 : laneFor(item.code, item.length);
        }

        int laneFor(int code, int length) {
            if (routes.containsKey(code)) {
                return routes.get(code);
            }
            int[] at = {0};
            int lane = evaluate(at, code, length);
            return lane < lanes.size() ? lane : -1;
        }

        private int evaluate(int[] at, int code, int length) {
            char sign = rule.charAt(at[0]++);
            if (sign == 'x') {
                return -1;
            }
            if (sign != '?') {
                return sign - '0';
            }
            int end = rule.indexOf(';', at[0]);
            char kind = rule.charAt(at[0]);
            String[] numbers = rule.substring(at[0] + 1, end).split(",");
            at[0] = end + 1;
            int first = Integer.parseInt(numbers[0]);
            int one = evaluate(at, code, length);
            int other = evaluate(at, code, length);
            boolean holds;
            if (kind == 'c') {
                holds = code < first;
            } else if (kind == 'l') {
                holds = length < first;
            } else {
                holds = code % first == Integer.parseInt(numbers[1]);
            }
            return holds ? one : other;
        }

        int millimeter() {
            int left = 0;
            distance++;
            for (Item item : belt()) {
                item.front++;
            }
            for (Item item : belt()) {
                left += process(item) ? 1 : 0;
            }
            for (Item item : belt()) {
                if (item.front >= settings[4]) {
                    item.fate = item.code == null ? 1 : item.conflicting ? 2 : item.merged ? 3 : item.failure > 0 ? item.failure : 4;
                    left++;
                }
            }
            return left;
        }

        private boolean process(Item item) {
            int number = laneOf(item);
            if (number < 0) {
                return false;
            }
            int[] lane = lanes.get(number);
            int middle = item.front - item.length / 2;
            if (middle < lane[0] || middle >= lane[0] + lane[1]) {
                return false;
            }
            List<Item> belt = belt();
            int place = belt.indexOf(item);
            boolean ahead = place == 0 || belt.get(place - 1).front - belt.get(place - 1).length - item.front >= settings[3];
            boolean behind = place == belt.size() - 1 || item.front - item.length - belt.get(place + 1).front >= settings[3];
            if (!ahead || !behind) {
                item.failure = 5;
                return false;
            }
            if (lane[3] >= lane[2]) {
                item.failure = 6;
                return false;
            }
            lane[3]++;
            lane[4]++;
            item.fate = 10 + number;
            return true;
        }

        Item last() {
            List<Item> belt = belt();
            return belt.isEmpty() ? null : belt.get(belt.size() - 1);
        }
    }

    private World world = new World();
    private final Deque<World> saved = new ArrayDeque<>();
    private String text = "";

    private void save() {
        saved.addLast(world);
        world = world.copy();
        if (saved.size() > 6) {
            saved.removeFirst();
        }
    }

    private static void argument(boolean right) {
        if (!right) {
            throw new IllegalArgumentException();
        }
    }

    private static void state(boolean right) {
        if (!right) {
            throw new IllegalStateException();
        }
    }

    private static void index(int index, int size) {
        if (index < 0 || index >= size) {
            throw new IndexOutOfBoundsException();
        }
    }

    private static boolean in(int value, int least, int greatest) {
        return value >= least && value <= greatest;
    }

    int set(int index, int value) {
        index(index, 6);
        argument(in(value, RANGES[index][0], RANGES[index][1]));
        state(world.belt().isEmpty());
        save();
        int previous = world.settings[index];
        world.settings[index] = value;
        return previous;
    }

    int addLane(int position, int window, int capacity) {
        argument(in(position, 1, 4999) && in(window, 1, 200) && in(capacity, 1, 50));
        state(world.lanes.size() < 6);
        save();
        world.lanes.add(new int[] {position, window, capacity, 0, 0});
        return world.lanes.size() - 1;
    }

    int emptyLane(int lane) {
        index(lane, world.lanes.size());
        save();
        int content = world.lanes.get(lane)[3];
        world.lanes.get(lane)[3] = 0;
        return content;
    }

    int route(int code, int lane) {
        argument(in(code, 0, 999));
        index(lane, world.lanes.size());
        state(world.routes.containsKey(code) || world.routes.size() < 30);
        save();
        Integer previous = world.routes.put(code, lane);
        return previous == null ? -1 : previous;
    }

    int removeRoute(int code) {
        argument(in(code, 0, 999));
        state(world.routes.containsKey(code));
        save();
        return world.routes.remove(code);
    }

    int enter(int length) {
        argument(in(length, 10, 400));
        Item last = world.last();
        state(last == null || last.front - last.length >= 0);
        state(world.belt().size() < 20);
        state(world.items.size() < 300);
        save();
        last = world.last();
        Item item = new Item();
        item.number = world.items.size();
        item.length = length;
        if (last != null && last.front - last.length < world.settings[5]) {
            last.merged = true;
            item.merged = true;
        }
        world.items.add(item);
        return item.number;
    }

    int read(int code) {
        argument(in(code, 0, 999));
        save();
        int scanner = world.settings[0];
        Item at = null;
        Item shadow = null;
        for (Item item : world.belt()) {
            int tail = item.front - item.length;
            if (tail < scanner && item.front >= scanner) {
                at = item;
            }
            if (tail >= scanner && tail < scanner + world.settings[1]
                    && (shadow == null || tail < shadow.front - shadow.length)) {
                shadow = item;
            }
        }
        Item owner = shadow != null && (shadow.code == null || at == null) ? shadow : at;
        if (owner == null) {
            world.strays++;
            return -1;
        }
        boolean isDouble = false;
        if (owner.code == null) {
            owner.code = code;
        } else if (owner.code != code) {
            owner.conflicting = true;
        } else if (world.distance - owner.latest <= world.settings[2]) {
            isDouble = true;
            owner.doubles++;
        } else {
            owner.repeats++;
        }
        if (!isDouble) {
            owner.latest = world.distance;
        }
        return owner.number;
    }

    int move(int millimeters) {
        argument(in(millimeters, 1, 500));
        state(world.distance + millimeters <= 50000);
        save();
        int left = 0;
        for (int i = 0; i < millimeters; i++) {
            left += world.millimeter();
        }
        return left;
    }

    int takeOff(int part) {
        index(part, world.items.size());
        state(world.items.get(part).fate == 0);
        save();
        world.items.get(part).fate = 9;
        return world.items.get(part).front;
    }

    int undo() {
        state(!saved.isEmpty());
        world = saved.removeLast();
        return saved.size();
    }

    int part(int part, int property) {
        index(part, world.items.size());
        argument(in(property, 0, 9));
        Item item = world.items.get(part);
        int code = item.code == null ? -1 : item.code;
        int lane = item.fate == 0 ? world.laneOf(item) : -1;
        int[] all = {item.length, item.fate, item.front, code, item.conflicting ? 1 : 0, item.merged ? 1 : 0,
            item.repeats, item.doubles, lane, item.failure};
        return all[property];
    }

    int lane(int lane, int property) {
        index(lane, world.lanes.size());
        argument(in(property, 0, 5));
        if (property == 5) {
            return (int) world.routes.values().stream().filter(to -> to == lane).count();
        }
        return world.lanes.get(lane)[property];
    }

    int total(int property) {
        argument(in(property, 0, 14));
        List<Item> items = world.items;
        int[] all = {world.distance, items.size(), world.belt().size(),
            (int) items.stream().filter(item -> item.fate >= 10).count(),
            (int) items.stream().filter(item -> item.fate >= 1 && item.fate <= 6).count(),
            (int) items.stream().filter(item -> item.fate == 9).count(),
            world.lanes.size(), world.routes.size(), world.strays,
            items.stream().mapToInt(item -> item.doubles).sum(),
            items.stream().mapToInt(item -> item.repeats).sum(),
            (int) items.stream().filter(item -> item.conflicting).count(),
            (int) items.stream().filter(item -> item.merged).count(),
            saved.size(), text.length()};
        return all[property];
    }

    int lost(int reason) {
        argument(in(reason, 1, 6));
        return (int) world.items.stream().filter(item -> item.fate == reason).count();
    }

    int setting(int index) {
        index(index, 6);
        return world.settings[index];
    }

    int routeAt(int index) {
        argument(index >= 0);
        List<Integer> codes = new ArrayList<>(world.routes.keySet());
        return index < codes.size() ? 10 * codes.get(index) + world.routes.get(codes.get(index)) : -1;
    }

    int gapAhead(int part) {
        index(part, world.items.size());
        Item item = world.items.get(part);
        state(item.fate == 0);
        int gap = -1;
        for (Item other : world.belt()) {
            if (other.front > item.front) {
                gap = other.front - other.length - item.front;
            }
        }
        return gap;
    }

    int ranked(int rank) {
        argument(rank >= 0);
        List<int[]> rows = new ArrayList<>();
        for (Item item : world.belt()) {
            int lane = world.laneOf(item);
            int distance = lane < 0 ? 0 : world.lanes.get(lane)[0] - (item.front - item.length / 2);
            rows.add(new int[] {lane < 0 ? 1 : 0, distance, item.number});
        }
        rows.sort(Comparator.comparingInt((int[] row) -> row[0]).thenComparingInt(row -> row[1]).thenComparingInt(row -> row[2]));
        return rank < rows.size() ? rows.get(rank)[2] : -1;
    }

    double share() {
        double diverted = total(3);
        double gone = total(3) + total(4) + total(5);
        return gone == 0.0 ? 1.0 : diverted / gone;
    }

    int fateOf(int part) {
        index(part, world.items.size());
        World future = world.copy();
        while (future.items.get(part).fate == 0) {
            future.millimeter();
        }
        return future.items.get(part).fate;
    }

    int entryIn() {
        World future = world.copy();
        int millimeters = 0;
        while (true) {
            Item last = future.last();
            int tail = last == null ? 0 : last.front - last.length;
            if (last == null || tail >= 0 && tail >= future.settings[5]) {
                return millimeters;
            }
            future.millimeter();
            millimeters++;
        }
    }

    int nextLeaving() {
        if (world.belt().isEmpty()) {
            return -1;
        }
        World future = world.copy();
        int millimeters = 1;
        while (future.millimeter() == 0) {
            millimeters++;
        }
        return millimeters;
    }

    int laneFor(int code, int length) {
        argument(in(code, 0, 999) && in(length, 10, 400));
        return world.laneFor(code, length);
    }

    int append(int code) {
        argument(in(code, 32, 126));
        state(text.length() < 80);
        text += (char) code;
        return text.length();
    }

    int clear() {
        int length = text.length();
        text = "";
        return length;
    }

    /** What is still due is a text of signs: R a rule, S a rule nested in "?", U its end, N digits, Z digits that aren't all 0. */
    int errorPosition() {
        Deque<String> due = new ArrayDeque<>();
        due.push("R0");
        for (int at = 0; at < text.length(); at++) {
            char sign = text.charAt(at);
            boolean again = true;
            while (again) {
                again = false;
                if (due.isEmpty()) {
                    return at;
                }
                String next = due.pop();
                char kind = next.charAt(0);
                if (kind == 'R') {
                    int depth = Integer.parseInt(next.substring(1));
                    if (sign == '?' && depth < 6) {
                        due.push("R" + (depth + 1));
                        due.push("R" + (depth + 1));
                        due.push("C");
                    } else if ("012345x".indexOf(sign) < 0) {
                        return at;
                    }
                } else if (kind == 'C') {
                    if ("clm".indexOf(sign) < 0) {
                        return at;
                    }
                    due.push(";");
                    if (sign == 'm') {
                        due.push("N");
                        due.push(",");
                    }
                    due.push(sign == 'm' ? "Z" : "N");
                } else if (kind == 'N' || kind == 'Z') {
                    String digits = next.substring(1);
                    if (Character.isDigit(sign) && digits.length() < 3) {
                        due.push(next + sign);
                    } else if (digits.isEmpty() || kind == 'Z' && Integer.parseInt(digits) == 0) {
                        return at;
                    } else {
                        again = true;
                    }
                } else if (sign != kind) {
                    return at;
                }
            }
        }
        return due.isEmpty() ? -1 : text.length();
    }

    int load() {
        state(errorPosition() == -1);
        save();
        world.rule = text;
        text = "";
        return (int) world.rule.chars().filter(sign -> sign == '?').count();
    }
}
