import java.util.ArrayList;
import java.util.HashSet;
import java.util.List;
import java.util.Map;
import java.util.Set;
import java.util.TreeMap;

/** The document word by word, by plain recursion from NODE to PARTS: what CountDesk is held against. */
final class Model {
    private static final class Item {
        int number;
        int sort;
        int depth;
        int goalKind = -1;
        int x = -1;
        int tag = -1;
        int all = -1;
        final Set<Integer> makes = new HashSet<>();
        final List<Item> parts = new ArrayList<>();
    }

    /** CAN FAIL and MOST; MANY is 2. */
    private record Chance(boolean fails, int most) {
        static Chance of(int kind) {
            return new Chance(kind == 1 || kind == 3 || kind == 4, kind == 4 ? 0 : kind < 2 ? 1 : 2);
        }

        int kind() {
            if (most == 0) {
                return 4;
            }
            return (most == 1 ? 0 : 2) + (fails ? 1 : 0);
        }
    }

    private final List<Item> items = new ArrayList<>();
    private final List<Integer> row = new ArrayList<>();

    Model() {
        clear();
    }

    void clear() {
        items.clear();
        row.clear();
        items.add(new Item());
    }

    boolean put(int x) {
        if (row.size() == 7 || x < 0 || x > 59) {
            return false;
        }
        row.add(x);
        return true;
    }

    int add(int parent, int sort) {
        row.clear();
        return refuses(parent) || sort < 0 || sort > 3 ? -1 : enter(parent, sort).number;
    }

    int goal(int parent, int kind) {
        Set<Integer> makes = new HashSet<>(row);
        row.clear();
        if (refuses(parent) || kind < 0 || kind > 4) {
            return -1;
        }
        Item item = enter(parent, 4);
        item.goalKind = kind;
        item.makes.addAll(makes);
        return item.number;
    }

    int take(int parent, int x, int tag, int all) {
        Set<Integer> makes = new HashSet<>(row);
        row.clear();
        boolean fine = x >= 0 && x <= 59 && all >= 0 && all <= 100 && tag >= 0 && tag <= 99
                && (all == 0 || tag < all);
        if (refuses(parent) || !fine) {
            return -1;
        }
        Item item = enter(parent, 5);
        item.x = x;
        item.tag = tag;
        item.all = all;
        item.makes.addAll(makes);
        return item.number;
    }

    private boolean refuses(int parent) {
        if (items.size() == 250 || parent < 0 || parent >= items.size()) {
            return true;
        }
        Item above = items.get(parent);
        return above.sort > 3 || above.sort == 2 && above.parts.size() == 1
                || above.sort == 3 && above.parts.size() == 3 || above.depth == 20;
    }

    private Item enter(int parent, int sort) {
        Item item = new Item();
        item.number = items.size();
        item.sort = sort;
        item.depth = items.get(parent).depth + 1;
        items.get(parent).parts.add(item);
        items.add(item);
        return item;
    }

    int kind(int node) {
        return node < 0 || node >= items.size() ? -1 : chance(items.get(node), Set.of()).kind();
    }

    int switches(int node) {
        return isChoice(node) ? switchVariable(items.get(node).parts, Set.of()) : -1;
    }

    int arms(int node, int tag) {
        int x = switches(node);
        if (x == -1) {
            return 0;
        }
        Map<Integer, List<Item>> arms = armsOf(items.get(node).parts, x);
        return tag == -1 ? arms.size() : arms.getOrDefault(tag, List.of()).size();
    }

    int fits(int kind) {
        if (kind < 0 || kind > 3) {
            return 3;
        }
        int own = kind(0);
        if ((own == 1 || own == 3 || own == 4) && (kind == 0 || kind == 2)) {
            return 1;
        }
        return own > 1 && own < 4 && kind < 2 ? 2 : 0;
    }

    int node(int node, int what) {
        if (node < 0 || node >= items.size() || what < 0) {
            return -1;
        }
        Item item = items.get(node);
        if (what >= 5) {
            return what - 5 < item.parts.size() ? item.parts.get(what - 5).number : -1;
        }
        int[] answers = {item.sort, item.parts.size(), Math.max(item.goalKind, item.x), item.tag, item.all};
        return answers[what];
    }

    private boolean isChoice(int node) {
        return node >= 0 && node < items.size() && items.get(node).sort == 1;
    }

    private Chance chance(Item item, Set<Item> det) {
        switch (item.sort) {
            case 0:
                return rowChance(item.parts, det);
            case 1:
                return choiceChance(item.parts, Set.of(), det);
            case 2:
                return Chance.of(notKind(item, det));
            case 3:
                return testChance(item, det);
            case 4:
                return Chance.of(item.goalKind);
            default:
                return Chance.of(item.all == 1 || det.contains(item) ? 0 : 1);
        }
    }

    private Chance rowChance(List<Item> parts, Set<Item> det) {
        List<Chance> chances = chances(parts, det);
        boolean fails = chances.stream().anyMatch(Chance::fails);
        if (chances.stream().anyMatch(c -> c.most == 0)) {
            return Chance.of(4);
        }
        return new Chance(fails, chances.stream().anyMatch(c -> c.most == 2) ? 2 : 1);
    }

    private List<Chance> chances(List<Item> parts, Set<Item> det) {
        List<Chance> chances = new ArrayList<>();
        for (Item part : parts) {
            chances.add(chance(part, det));
        }
        return chances;
    }

    private int notKind(Item item, Set<Item> det) {
        if (item.parts.isEmpty()) {
            return 4;
        }
        Chance part = chance(item.parts.get(0), det);
        return part.most == 0 ? 0 : part.fails ? 1 : 4;
    }

    private Chance testChance(Item item, Set<Item> det) {
        if (item.parts.size() < 3) {
            return Chance.of(4);
        }
        List<Chance> chances = chances(item.parts, det);
        Chance a = chances.get(0);
        Chance c = chances.get(2);
        Chance ab = rowChance(item.parts.subList(0, 2), det);
        if (!a.fails) {
            return ab;
        }
        if (a.most == 0) {
            return c;
        }
        Chance both = new Chance(chances.get(1).fails || c.fails, Math.max(c.most, ab.most));
        return Chance.of(both.kind());
    }

    private Chance choiceChance(List<Item> parts, Set<Integer> used, Set<Item> det) {
        if (parts.isEmpty()) {
            return Chance.of(4);
        }
        int x = switchVariable(parts, used);
        if (x != -1) {
            return switchChance(parts, x, used, det);
        }
        List<Chance> chances = chances(parts, det);
        boolean fails = chances.stream().allMatch(Chance::fails);
        long none = chances.stream().filter(c -> c.most == 0).count();
        long once = chances.stream().filter(c -> c.most == 1).count();
        if (none == parts.size()) {
            return Chance.of(4);
        }
        return new Chance(fails, once == 1 && none == parts.size() - 1 ? 1 : 2);
    }

    private Chance switchChance(List<Item> parts, int x, Set<Integer> used, Set<Item> det) {
        Set<Item> nowDet = new HashSet<>(det);
        for (Item part : parts) {
            nowDet.add(telling(part, x));
        }
        Set<Integer> nowUsed = new HashSet<>(used);
        nowUsed.add(x);
        Map<Integer, List<Item>> arms = armsOf(parts, x);
        int all = telling(parts.get(0), x).all;
        boolean fails = all == 0 || arms.size() < all;
        int most = 0;
        for (List<Item> arm : arms.values()) {
            Chance own = arm.size() == 1 ? chance(arm.get(0), nowDet) : choiceChance(arm, nowUsed, nowDet);
            fails |= own.fails;
            most = Math.max(most, own.most);
        }
        return most == 0 ? Chance.of(4) : new Chance(fails, most);
    }

    private Map<Integer, List<Item>> armsOf(List<Item> parts, int x) {
        Map<Integer, List<Item>> arms = new TreeMap<>();
        for (Item part : parts) {
            arms.computeIfAbsent(telling(part, x).tag, tag -> new ArrayList<>()).add(part);
        }
        return arms;
    }

    private int switchVariable(List<Item> parts, Set<Integer> used) {
        if (parts.size() < 2) {
            return -1;
        }
        for (int x = 0; x < 60; x++) {
            Set<Integer> alls = new HashSet<>();
            for (Item part : parts) {
                Item take = telling(part, x);
                alls.add(take == null ? -1 : take.all);
            }
            if (!used.contains(x) && alls.size() == 1 && !alls.contains(-1)) {
                return x;
            }
        }
        return -1;
    }

    /** The TAKE by which the PART takes x; null when it doesn't. */
    private Item telling(Item part, int x) {
        List<Item> head = new ArrayList<>();
        if (part.sort > 3) {
            head.add(part);
        } else if (part.sort == 0) {
            for (Item item : part.parts) {
                if (item.sort != 5 && (item.sort != 4 || item.goalKind != 0)) {
                    break;
                }
                head.add(item);
            }
        }
        for (int i = 0; i < head.size(); i++) {
            boolean made = head.subList(0, i).stream().anyMatch(ahead -> ahead.makes.contains(x));
            if (head.get(i).sort == 5 && head.get(i).x == x && !made) {
                return head.get(i);
            }
        }
        return null;
    }
}
