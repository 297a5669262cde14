import java.util.ArrayList;
import java.util.Arrays;
import java.util.HashMap;
import java.util.HashSet;
import java.util.List;
import java.util.Map;
import java.util.NoSuchElementException;
import java.util.Set;

/**
 * The document once more, as literally as may be and slowly: assignments are looked for among all
 * there are, supplies among all sets of courses. The class is held against it.
 */
final class Model {
    private static final int NONE = -1;
    private static final int NEVER = 1000;

    private final List<Integer> parents = new ArrayList<>();
    private final List<Integer> limits = new ArrayList<>();
    private final List<Integer> groupOf = new ArrayList<>();
    private final List<Boolean> open = new ArrayList<>();
    private final List<Integer> life = new ArrayList<>();
    private final List<List<Integer>> demands = List.of(new ArrayList<>(), new ArrayList<>(), new ArrayList<>());
    private final Set<List<Integer>> allowed = new HashSet<>();
    private final int[] programmeOf = {NONE, NONE, NONE, NONE};
    private final Map<List<Integer>, Integer> passes = new HashMap<>();
    private final List<Set<List<Integer>>> petitions =
            List.of(new HashSet<>(), new HashSet<>(), new HashSet<>(), new HashSet<>());
    private final Map<List<Integer>, Integer> exemptions = new HashMap<>();
    private int[] receipt;
    private int[] assignment;

    int group(int parent, int limit) {
        argument(parent == NONE || parent >= 0 && parent < parents.size());
        argument(limit >= NONE && limit <= 12);
        state(parents.size() < 6 && (parent != NONE || parents.isEmpty()));
        parents.add(parent);
        limits.add(limit);
        return parents.size() - 1;
    }

    int course(int group) {
        groupIsThere(group);
        state(groupOf.size() < 12);
        groupOf.add(group);
        open.add(true);
        life.add(NONE);
        return groupOf.size() - 1;
    }

    boolean open(int course, boolean is) {
        courseIsThere(course);
        return open.set(course, is);
    }

    int expire(int course, int terms) {
        courseIsThere(course);
        argument(terms >= NONE && terms <= 40);
        return life.set(course, terms);
    }

    int requirement(int programme, int demand) {
        programmeIsThere(programme);
        argument(demand >= 1 && demand <= 6);
        state(demands.get(programme).size() < 5);
        demands.get(programme).add(demand);
        return demands.get(programme).size();
    }

    boolean allow(int programme, int requirement, int course) {
        programmeIsThere(programme);
        requirementIsThere(programme, requirement);
        courseIsThere(course);
        return allowed.add(List.of(programme, requirement, course));
    }

    int student(int student, int programme) {
        studentIsThere(student);
        programmeIsThere(programme);
        exemptions.keySet().removeIf(key -> key.get(0) == student);
        int was = programmeOf[student];
        programmeOf[student] = programme;
        return was;
    }

    int pass(int student, int course, int term) {
        studentIsThere(student);
        courseIsThere(course);
        termIsOne(term);
        return passes.merge(List.of(student, course), term, Math::max);
    }

    boolean substitute(int student, int from, int to) {
        studentIsThere(student);
        courseIsThere(from);
        courseIsThere(to);
        if (from == to || petitions.get(student).contains(List.of(from, to))) {
            return false;
        }
        state(petitions.get(student).size() < 8);
        return petitions.get(student).add(List.of(from, to));
    }

    int exempt(int student, int requirement, int count) {
        studentIsThere(student);
        argument(programmeOf[student] != NONE);
        requirementIsThere(programmeOf[student], requirement);
        argument(count >= 0 && count <= 9);
        exemptions.merge(List.of(student, requirement), count, Integer::sum);
        return need(student, requirement);
    }

    boolean lives(int student, int course, int term) {
        studentIsThere(student);
        courseIsThere(course);
        Integer since = passes.get(List.of(student, course));
        if (since == null || since > term) {
            return false;
        }
        return life.get(course) == NONE || (long) term - since <= life.get(course);
    }

    int audit(int student, int term) {
        questionIsRight(student, term);
        int living = living(student, term);
        assignment = new Search(student, living, 0).best();
        int given = (int) Arrays.stream(assignment).filter(r -> r > 0).count();
        int all = (2 << demands.get(programmeOf[student]).size()) - 2;
        int need = needOfSet(student, all);
        int unmet = unmetSet(student, living, all);
        int unmetNeed = needOfSet(student, unmet);
        int supply = supplyOf(student, living, unmet);
        if (need - given != unmetNeed - supply) {
            throw new AssertionError("the document says that these are the same");
        }
        receipt = new int[] {need, given, unmet, unmetNeed, supply, student, term};
        return need - given;
    }

    int assigned(int course) {
        courseIsThere(course);
        receiptIsThere();
        return assignment[course];
    }

    int used(int group) {
        groupIsThere(group);
        receiptIsThere();
        int count = 0;
        for (int c = 0; c < groupOf.size(); c++) {
            count += assignment[c] > 0 && isWithin(c, group) ? 1 : 0;
        }
        return count;
    }

    int receipt(int what) {
        argument(what >= 0 && what <= 6);
        receiptIsThere();
        return receipt[what];
    }

    int supply(int student, int term, int set) {
        questionIsRight(student, term);
        return supplyOf(student, living(student, term), set);
    }

    int fewestMore(int student, int term) {
        questionIsRight(student, term);
        int living = living(student, term);
        int further = 0;
        for (int c = 0; c < groupOf.size(); c++) {
            further |= open.get(c) && (living >> c & 1) == 0 ? 1 << c : 0;
        }
        int fewest = new Search(student, living | further, further).fewest();
        return fewest >= NEVER ? NONE : fewest;
    }

    private int unmetSet(int student, int living, int all) {
        int unmet = 0;
        int greatest = 0;
        for (int set = 0; set <= all; set += 2) {
            int excess = needOfSet(student, set) - supplyOf(student, living, set);
            if (excess > greatest || excess == greatest && Integer.bitCount(set) < Integer.bitCount(unmet)) {
                unmet = set;
                greatest = excess;
            }
        }
        return unmet;
    }

    private int needOfSet(int student, int set) {
        int sum = 0;
        for (int r = 1; r <= demands.get(programmeOf[student]).size(); r++) {
            sum += (set >> r & 1) != 0 ? need(student, r) : 0;
        }
        return sum;
    }

    private int need(int student, int requirement) {
        int demand = demands.get(programmeOf[student]).get(requirement - 1);
        return Math.max(0, demand - exemptions.getOrDefault(List.of(student, requirement), 0));
    }

    private int living(int student, int term) {
        int set = 0;
        for (int c = 0; c < groupOf.size(); c++) {
            set |= lives(student, c, term) ? 1 << c : 0;
        }
        return set;
    }

    private boolean counts(int student, int requirement, int course) {
        int programme = programmeOf[student];
        if (allowed.contains(List.of(programme, requirement, course))) {
            return true;
        }
        return petitions.get(student).stream()
                .anyMatch(p -> p.get(0) == course && allowed.contains(List.of(programme, requirement, p.get(1))));
    }

    private boolean isWithin(int course, int group) {
        for (int g = groupOf.get(course); g != NONE; g = parents.get(g)) {
            if (g == group) {
                return true;
            }
        }
        return false;
    }

    private int supplyOf(int student, int living, int set) {
        int counting = 0;
        for (int c = 0; c < groupOf.size(); c++) {
            for (int r = 1; r <= demands.get(programmeOf[student]).size(); r++) {
                counting |= (living >> c & 1) != 0 && (set >> r & 1) != 0 && counts(student, r, c) ? 1 << c : 0;
            }
        }
        int[] within = new int[parents.size()];
        for (int c = 0; c < groupOf.size(); c++) {
            for (int g = 0; g < parents.size(); g++) {
                within[g] |= isWithin(c, g) ? 1 << c : 0;
            }
        }
        int most = 0;
        for (int some = counting; some > 0; some = some - 1 & counting) {
            if (Integer.bitCount(some) > most && keepsLimits(some, within)) {
                most = Integer.bitCount(some);
            }
        }
        return most;
    }

    private boolean keepsLimits(int some, int[] within) {
        for (int g = 0; g < within.length; g++) {
            if (limits.get(g) != NONE && Integer.bitCount(some & within[g]) > limits.get(g)) {
                return false;
            }
        }
        return true;
    }

    /** Goes through all assignments, course by course; what is left to do from a course on is remembered. */
    private final class Search {
        private final int courses;
        private final int further;
        private final int requirements;
        private final boolean[][] counts;
        private final int[] left;
        private final int[] given = new int[12];
        private final int[] inGroup = new int[6];
        private final Map<Long, Integer> remembered = new HashMap<>();

        Search(int student, int courses, int further) {
            this.courses = courses;
            this.further = further;
            requirements = demands.get(programmeOf[student]).size();
            counts = new boolean[12][6];
            left = new int[6];
            for (int r = 1; r <= requirements; r++) {
                left[r] = need(student, r);
                for (int c = 0; c < groupOf.size(); c++) {
                    counts[c][r] = (courses >> c & 1) != 0 && Model.this.counts(student, r, c);
                }
            }
        }

        int[] best() {
            int most = mostFrom(0);
            for (int c = 0; c < groupOf.size(); c++) {
                int before = (int) Arrays.stream(given).filter(r -> r > 0).count();
                for (int r = 1; r <= requirements && given[c] == 0; r++) {
                    if (canGive(c, r)) {
                        give(c, r, 1);
                        given[c] = r;
                        if (before + 1 + mostFrom(c + 1) < most) {
                            give(c, r, -1);
                            given[c] = 0;
                        }
                    }
                }
            }
            return given;
        }

        int fewest() {
            return fewestFrom(0);
        }

        private int mostFrom(int course) {
            if (course == groupOf.size()) {
                return 0;
            }
            Integer known = remembered.get(key(course));
            if (known != null) {
                return known;
            }
            int most = mostFrom(course + 1);
            for (int r = 1; r <= requirements; r++) {
                if (canGive(course, r)) {
                    give(course, r, 1);
                    most = Math.max(most, 1 + mostFrom(course + 1));
                    give(course, r, -1);
                }
            }
            remembered.put(key(course), most);
            return most;
        }

        private int fewestFrom(int course) {
            if (course == groupOf.size()) {
                return Arrays.stream(left).sum() == 0 ? 0 : NEVER;
            }
            Integer known = remembered.get(key(course));
            if (known != null) {
                return known;
            }
            int fewest = fewestFrom(course + 1);
            for (int r = 1; r <= requirements; r++) {
                if (canGive(course, r)) {
                    give(course, r, 1);
                    fewest = Math.min(fewest, (further >> course & 1) + fewestFrom(course + 1));
                    give(course, r, -1);
                }
            }
            remembered.put(key(course), fewest);
            return fewest;
        }

        private boolean canGive(int course, int r) {
            if ((courses >> course & 1) == 0 || !counts[course][r] || left[r] == 0) {
                return false;
            }
            for (int g = groupOf.get(course); g != NONE; g = parents.get(g)) {
                if (limits.get(g) != NONE && inGroup[g] >= limits.get(g)) {
                    return false;
                }
            }
            return true;
        }

        private void give(int course, int r, int count) {
            left[r] -= count;
            for (int g = groupOf.get(course); g != NONE; g = parents.get(g)) {
                inGroup[g] += count;
            }
        }

        private long key(int course) {
            long key = course;
            for (int n : left) {
                key = key * 8 + n;
            }
            for (int n : inGroup) {
                key = key * 16 + n;
            }
            return key;
        }
    }

    private void groupIsThere(int group) {
        argument(group >= 0 && group < parents.size());
    }

    private void courseIsThere(int course) {
        argument(course >= 0 && course < groupOf.size());
    }

    private void programmeIsThere(int programme) {
        argument(programme >= 0 && programme <= 2);
    }

    private void requirementIsThere(int programme, int requirement) {
        argument(requirement >= 1 && requirement <= demands.get(programme).size());
    }

    private void studentIsThere(int student) {
        argument(student >= 0 && student <= 3);
    }

    private void termIsOne(int term) {
        argument(term >= 0 && term <= 99);
    }

    private void questionIsRight(int student, int term) {
        studentIsThere(student);
        termIsOne(term);
        state(programmeOf[student] != NONE);
    }

    private void receiptIsThere() {
        if (receipt == null) {
            throw new NoSuchElementException();
        }
    }

    private static void argument(boolean isRight) {
        if (!isRight) {
            throw new IllegalArgumentException();
        }
    }

    private static void state(boolean isRight) {
        if (!isRight) {
            throw new IllegalStateException();
        }
    }
}
