import java.util.Arrays;
import java.util.NoSuchElementException;

/**
 * An office that looks whether the courses that a student has passed fill the requirements of a
 * programme. Sets of courses and of requirements are ints, with bit n for number n.
 */
public final class StudyAudit {
    public static final int NONE = -1;

    private static final int MOST_GROUPS = 6;
    private static final int MOST_LIMIT = 12;
    private static final int MOST_COURSES = 12;
    private static final int MOST_LIFE = 40;
    private static final int PROGRAMMES = 3;
    private static final int MOST_REQUIREMENTS = 5;
    private static final int MOST_DEMAND = 6;
    private static final int STUDENTS = 4;
    private static final int LAST_TERM = 99;
    private static final int MOST_PETITIONS = 8;
    private static final int MOST_COUNT = 9;

    private final Catalogue catalogue;
    private final Programme[] programmes;
    private final Student[] students;
    private final Claims claims;
    private final Plan plan;
    private final Receipt latest;

    public StudyAudit() {
        catalogue = new Catalogue();
        programmes = new Programme[PROGRAMMES];
        for (int i = 0; i < PROGRAMMES; i++) {
            programmes[i] = new Programme();
        }
        students = new Student[STUDENTS];
        for (int i = 0; i < STUDENTS; i++) {
            students[i] = new Student();
        }
        claims = new Claims();
        plan = new Plan();
        latest = new Receipt();
    }

    public int group(int parent, int limit) throws IllegalArgumentException, IllegalStateException {
        if (parent != NONE) {
            checkGroup(parent);
        }
        checkNoneOrUpTo(limit, MOST_LIMIT);
        if (catalogue.groups == MOST_GROUPS) {
            throw new IllegalStateException("there are as many groups as there can be");
        }
        if (parent == NONE && catalogue.groups > 0) {
            throw new IllegalStateException("there is a first group already");
        }
        return catalogue.addGroup(parent, limit);
    }

    public int course(int group) throws IllegalArgumentException, IllegalStateException {
        checkGroup(group);
        if (catalogue.courses == MOST_COURSES) {
            throw new IllegalStateException("there are as many courses as there can be");
        }
        return catalogue.addCourse(group);
    }

    public boolean open(int course, boolean is) throws IllegalArgumentException {
        checkCourse(course);
        int before = catalogue.openCourses;
        catalogue.openCourses = is ? with(before, course) : without(before, course);
        return has(before, course);
    }

    public int expire(int course, int terms) throws IllegalArgumentException {
        checkCourse(course);
        checkNoneOrUpTo(terms, MOST_LIFE);
        int was = catalogue.life[course];
        catalogue.life[course] = terms;
        return was;
    }

    public int requirement(int programme, int demand) throws IllegalArgumentException, IllegalStateException {
        checkProgramme(programme);
        checkBetween(1, demand, MOST_DEMAND);
        if (programmes[programme].requirements == MOST_REQUIREMENTS) {
            throw new IllegalStateException("the programme has as many requirements as it can have");
        }
        return programmes[programme].addRequirement(demand);
    }

    public boolean allow(int programme, int requirement, int course) throws IllegalArgumentException {
        checkProgramme(programme);
        checkRequirement(programme, requirement);
        checkCourse(course);
        int[] allowed = programmes[programme].allowed;
        boolean isNew = !has(allowed[requirement], course);
        allowed[requirement] = with(allowed[requirement], course);
        return isNew;
    }

    public int student(int student, int programme) throws IllegalArgumentException {
        checkStudent(student);
        checkProgramme(programme);
        int was = students[student].programme;
        students[student].enter(programme);
        return was;
    }

    public int pass(int student, int course, int term) throws IllegalArgumentException {
        checkStudent(student);
        checkCourse(course);
        checkBetween(0, term, LAST_TERM);
        int[] passed = students[student].passed;
        passed[course] = Math.max(passed[course], term);
        return passed[course];
    }

    public boolean substitute(int student, int from, int to) throws IllegalArgumentException, IllegalStateException {
        checkStudent(student);
        checkCourse(from);
        checkCourse(to);
        Student who = students[student];
        if (from == to || has(who.standsFor[from], to)) {
            return false;
        }
        if (who.petitions == MOST_PETITIONS) {
            throw new IllegalStateException("the student has as many petitions as there can be");
        }
        who.addPetition(from, to);
        return true;
    }

    public int exempt(int student, int requirement, int count) throws IllegalArgumentException {
        checkStudent(student);
        Student who = students[student];
        checkRequirement(who.programme, requirement);
        checkBetween(0, count, MOST_COUNT);
        who.addExemption(requirement, count);
        return who.needOf(programmes[who.programme], requirement);
    }

    public boolean lives(int student, int course, int term) throws IllegalArgumentException {
        checkStudent(student);
        checkCourse(course);
        return students[student].hasLiving(course, catalogue.life[course], term);
    }

    public int audit(int student, int term) throws IllegalArgumentException, IllegalStateException {
        checkQuestion(student, term);
        int living = students[student].livingCourses(catalogue, term);
        readClaims(student);
        latest.given = plan.assignBest(catalogue, claims, living);
        plan.writeAssignment(latest.requirementOf);
        latest.student = student;
        latest.term = term;
        latest.need = claims.needOfSet(claims.all());
        latest.findUnmet(catalogue, claims, living);
        latest.isThere = true;
        return latest.need - latest.given;
    }

    public int assigned(int course) throws IllegalArgumentException, NoSuchElementException {
        checkCourse(course);
        checkReceipt();
        return latest.requirementOf[course];
    }

    public int used(int group) throws IllegalArgumentException, NoSuchElementException {
        checkGroup(group);
        checkReceipt();
        return Integer.bitCount(latest.givenCourses() & catalogue.coursesWithin(group));
    }

    public int receipt(int what) throws IllegalArgumentException, NoSuchElementException {
        checkBetween(0, what, 6);
        checkReceipt();
        switch (what) {
            case 0:
                return latest.need;
            case 1:
                return latest.given;
            case 2:
                return latest.unmet;
            case 3:
                return latest.unmetNeed;
            case 4:
                return latest.unmetSupply;
            case 5:
                return latest.student;
            default:
                return latest.term;
        }
    }

    public int supply(int student, int term, int set) throws IllegalArgumentException, IllegalStateException {
        checkQuestion(student, term);
        int living = students[student].livingCourses(catalogue, term);
        readClaims(student);
        return catalogue.mostWithinLimits(living & claims.countingForSet(set));
    }

    public int fewestMore(int student, int term) throws IllegalArgumentException, IllegalStateException {
        checkQuestion(student, term);
        int living = students[student].livingCourses(catalogue, term);
        readClaims(student);
        return plan.fewestAdded(catalogue, claims, living, catalogue.openCourses & ~living);
    }

    private void readClaims(int student) {
        Student who = students[student];
        claims.read(programmes[who.programme], who);
    }

    private void checkGroup(int group) {
        checkBetween(0, group, catalogue.groups - 1);
    }

    private void checkCourse(int course) {
        checkBetween(0, course, catalogue.courses - 1);
    }

    private void checkProgramme(int programme) {
        checkBetween(0, programme, PROGRAMMES - 1);
    }

    /** The programme may be NONE, which has no requirements. */
    private void checkRequirement(int programme, int requirement) {
        checkBetween(1, requirement, programme == NONE ? 0 : programmes[programme].requirements);
    }

    private void checkStudent(int student) {
        checkBetween(0, student, STUDENTS - 1);
    }

    private void checkQuestion(int student, int term) {
        checkStudent(student);
        checkBetween(0, term, LAST_TERM);
        if (students[student].programme == NONE) {
            throw new IllegalStateException("the student is in no programme");
        }
    }

    private void checkReceipt() {
        if (!latest.isThere) {
            throw new NoSuchElementException("there was no audit yet");
        }
    }

    private static void checkNoneOrUpTo(int number, int most) {
        if (number != NONE) {
            checkBetween(0, number, most);
        }
    }

    private static void checkBetween(int least, int number, int most) {
        if (number < least || number > most) {
            throw new IllegalArgumentException("a number is not one of those that are there or may be given");
        }
    }

    private static boolean has(int set, int member) {
        return (set >> member & 1) != 0;
    }

    private static int with(int set, int member) {
        return set | 1 << member;
    }

    private static int without(int set, int member) {
        return set & ~(1 << member);
    }

    /** The groups and the courses. */
    private static final class Catalogue {
        int groups;
        final int[] parent = new int[MOST_GROUPS];
        final int[] limit = new int[MOST_GROUPS];
        final int[] coursesIn = new int[MOST_GROUPS];
        int courses;
        final int[] groupOf = new int[MOST_COURSES];
        final int[] life = new int[MOST_COURSES];
        int openCourses;
        private final int[] takenBelow = new int[MOST_GROUPS];

        int addGroup(int above, int most) {
            int group = groups;
            parent[group] = above;
            limit[group] = most;
            groups++;
            return group;
        }

        int addCourse(int group) {
            int course = courses;
            groupOf[course] = group;
            coursesIn[group] = with(coursesIn[group], course);
            life[course] = NONE;
            openCourses = with(openCourses, course);
            courses++;
            return course;
        }

        int coursesWithin(int top) {
            int tops = with(0, top);
            int found = coursesIn[top];
            // A parent has a lesser number than its children, so one way upwards finds all below the top.
            for (int g = top + 1; g < groups; g++) {
                if (has(tops, parent[g])) {
                    tops = with(tops, g);
                    found |= coursesIn[g];
                }
            }
            return found;
        }

        /** The greatest number of these courses that breaks the limit of no group. */
        int mostWithinLimits(int set) {
            Arrays.fill(takenBelow, 0);
            // Children come before their parents here, so what is below a group is known when it is its turn.
            for (int g = groups - 1; g > 0; g--) {
                takenBelow[parent[g]] += takenIn(g, set);
            }
            return groups == 0 ? 0 : takenIn(0, set);
        }

        private int takenIn(int group, int set) {
            return Math.min(room(group), takenBelow[group] + Integer.bitCount(set & coursesIn[group]));
        }

        int room(int group) {
            return limit[group] == NONE ? MOST_COURSES : limit[group];
        }
    }

    /** The requirements of a programme, from 1 on. */
    private static final class Programme {
        int requirements;
        final int[] demand = new int[MOST_REQUIREMENTS + 1];
        final int[] allowed = new int[MOST_REQUIREMENTS + 1];

        int addRequirement(int asked) {
            requirements++;
            demand[requirements] = asked;
            return requirements;
        }
    }

    private static final class Student {
        int programme = NONE;
        final int[] passed = new int[MOST_COURSES];
        final int[] standsFor = new int[MOST_COURSES];
        int petitions;
        private final int[] exemption = new int[MOST_REQUIREMENTS + 1];

        Student() {
            Arrays.fill(passed, NONE);
        }

        void enter(int number) {
            programme = number;
            Arrays.fill(exemption, 0);
        }

        void addPetition(int from, int to) {
            standsFor[from] = with(standsFor[from], to);
            petitions++;
        }

        /** An exemption above every demand does no more than one as great as the greatest demand. */
        void addExemption(int requirement, int count) {
            exemption[requirement] = Math.min(MOST_DEMAND, exemption[requirement] + count);
        }

        int needOf(Programme of, int requirement) {
            return Math.max(0, of.demand[requirement] - exemption[requirement]);
        }

        boolean hasLiving(int course, int life, int term) {
            int since = passed[course];
            return since != NONE && since <= term && (life == NONE || term - since <= life);
        }

        int livingCourses(Catalogue catalogue, int term) {
            int living = 0;
            for (int c = 0; c < catalogue.courses; c++) {
                if (hasLiving(c, catalogue.life[c], term)) {
                    living = with(living, c);
                }
            }
            return living;
        }
    }

    /** What a student needs of each requirement and which courses count for it; read anew by each call. */
    private static final class Claims {
        int requirements;
        final int[] need = new int[MOST_REQUIREMENTS + 1];
        final int[] counting = new int[MOST_REQUIREMENTS + 1];

        void read(Programme programme, Student student) {
            requirements = programme.requirements;
            for (int r = 1; r <= requirements; r++) {
                need[r] = student.needOf(programme, r);
                counting[r] = countingFor(programme.allowed[r], student);
            }
        }

        private static int countingFor(int allowed, Student student) {
            int counts = allowed;
            for (int c = 0; c < MOST_COURSES; c++) {
                if ((student.standsFor[c] & allowed) != 0) {
                    counts = with(counts, c);
                }
            }
            return counts;
        }

        int all() {
            return (2 << requirements) - 2;
        }

        int needOfSet(int set) {
            int sum = 0;
            for (int r = 1; r <= requirements; r++) {
                if (has(set, r)) {
                    sum += need[r];
                }
            }
            return sum;
        }

        int countingForSet(int set) {
            int counts = 0;
            for (int r = 1; r <= requirements; r++) {
                if (has(set, r)) {
                    counts |= counting[r];
                }
            }
            return counts;
        }
    }

    /** What the latest audit found. */
    private static final class Receipt {
        boolean isThere;
        int student;
        int term;
        int need;
        int given;
        final int[] requirementOf = new int[MOST_COURSES];
        int unmet;
        int unmetNeed;
        int unmetSupply;

        void findUnmet(Catalogue catalogue, Claims claims, int courses) {
            unmet = 0;
            unmetNeed = 0;
            unmetSupply = 0;
            for (int set = 2; set <= claims.all(); set += 2) {
                int setNeed = claims.needOfSet(set);
                int setSupply = catalogue.mostWithinLimits(courses & claims.countingForSet(set));
                if (isMoreUnmet(set, setNeed - setSupply)) {
                    unmet = set;
                    unmetNeed = setNeed;
                    unmetSupply = setSupply;
                }
            }
        }

        private boolean isMoreUnmet(int set, int excess) {
            int greatest = unmetNeed - unmetSupply;
            return excess > greatest || excess == greatest && Integer.bitCount(set) < Integer.bitCount(unmet);
        }

        int givenCourses() {
            int set = 0;
            for (int c = 0; c < MOST_COURSES; c++) {
                if (requirementOf[c] != 0) {
                    set = with(set, c);
                }
            }
            return set;
        }
    }

    /**
     * Assignments as flows: each unit goes from the first group down the tree to a course, on to a
     * requirement for which that counts, and into the sink.
     */
    private static final class Plan {
        private static final int SOURCE = 0;
        private static final int SINK = 1;
        private static final int GROUP_NODE = 2;
        private static final int COURSE_NODE = GROUP_NODE + MOST_GROUPS;
        // The node of requirement 1 is the first one behind those of the courses.
        private static final int BEFORE_REQUIREMENTS = COURSE_NODE + MOST_COURSES - 1;
        private static final int NODES = BEFORE_REQUIREMENTS + MOST_REQUIREMENTS + 1;
        private static final int WAYS = MOST_GROUPS + MOST_COURSES + MOST_COURSES * MOST_REQUIREMENTS + MOST_REQUIREMENTS;

        private final Network network = new Network(NODES, WAYS);

        /** Finds the best assignment of the courses; answers to how many it gives requirements. */
        int assignBest(Catalogue catalogue, Claims claims, int courses) {
            layTree(catalogue);
            layRequirements(claims);
            // Read as a number, with a digit for each course, course 0 first, and with "none" as
            // the greatest digit, a better one of two assignments as large is the lesser number.
            int none = MOST_REQUIREMENTS + 1;
            long weight = 1;
            for (int c = MOST_COURSES - 1; c >= 0; c--) {
                if (has(courses, c)) {
                    layCourse(catalogue, claims, c, -none * weight, weight);
                }
                weight *= none;
            }
            return network.send(SOURCE, SINK, MOST_COURSES);
        }

        /** The least number of further courses with which an assignment is full, or NONE. */
        int fewestAdded(Catalogue catalogue, Claims claims, int had, int further) {
            layTree(catalogue);
            layRequirements(claims);
            for (int c = 0; c < catalogue.courses; c++) {
                if (has(had | further, c)) {
                    layCourse(catalogue, claims, c, has(further, c) ? 1 : 0, 0);
                }
            }
            int given = network.send(SOURCE, SINK, MOST_COURSES);
            return given == claims.needOfSet(claims.all()) ? (int) network.paid : NONE;
        }

        void writeAssignment(int[] requirementOf) {
            Arrays.fill(requirementOf, 0);
            for (int a = 0; a < network.arcs; a += 2) {
                if (network.to[a] > BEFORE_REQUIREMENTS && network.room[a] == 0) {
                    requirementOf[network.from[a] - COURSE_NODE] = network.to[a] - BEFORE_REQUIREMENTS;
                }
            }
        }

        private void layTree(Catalogue catalogue) {
            network.clear();
            for (int g = 0; g < catalogue.groups; g++) {
                int above = g == 0 ? SOURCE : GROUP_NODE + catalogue.parent[g];
                network.lay(above, GROUP_NODE + g, catalogue.room(g), 0);
            }
        }

        private void layRequirements(Claims claims) {
            for (int r = 1; r <= claims.requirements; r++) {
                network.lay(BEFORE_REQUIREMENTS + r, SINK, claims.need[r], 0);
            }
        }

        /** To give requirement r to the course costs base + r * step. */
        private void layCourse(Catalogue catalogue, Claims claims, int course, long base, long step) {
            network.lay(GROUP_NODE + catalogue.groupOf[course], COURSE_NODE + course, 1, 0);
            for (int r = 1; r <= claims.requirements; r++) {
                if (has(claims.counting[r], course)) {
                    network.lay(COURSE_NODE + course, BEFORE_REQUIREMENTS + r, 1, base + r * step);
                }
            }
        }
    }

    /** Nodes and arcs with room and price, through which units are sent as cheaply as can be. */
    private static final class Network {
        // Above the sum of all prices, and low enough that a price can be added without wrapping around.
        private static final long FAR = 1L << 62;

        int arcs;
        final int[] from;
        final int[] to;
        final int[] room;
        long paid;
        private final long[] price;
        private final long[] distance;
        private final int[] arrival;

        Network(int nodes, int ways) {
            from = new int[2 * ways];
            to = new int[2 * ways];
            room = new int[2 * ways];
            price = new long[2 * ways];
            distance = new long[nodes];
            arrival = new int[nodes];
        }

        void clear() {
            arcs = 0;
            paid = 0;
        }

        /** Beside each arc, at the odd number, lies its reverse: by that a later unit takes an earlier one back. */
        void lay(int start, int end, int most, long cost) {
            addArc(start, end, most, cost);
            addArc(end, start, 0, -cost);
        }

        private void addArc(int start, int end, int most, long cost) {
            from[arcs] = start;
            to[arcs] = end;
            room[arcs] = most;
            price[arcs] = cost;
            arcs++;
        }

        /**
         * Sends as many units as there is room for, but at most so many. Each takes the cheapest
         * way that is left, and so the units together are the cheapest ones of their number.
         */
        int send(int source, int sink, int most) {
            int sent = 0;
            while (sent < most && findCheapestWay(source, sink)) {
                takeWay(source, sink);
                sent++;
            }
            return sent;
        }

        private boolean findCheapestWay(int source, int sink) {
            Arrays.fill(distance, FAR);
            distance[source] = 0;
            boolean isShorter = true;
            for (int round = 0; round < distance.length && isShorter; round++) {
                isShorter = shortenOnce();
            }
            return distance[sink] != FAR;
        }

        private boolean shortenOnce() {
            boolean isShorter = false;
            for (int a = 0; a < arcs; a++) {
                if (room[a] > 0 && isShortcut(a)) {
                    distance[to[a]] = distance[from[a]] + price[a];
                    arrival[to[a]] = a;
                    isShorter = true;
                }
            }
            return isShorter;
        }

        private boolean isShortcut(int arc) {
            long start = distance[from[arc]];
            return start != FAR && start + price[arc] < distance[to[arc]];
        }

        private void takeWay(int source, int sink) {
            paid += distance[sink];
            int node = sink;
            for (int step = 0; step < distance.length && node != source; step++) {
                int a = arrival[node];
                room[a]--;
                room[a ^ 1]++;
                node = from[a];
            }
        }
    }
}
