import java.util.ArrayList;
import java.util.List;

/** Many long runs of calls, right and wrong ones, on the class and on the model: each answer is the same. */
public final class AgainstModelTest {
    private static final int RUNS = 400;
    private static final int CALLS = 512;

    public static void main(String[] args) {
        int runs = args.length > 0 ? Integer.parseInt(args[0]) : RUNS;
        int wrong = 0;
        long calls = 0;
        for (int run = 1; run <= runs; run++) {
            Run one = new Run(run);
            wrong += one.play() ? 0 : 1;
            calls += one.made;
        }
        System.out.println(wrong + " of " + runs + " runs, " + calls + " calls in all, went wrong");
        if (wrong > 0) {
            System.exit(1);
        }
    }

    /** One run; its number alone decides all its calls. */
    private static final class Run {
        private final int number;
        private long seed;
        private final StudyAudit office = new StudyAudit();
        private final Model model = new Model();
        private final List<String> told = new ArrayList<>();
        private int made;
        private int added;

        // How a run is made: the ranges differ from run to run, so that small and large cases come up.
        private final boolean isFurnished;
        private final int groups;
        private final int courses;
        private final int limitMost;
        private final int demandMost;
        private final int requirements;
        private final int allowedTenths;
        private final int passedTenths;
        private final int programmes;
        private final int students;
        private final int wrongOnes;

        Run(int number) {
            this.number = number;
            seed = number * 7919L;
            isFurnished = number % 5 > 0;
            groups = 1 + below(6);
            courses = 2 + below(11);
            limitMost = 1 + below(12);
            requirements = 1 + below(5);
            demandMost = 1 + below(Math.max(1, 6 - requirements));
            allowedTenths = 1 + below(9);
            passedTenths = below(10);
            programmes = 1 + below(3);
            students = 1 + below(4);
            wrongOnes = below(3) == 0 ? 4 : 40;
        }

        private int below(int bound) {
            seed = seed * 6364136223846793005L + 1442695040888963407L;
            return (int) Math.floorMod(seed >> 33, (long) bound);
        }

        /** Mostly a number below the bound, at times one that need not be there. */
        private int pick(int bound) {
            if (below(wrongOnes) > 0) {
                return below(bound);
            }
            int[] odd = {-1, -2, bound, bound + 1, 5, 6, 12, 13, 40, 41, 99, 100, Integer.MAX_VALUE, Integer.MIN_VALUE};
            return odd[below(odd.length)];
        }

        boolean play() {
            boolean isSame = furnish();
            while (made < CALLS && isSame) {
                boolean isBare = !isFurnished && made < CALLS / 2;
                isSame = isBare || below(3) == 0 ? build() : ask();
            }
            return isSame;
        }

        /** Calls by chance alone would seldom make a programme that can be filled, so most runs begin with one. */
        private boolean furnish() {
            boolean isSame = true;
            for (int g = 0; g < groups; g++) {
                isSame &= newGroup(g == 0 ? -1 : below(g));
            }
            for (int c = 0; c < courses && isFurnished; c++) {
                isSame &= newCourse(below(groups));
            }
            for (int r = 1; r <= requirements && isFurnished; r++) {
                isSame &= newRequirement(0, 1 + below(demandMost));
                for (int c = 0; c < courses; c++) {
                    isSame &= below(10) >= allowedTenths || allow(0, r, c);
                }
            }
            for (int s = 0; s < students && isFurnished; s++) {
                isSame &= enter(s, 0);
                for (int c = 0; c < courses; c++) {
                    isSame &= below(10) >= passedTenths || pass(s, c, below(9));
                }
            }
            return isSame;
        }

        private boolean newGroup(int parent) {
            int limit = below(parent == -1 ? 4 : 2) > 0 ? -1 : pick(limitMost + 1);
            return same("group(" + parent + ", " + limit + ")",
                    () -> office.group(parent, limit), () -> model.group(parent, limit));
        }

        private boolean build() {
            int what = below(22);
            if (what < 1) {
                return newGroup(pick(groups));
            }
            if (what < 4) {
                return newCourse(pick(groups));
            }
            if (what < 6 && mayAddRequirement()) {
                return newRequirement(pick(programmes), 1 + pick(demandMost));
            }
            if (what < 11) {
                return allow(pick(programmes), 1 + pick(requirements), pick(courses));
            }
            if (what < 15) {
                return pass(pick(students), pick(courses), pick(below(3) == 0 ? 100 : 8));
            }
            return change(what);
        }

        /** Most runs leave their programmes small enough to be filled. */
        private boolean mayAddRequirement() {
            return added++ < programmes * requirements || below(10) == 0;
        }

        private boolean newCourse(int group) {
            return same("course(" + group + ")", () -> office.course(group), () -> model.course(group));
        }

        private boolean newRequirement(int programme, int demand) {
            return same("requirement(" + programme + ", " + demand + ")",
                    () -> office.requirement(programme, demand), () -> model.requirement(programme, demand));
        }

        private boolean enter(int student, int programme) {
            return same("student(" + student + ", " + programme + ")",
                    () -> office.student(student, programme), () -> model.student(student, programme));
        }

        private boolean allow(int programme, int requirement, int course) {
            return same("allow(" + programme + ", " + requirement + ", " + course + ")",
                    () -> office.allow(programme, requirement, course),
                    () -> model.allow(programme, requirement, course));
        }

        private boolean pass(int student, int course, int term) {
            return same("pass(" + student + ", " + course + ", " + term + ")",
                    () -> office.pass(student, course, term), () -> model.pass(student, course, term));
        }

        private boolean change(int what) {
            int student = pick(students);
            int course = pick(courses);
            switch (what) {
                case 15:
                    boolean is = below(2) == 0;
                    return same("open(" + course + ", " + is + ")",
                            () -> office.open(course, is), () -> model.open(course, is));
                case 16:
                    int terms = below(2) == 0 ? -1 : pick(41);
                    return same("expire(" + course + ", " + terms + ")",
                            () -> office.expire(course, terms), () -> model.expire(course, terms));
                case 17:
                    return enter(student, below(2) == 0 ? 0 : pick(programmes));
                case 18:
                case 19:
                case 20:
                    int to = pick(courses);
                    return same("substitute(" + student + ", " + course + ", " + to + ")",
                            () -> office.substitute(student, course, to), () -> model.substitute(student, course, to));
                default:
                    int requirement = 1 + pick(requirements);
                    int count = below(3) == 0 ? pick(10) : below(2);
                    return same("exempt(" + student + ", " + requirement + ", " + count + ")",
                            () -> office.exempt(student, requirement, count),
                            () -> model.exempt(student, requirement, count));
            }
        }

        private boolean ask() {
            int student = pick(students);
            int term = below(2) == 0 ? pick(100) : 8 + pick(92);
            switch (below(8)) {
                case 0:
                    int course = pick(courses);
                    return same("lives(" + student + ", " + course + ", " + term + ")",
                            () -> office.lives(student, course, term), () -> model.lives(student, course, term));
                case 1:
                    int set = below(3) == 0 ? below(1 << 30) - (1 << 29) : below(64);
                    return same("supply(" + student + ", " + term + ", " + set + ")",
                            () -> office.supply(student, term, set), () -> model.supply(student, term, set));
                case 2:
                    return readReceipt();
                case 3:
                case 4:
                    return same("fewestMore(" + student + ", " + term + ")",
                            () -> office.fewestMore(student, term), () -> model.fewestMore(student, term));
                default:
                    return same("audit(" + student + ", " + term + ")",
                            () -> office.audit(student, term), () -> model.audit(student, term)) && sameReceipt();
            }
        }

        /** A run has so many calls only, so mostly a part of the receipt is looked at. */
        private boolean sameReceipt() {
            boolean isSame = true;
            for (int left = below(6) == 0 ? 30 : 4; left > 0 && isSame; left--) {
                isSame = readReceipt();
            }
            return isSame;
        }

        private boolean readReceipt() {
            int what = below(4);
            if (what == 0) {
                int n = pick(groups);
                return same("used(" + n + ")", () -> office.used(n), () -> model.used(n));
            }
            if (what == 1) {
                int n = pick(7);
                return same("receipt(" + n + ")", () -> office.receipt(n), () -> model.receipt(n));
            }
            int n = pick(courses);
            return same("assigned(" + n + ")", () -> office.assigned(n), () -> model.assigned(n));
        }

        private boolean same(String text, Check.Call got, Check.Call want) {
            if (made == CALLS) {
                return true;
            }
            Object due = Check.answerOf(want);
            Object answer = Check.answerOf(got);
            told.add("  " + text + " -> " + answer);
            made++;
            if (answer.equals(due)) {
                return true;
            }
            System.out.println("run " + number + ", due is " + due + " at the last of these calls:");
            told.forEach(System.out::println);
            return false;
        }
    }
}
