import java.util.List;
import java.util.function.Supplier;

/** The last paragraph of "Terms": what a call throws, and that a call that throws, or only asks, changes nothing. */
public final class RefusalsTest {
    private static final int NONE = Offices.NONE;
    private static final Check CHECK = new Check();

    private interface Call {
        Object on(StudyAudit x);
    }

    private interface CallWith {
        Object on(StudyAudit x, int number);
    }

    /** Offices to make calls in, with the last numbers that are there. */
    private static final class Kind {
        private final String name;
        private final Supplier<StudyAudit> maker;
        private final int lastGroup;
        private final int lastCourse;
        private final int lastRequirement;
        private final List<String> state;

        Kind(String name, Supplier<StudyAudit> maker, int lastGroup, int lastCourse, int lastRequirement) {
            this.name = name;
            this.maker = maker;
            this.lastGroup = lastGroup;
            this.lastCourse = lastCourse;
            this.lastRequirement = lastRequirement;
            state = State.of(maker.get());
        }
    }

    private static final Kind BARE = new Kind("new object", StudyAudit::new, -1, -1, 0);
    private static final Kind WITHOUT_RECEIPT =
            new Kind("office without a receipt", RefusalsTest::officeWithoutReceipt, 1, 2, 2);
    private static final Kind SMALL = new Kind("small office", RefusalsTest::smallOffice, 1, 2, 2);
    private static final Kind FULL = new Kind("full office", RefusalsTest::fullOffice, 5, 11, 5);
    private static final List<Kind> KINDS = List.of(BARE, WITHOUT_RECEIPT, SMALL, FULL);

    public static void main(String[] args) {
        CHECK.runAll(RefusalsTest.class);
    }

    private static StudyAudit officeWithoutReceipt() {
        StudyAudit x = Offices.office(2, 2, 1);
        x.group(0, 1);
        x.course(1);
        Offices.addRequirements(x, 1, 1, 3);
        Offices.allow(x, 1, 0, 1);
        Offices.allow(x, 2, 2);
        x.student(0, 0);
        x.student(1, 1);
        x.pass(0, 1, 4);
        x.pass(0, 2, 5);
        x.substitute(0, 2, 0);
        x.exempt(1, 2, 1);
        x.expire(2, 3);
        x.open(0, false);
        return x;
    }

    private static StudyAudit smallOffice() {
        StudyAudit x = officeWithoutReceipt();
        x.audit(0, 6);
        return x;
    }

    /** As many groups, courses, requirements and petitions (of student 0) as can be; student 3 is in no programme. */
    private static StudyAudit fullOffice() {
        StudyAudit x = new StudyAudit();
        int[][] groups = {{NONE, NONE}, {0, 12}, {0, 1}, {1, 2}, {3, NONE}, {2, NONE}};
        for (int[] g : groups) {
            x.group(g[0], g[1]);
        }
        for (int c = 0; c < 12; c++) {
            x.course(c % 6);
        }
        Offices.addRequirements(x, 0, 1, 2, 2, 1, 1);
        Offices.addRequirements(x, 1, 1, 1, 1, 1, 6);
        Offices.addRequirements(x, 2, 1, 1, 1, 1, 1);
        for (int r = 1; r <= 5; r++) {
            Offices.allow(x, r, r - 1, r + 3, r + 6);
        }
        x.student(0, 0);
        x.student(1, 0);
        x.student(2, 1);
        for (int c = 0; c < 8; c++) {
            x.pass(0, c, c);
            x.substitute(0, c, c + 1);
        }
        x.pass(1, 3, 9);
        x.exempt(0, 2, 1);
        x.exempt(2, 5, 2);
        x.expire(4, 3);
        x.open(5, false);
        x.audit(0, 6);
        return x;
    }

    private static void refused(Kind kind, String exception, String what, Call call) {
        answered(kind, "throws." + exception, what, call);
    }

    /** The answer is as due, and nothing is changed. */
    private static void answered(Kind kind, Object due, String what, Call call) {
        StudyAudit x = kind.maker.get();
        CHECK.due(kind.name + ": " + what, due, () -> call.on(x));
        CHECK.due(kind.name + ": what is changed by " + what, "no difference",
                () -> State.difference(State.of(x), kind.state));
    }

    private static void illegalArgument(Kind kind, String what, Call call) {
        refused(kind, "IllegalArgumentException", what, call);
    }

    private static void illegalState(Kind kind, String what, Call call) {
        refused(kind, "IllegalStateException", what, call);
    }

    private static void noSuchElement(Kind kind, String what, Call call) {
        refused(kind, "NoSuchElementException", what, call);
    }

    private static void illegalArguments(Kind kind, String what, int[] numbers, CallWith call) {
        for (int number : numbers) {
            illegalArgument(kind, what + " " + number, x -> call.on(x, number));
        }
    }

    private static void notThere() {
        CHECK.sentence("Terms", "Groups, courses, programmes, requirements and students that are not there:"
                + " IllegalArgumentException, tested first everywhere; programmes 0 .. 2 and students 0 .. 3 are there"
                + " from the beginning.");
    }

    /** In a full office the state would refuse most of these calls, too, and a bare one has no receipt. */
    static void groupsNotThere() {
        notThere();
        for (Kind kind : KINDS) {
            int[] numbers = Offices.outside(0, kind.lastGroup);
            int[] parents = Offices.outside(NONE, kind.lastGroup);
            illegalArguments(kind, "parent", parents, (x, n) -> x.group(n, NONE));
            illegalArguments(kind, "course in group", numbers, (x, n) -> x.course(n));
            illegalArguments(kind, "used group", numbers, (x, n) -> x.used(n));
        }
    }

    static void coursesNotThere() {
        notThere();
        for (Kind kind : KINDS) {
            int[] numbers = Offices.outside(0, kind.lastCourse);
            illegalArguments(kind, "open course", numbers, (x, n) -> x.open(n, false));
            illegalArguments(kind, "expire course", numbers, (x, n) -> x.expire(n, 0));
            illegalArguments(kind, "allow course", numbers, (x, n) -> x.allow(0, 1, n));
            illegalArguments(kind, "pass course", numbers, (x, n) -> x.pass(0, n, 7));
            illegalArguments(kind, "substitute from course", numbers, (x, n) -> x.substitute(0, n, 0));
            illegalArguments(kind, "substitute to course", numbers, (x, n) -> x.substitute(0, 0, n));
            illegalArguments(kind, "substitute the same course", numbers, (x, n) -> x.substitute(0, n, n));
            illegalArguments(kind, "lives course", numbers, (x, n) -> x.lives(0, n, 7));
            illegalArguments(kind, "assigned course", numbers, (x, n) -> x.assigned(n));
        }
    }

    static void programmesNotThere() {
        notThere();
        for (Kind kind : KINDS) {
            int[] numbers = Offices.outside(0, 2);
            illegalArguments(kind, "requirement of programme", numbers, (x, n) -> x.requirement(n, 1));
            illegalArguments(kind, "allow in programme", numbers, (x, n) -> x.allow(n, 1, 0));
            illegalArguments(kind, "student in programme", numbers, (x, n) -> x.student(0, n));
        }
    }

    static void requirementsNotThere() {
        notThere();
        for (Kind kind : KINDS) {
            int[] numbers = Offices.outside(1, kind.lastRequirement);
            illegalArguments(kind, "allow requirement", numbers, (x, n) -> x.allow(0, n, 0));
            illegalArguments(kind, "exempt requirement", numbers, (x, n) -> x.exempt(0, n, 1));
        }
        illegalArgument(SMALL, "allow 1 of programme 2, which has none", x -> x.allow(2, 1, 0));
        illegalArgument(FULL, "exempt 1 of no programme", x -> x.exempt(3, 1, 1));
    }

    static void studentsNotThere() {
        notThere();
        for (Kind kind : KINDS) {
            int[] numbers = Offices.outside(0, 3);
            illegalArguments(kind, "student", numbers, (x, n) -> x.student(n, 0));
            illegalArguments(kind, "pass of student", numbers, (x, n) -> x.pass(n, 0, 7));
            illegalArguments(kind, "substitute of student", numbers, (x, n) -> x.substitute(n, 0, 1));
            illegalArguments(kind, "exempt of student", numbers, (x, n) -> x.exempt(n, 1, 1));
            illegalArguments(kind, "lives of student", numbers, (x, n) -> x.lives(n, 0, 7));
            illegalArguments(kind, "audit of student", numbers, (x, n) -> x.audit(n, 7));
            illegalArguments(kind, "supply of student", numbers, (x, n) -> x.supply(n, 7, 2));
            illegalArguments(kind, "fewestMore of student", numbers, (x, n) -> x.fewestMore(n, 7));
        }
    }

    static void thereFromTheBeginning() {
        notThere();
        StudyAudit x = new StudyAudit();
        for (int s = 0; s < 4; s++) {
            for (int p = 0; p < 3; p++) {
                int student = s;
                int programme = p;
                CHECK.due("student " + s + " in programme " + p, programme - 1, () -> x.student(student, programme));
                CHECK.due("audit of student " + s, 0, () -> x.audit(student, 0));
            }
        }
        for (int p = 0; p < 3; p++) {
            int programme = p;
            CHECK.due("requirement of programme " + p, 1, () -> x.requirement(programme, 1));
        }
    }

    private static void namedFirst() {
        CHECK.sentence("Terms", "Methods throw what their comments name, the one named first when several would do; a"
                + " call that throws changes nothing.");
    }

    static void argumentsBeforeTheState() {
        namedFirst();
        illegalArgument(FULL, "group with a wrong limit", x -> x.group(0, 13));
        illegalArgument(FULL, "a first group with a wrong limit", x -> x.group(NONE, -2));
        illegalArgument(SMALL, "a second first group with a wrong limit", x -> x.group(NONE, 13));
        illegalArgument(FULL, "requirement with demand 0", x -> x.requirement(0, 0));
        illegalArgument(FULL, "requirement with demand 7", x -> x.requirement(2, 7));
        illegalArgument(FULL, "audit in no programme, term 100", x -> x.audit(3, 100));
        illegalArgument(FULL, "supply in no programme, term -1", x -> x.supply(3, -1, 2));
        illegalArgument(FULL, "fewestMore in no programme, term 100", x -> x.fewestMore(3, 100));
        illegalArgument(WITHOUT_RECEIPT, "receipt 7", x -> x.receipt(7));
        illegalArgument(BARE, "receipt -1", x -> x.receipt(-1));
    }

    static void wrongArgumentsChangeNothing() {
        namedFirst();
        for (Kind kind : List.of(WITHOUT_RECEIPT, SMALL)) {
            illegalArguments(kind, "limit", Offices.outside(NONE, 12), (x, n) -> x.group(0, n));
            illegalArguments(kind, "life", Offices.outside(NONE, 40), (x, n) -> x.expire(2, n));
            illegalArguments(kind, "demand", Offices.outside(1, 6), (x, n) -> x.requirement(0, n));
            illegalArguments(kind, "term of a pass", Offices.outside(0, 99), (x, n) -> x.pass(0, 0, n));
            illegalArguments(kind, "count", Offices.outside(0, 9), (x, n) -> x.exempt(0, 1, n));
            illegalArguments(kind, "term of an audit", Offices.outside(0, 99), (x, n) -> x.audit(1, n));
            illegalArguments(kind, "term of supply", Offices.outside(0, 99), (x, n) -> x.supply(1, n, 2));
            illegalArguments(kind, "term of fewestMore", Offices.outside(0, 99), (x, n) -> x.fewestMore(1, n));
            illegalArguments(kind, "what", Offices.outside(0, 6), (x, n) -> x.receipt(n));
        }
    }

    static void statesChangeNothing() {
        namedFirst();
        illegalState(SMALL, "a second group without a parent", x -> x.group(NONE, NONE));
        illegalState(FULL, "a seventh group", x -> x.group(5, 12));
        illegalState(FULL, "a seventh group without a parent", x -> x.group(NONE, NONE));
        illegalState(FULL, "a thirteenth course", x -> x.course(5));
        for (int p = 0; p < 3; p++) {
            int programme = p;
            illegalState(FULL, "a sixth requirement of " + p, x -> x.requirement(programme, 6));
        }
        illegalState(FULL, "a ninth petition", x -> x.substitute(0, 11, 0));
        for (Kind kind : KINDS) {
            illegalState(kind, "audit in no programme", x -> x.audit(3, 7));
            illegalState(kind, "supply in no programme", x -> x.supply(3, 0, -1));
            illegalState(kind, "fewestMore in no programme", x -> x.fewestMore(3, 99));
        }
    }

    static void noReceiptChangesNothing() {
        namedFirst();
        noSuchElement(WITHOUT_RECEIPT, "assigned", x -> x.assigned(2));
        noSuchElement(WITHOUT_RECEIPT, "used", x -> x.used(1));
        noSuchElement(WITHOUT_RECEIPT, "receipt 0", x -> x.receipt(0));
        noSuchElement(BARE, "receipt 6", x -> x.receipt(6));
    }

    private static void nothingBeyond() {
        CHECK.sentence("Not promised", "Nothing is promised beyond the answers and state changes described above");
    }

    static void questionsChangeNothing() {
        nothingBeyond();
        answered(SMALL, true, "lives", x -> x.lives(0, 1, Offices.HIGHEST));
        answered(SMALL, 1, "assigned", x -> x.assigned(2));
        answered(SMALL, 1, "used", x -> x.used(1));
        answered(SMALL, 3, "receipt", x -> x.receipt(0));
        for (Kind kind : List.of(WITHOUT_RECEIPT, SMALL)) {
            answered(kind, 2, "supply", x -> x.supply(0, 6, -1));
            answered(kind, NONE, "fewestMore with too few", x -> x.fewestMore(0, 6));
        }
        answered(FULL, 7, "fewestMore", x -> x.fewestMore(1, 9));
    }

    static void whatIsSoAlreadyChangesNothing() {
        nothingBeyond();
        for (Kind kind : List.of(WITHOUT_RECEIPT, SMALL)) {
            answered(kind, false, "open as it is", x -> x.open(0, false));
            answered(kind, 3, "expire as it is", x -> x.expire(2, 3));
            answered(kind, false, "allow once more", x -> x.allow(0, 1, 1));
            answered(kind, 4, "pass once more", x -> x.pass(0, 1, 4));
            answered(kind, 5, "pass earlier", x -> x.pass(0, 2, 0));
            answered(kind, false, "substitute once more", x -> x.substitute(0, 2, 0));
            answered(kind, false, "substitute the same", x -> x.substitute(0, 1, 1));
            answered(kind, 2, "exempt by 0", x -> x.exempt(1, 2, 0));
            answered(kind, 0, "student as it is", x -> x.student(0, 0));
        }
    }
}
