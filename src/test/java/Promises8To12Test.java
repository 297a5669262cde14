/** Promises 8 to 12, the students: each test holds the sentence that it quotes. */
public final class Promises8To12Test {
    private static final int NONE = Offices.NONE;
    private static final int LOWEST = Offices.LOWEST;
    private static final int HIGHEST = Offices.HIGHEST;
    private static final Check CHECK = new Check();

    public static void main(String[] args) {
        CHECK.runAll(Promises8To12Test.class);
    }

    private static void newProgramme() {
        CHECK.sentence("Promise 8", "The student is in a programme from now on, and has no exemptions.");
    }

    static void promise8FromNowOn() {
        newProgramme();
        StudyAudit x = Offices.office(1, 2);
        Offices.addRequirements(x, 2, 3, 1);
        CHECK.illegalState("in none", () -> x.audit(3, 1));
        x.student(3, 0);
        CHECK.due("in programme 0", 2, () -> x.audit(3, 1));
        x.student(3, 2);
        CHECK.due("in programme 2", 4, () -> x.audit(3, 1));
        x.student(3, 1);
        CHECK.due("in programme 1, which is empty", 0, () -> x.audit(3, 1));
        CHECK.illegalState("the other students are in none", () -> x.audit(2, 1));
    }

    static void promise8NoExemptions() {
        newProgramme();
        StudyAudit x = Offices.office(1, 2, 2, 2, 2, 2);
        x.requirement(1, 3);
        for (int s = 0; s < 2; s++) {
            x.student(s, 0);
            x.exempt(s, 1, 1);
            x.exempt(s, 5, 1);
        }
        CHECK.due("with two exemptions", 8, () -> x.audit(0, 1));
        x.student(0, 0);
        CHECK.due("without, though in the same programme", 10, () -> x.audit(0, 1));
        CHECK.due("the other student has them", 8, () -> x.audit(1, 1));
        x.exempt(0, 1, 2);
        x.student(0, 1);
        CHECK.due("without in another one", 3, () -> x.exempt(0, 1, 0));
        x.student(0, 0);
        CHECK.due("and back again", 2, () -> x.exempt(0, 1, 0));
    }

    static void promise8PassesAndPetitionsStay() {
        newProgramme();
        StudyAudit x = Offices.office(2, 1);
        x.requirement(1, 1);
        x.allow(1, 1, 1);
        Offices.enter(x, 0);
        x.substitute(0, 0, 1);
        x.student(0, 1);
        CHECK.due("the pass", true, () -> x.lives(0, 0, 1));
        CHECK.due("the petition", false, () -> x.substitute(0, 0, 1));
        CHECK.due("both", 0, () -> x.audit(0, 1));
    }

    static void promise8ProgrammeBefore() {
        CHECK.sentence("Promise 8", "Answers the programme before, NONE for none.");
        StudyAudit x = new StudyAudit();
        for (int s = 0; s < 4; s++) {
            int student = s;
            CHECK.due("none", NONE, () -> x.student(student, 2));
            CHECK.due("2", 2, () -> x.student(student, 2));
            CHECK.due("2 again", 2, () -> x.student(student, 0));
            CHECK.due("0", 0, () -> x.student(student, 1));
            CHECK.due("1", 1, () -> x.student(student, 0));
        }
    }

    private static void passes() {
        CHECK.sentence("Promise 9",
                "A student has passed a course in a term; of two passes in a course the later term stays.");
    }

    static void promise9Passed() {
        passes();
        StudyAudit x = Offices.office(12);
        x.pass(3, 11, 0);
        CHECK.due("in the first term", true, () -> x.lives(3, 11, 0));
        CHECK.due("not another course", false, () -> x.lives(3, 10, 0));
        CHECK.due("not another student", false, () -> x.lives(2, 11, 0));
        x.open(0, false);
        x.pass(3, 0, 99);
        CHECK.due("one that is not open, in the last term", true, () -> x.lives(3, 0, 99));
        CHECK.due("not before", false, () -> x.lives(3, 0, 98));
    }

    static void promise9LaterTermStays() {
        passes();
        StudyAudit x = Offices.office(2);
        x.expire(0, 2);
        x.pass(0, 0, 5);
        x.pass(0, 0, 4);
        CHECK.due("an earlier one is no matter", false, () -> x.lives(0, 0, 4));
        CHECK.due("nor for the end", true, () -> x.lives(0, 0, 7));
        x.pass(0, 0, 6);
        CHECK.due("a later one moves the beginning", false, () -> x.lives(0, 0, 5));
        CHECK.due("and the end", true, () -> x.lives(0, 0, 8));
        x.pass(0, 0, 6);
        CHECK.due("the same one changes nothing", true, () -> x.lives(0, 0, 6));
        CHECK.due("the same one changes nothing", false, () -> x.lives(0, 0, 9));
    }

    static void promise9TermThen() {
        CHECK.sentence("Promise 9", "Answers the term of the pass then.");
        StudyAudit x = Offices.office(2);
        CHECK.due("the first term", 0, () -> x.pass(0, 0, 0));
        CHECK.due("the same", 0, () -> x.pass(0, 0, 0));
        CHECK.due("later", 5, () -> x.pass(0, 0, 5));
        CHECK.due("earlier", 5, () -> x.pass(0, 0, 4));
        CHECK.due("the last term", 99, () -> x.pass(0, 0, 99));
        CHECK.due("the first term again", 99, () -> x.pass(0, 0, 0));
        CHECK.due("another course", 3, () -> x.pass(0, 1, 3));
        CHECK.due("another student", 2, () -> x.pass(3, 0, 2));
    }

    static void promise9WrongTerm() {
        CHECK.sentence("Promise 9", "IllegalArgumentException: term is not 0 .. 99.");
        StudyAudit x = Offices.office(1);
        CHECK.illegalArguments("term", Offices.outside(0, 99), t -> x.pass(0, 0, t));
        CHECK.due("there is no pass", false, () -> x.lives(0, 0, HIGHEST));
        CHECK.due("0", 0, () -> x.pass(0, 0, 0));
        CHECK.illegalArguments("term", Offices.outside(0, 99), t -> x.pass(0, 0, t));
        CHECK.due("that pass is as it was", true, () -> x.lives(0, 0, 0));
        CHECK.due("99", 99, () -> x.pass(0, 0, 99));
    }

    private static void petition() {
        CHECK.sentence("Promise 10", "A petition of a student: from counts wherever a requirement allows to.");
    }

    static void promise10Counts() {
        petition();
        StudyAudit x = Offices.office(12, 1, 1, 1);
        x.requirement(2, 1);
        x.allow(0, 1, 0);
        x.allow(0, 3, 0);
        x.allow(2, 1, 0);
        Offices.enter(x, 11);
        CHECK.due("not yet", 0, () -> x.supply(0, 1, -1));
        x.substitute(0, 11, 0);
        CHECK.due("for requirement 1", 1, () -> x.supply(0, 1, 0b10));
        CHECK.due("not for 2, which does not allow it", 0, () -> x.supply(0, 1, 0b100));
        CHECK.due("for requirement 3", 1, () -> x.supply(0, 1, 0b1000));
        x.allow(0, 2, 0);
        CHECK.due("for 2, which allows it now", 1, () -> x.supply(0, 1, 0b100));
        x.student(0, 2);
        CHECK.due("in another programme", 1, () -> x.supply(0, 1, 0b10));
    }

    static void promise10OneWayAndOneStep() {
        petition();
        StudyAudit x = Offices.office(3, 1, 1, 1);
        for (int c = 0; c < 3; c++) {
            x.allow(0, c + 1, c);
        }
        Offices.enter(x, 1);
        x.substitute(0, 0, 1);
        CHECK.due("to does not count for from", 0, () -> x.supply(0, 1, 0b10));
        x.substitute(0, 2, 0);
        x.substitute(0, 1, 2);
        CHECK.due("from counts for to", 1, () -> x.supply(0, 1, 0b1000));
        CHECK.due("but not over two petitions", 0, () -> x.supply(0, 1, 0b10));
        CHECK.due("and still where it is allowed itself", 1, () -> x.supply(0, 1, 0b100));
    }

    static void promise10OfOneStudent() {
        petition();
        StudyAudit x = Offices.office(2, 1);
        x.allow(0, 1, 1);
        for (int s = 0; s < 4; s++) {
            x.student(s, 0);
            x.pass(s, 0, 1);
        }
        x.substitute(2, 0, 1);
        for (int s = 0; s < 4; s++) {
            int student = s;
            CHECK.due("student " + s, student == 2 ? 1 : 0, () -> x.supply(student, 1, 2));
        }
    }

    /** Course 0 lies in a group with limit 0, course 1 outside it. */
    static void promise10LimitsAreThoseOfFrom() {
        petition();
        StudyAudit x = Offices.office(0, 1);
        x.group(0, 0);
        x.course(1);
        x.course(0);
        x.allow(0, 1, 0);
        Offices.enter(x, 1);
        x.substitute(0, 1, 0);
        CHECK.due("it counts for a course that could not be given itself", 0, () -> x.audit(0, 1));
        CHECK.used("from is used", x, 1, 0);
    }

    static void promise10False() {
        CHECK.sentence("Promise 10", "False when there was such a one, or from and to are the same.");
        StudyAudit x = Offices.office(12);
        CHECK.due("the same course", false, () -> x.substitute(0, 11, 11));
        CHECK.due("a new one", true, () -> x.substitute(0, 11, 0));
        CHECK.due("there was one", false, () -> x.substitute(0, 11, 0));
        CHECK.due("the other way round", true, () -> x.substitute(0, 0, 11));
        CHECK.due("the same from", true, () -> x.substitute(0, 11, 10));
        CHECK.due("the same to", true, () -> x.substitute(0, 10, 0));
        CHECK.due("another student", true, () -> x.substitute(1, 11, 0));
    }

    /** Those that answer false in between take no place of the eight. */
    static void promise10Eight() {
        CHECK.sentence("Promise 10", "IllegalStateException: the student has 8, and this would be another one.");
        StudyAudit x = Offices.office(12, 1);
        x.allow(0, 1, 9);
        for (int from = 0; from < 8; from++) {
            int course = from;
            CHECK.due("petition " + (from + 1), true, () -> x.substitute(0, course, course + 1));
            CHECK.due("once more", false, () -> x.substitute(0, course, course + 1));
            CHECK.due("the same course", false, () -> x.substitute(0, course, course));
        }
        CHECK.illegalState("a ninth", () -> x.substitute(0, 8, 9));
        CHECK.illegalState("a ninth, again", () -> x.substitute(0, 8, 9));
        CHECK.illegalState("one there is, the other way round", () -> x.substitute(0, 1, 0));
        CHECK.due("one that is there is no other one", false, () -> x.substitute(0, 7, 8));
        CHECK.due("nor is the same course", false, () -> x.substitute(0, 8, 8));
        CHECK.due("another student has none yet", true, () -> x.substitute(1, 8, 9));
        Offices.enter(x, 8);
        CHECK.due("the ninth is not there", 0, () -> x.supply(0, 1, 2));
        CHECK.illegalState("nor is there place in a new programme", () -> x.substitute(0, 8, 9));
    }

    private static void exemption() {
        CHECK.sentence("Promise 11", "The exemption of a student for a requirement becomes greater by count.");
    }

    static void promise11Greater() {
        exemption();
        StudyAudit x = Offices.office(1, 6, 2, 1, 1, 6);
        x.requirement(1, 4);
        x.student(0, 0);
        x.student(1, 0);
        x.student(2, 1);
        x.exempt(0, 1, 2);
        x.exempt(0, 1, 3);
        CHECK.due("2 and 3 are 5", 1, () -> x.exempt(0, 1, 0));
        x.exempt(0, 5, 1);
        CHECK.due("the last requirement", 5, () -> x.exempt(0, 5, 0));
        CHECK.due("another requirement", 2, () -> x.exempt(0, 2, 0));
        CHECK.due("another student", 6, () -> x.exempt(1, 1, 0));
        CHECK.due("another programme", 4, () -> x.exempt(2, 1, 0));
        CHECK.due("an audit needs the rest", 10, () -> x.audit(0, 0));
    }

    static void promise11NeverTooGreat() {
        exemption();
        StudyAudit x = Offices.office(1, 6);
        x.student(0, 0);
        for (int i = 0; i < 500; i++) {
            CHECK.due("exempt " + i, 0, () -> x.exempt(0, 1, 9));
        }
    }

    static void promise11NeedsThen() {
        CHECK.sentence("Promise 11", "Answers what the student needs of it then.");
        StudyAudit x = Offices.office(1, 6, 1);
        x.student(0, 0);
        CHECK.due("by 0", 6, () -> x.exempt(0, 1, 0));
        CHECK.due("by 1", 5, () -> x.exempt(0, 1, 1));
        CHECK.due("by 4", 1, () -> x.exempt(0, 1, 4));
        CHECK.due("by 0 again", 1, () -> x.exempt(0, 1, 0));
        CHECK.due("just all of it", 0, () -> x.exempt(0, 1, 1));
        CHECK.due("more than that", 0, () -> x.exempt(0, 1, 1));
        CHECK.due("by 9 at once", 0, () -> x.exempt(0, 2, 9));
    }

    static void promise11WrongCountOrRequirement() {
        CHECK.sentence("Promise 11", "IllegalArgumentException (for the requirement, too, when the student is in no"
                + " programme): count is not 0 .. 9.");
        StudyAudit x = Offices.office(1, 6, 6);
        Offices.addRequirements(x, 1, 1, 1, 1);
        for (int s = 0; s < 4; s++) {
            int student = s;
            CHECK.illegalArgument("in no programme, student " + s, () -> x.exempt(student, 1, 1));
            CHECK.illegalArgument("in no programme, requirement 0", () -> x.exempt(student, 0, 1));
        }
        x.student(0, 0);
        CHECK.illegalArguments("count", Offices.outside(0, 9), n -> x.exempt(0, 1, n));
        CHECK.illegalArguments("requirement", Offices.outside(1, 2), r -> x.exempt(0, r, 1));
        CHECK.due("nothing was changed", 12, () -> x.audit(0, 0));
        CHECK.illegalArgument("of another programme alone", () -> x.exempt(0, 3, 1));
        CHECK.illegalArgument("another student is still in none", () -> x.exempt(1, 1, 0));
    }

    private static void living() {
        CHECK.sentence("Promise 12",
                "Whether the student's pass in a course lives in a term (any number); false without a pass.");
    }

    static void promise12AnyNumber() {
        living();
        StudyAudit x = Offices.office(2);
        x.pass(0, 0, 1);
        x.pass(0, 1, 0);
        CHECK.due("the highest", true, () -> x.lives(0, 0, HIGHEST));
        CHECK.due("100", true, () -> x.lives(0, 0, 100));
        CHECK.due("-1", false, () -> x.lives(0, 0, -1));
        CHECK.due("-1 is before 0", false, () -> x.lives(0, 1, -1));
        CHECK.due("the lowest", false, () -> x.lives(0, 0, LOWEST));
        CHECK.due("next to the lowest", false, () -> x.lives(0, 0, LOWEST + 1));
        x.expire(0, 40);
        CHECK.due("the highest, with a life", false, () -> x.lives(0, 0, HIGHEST));
        CHECK.due("the lowest, with a life", false, () -> x.lives(0, 0, LOWEST));
        CHECK.due("the lowest and a life round", false, () -> x.lives(0, 0, LOWEST + 41));
        x.pass(0, 0, 99);
        CHECK.due("the end of the longest life", true, () -> x.lives(0, 0, 139));
        CHECK.due("behind it", false, () -> x.lives(0, 0, 140));
    }

    static void promise12WithoutPass() {
        living();
        StudyAudit x = Offices.office(12);
        x.pass(1, 0, 0);
        x.pass(0, 1, 0);
        int[] terms = {LOWEST, -2, -1, 0, 99, HIGHEST};
        for (int t : terms) {
            CHECK.due("term " + t, false, () -> x.lives(0, 0, t));
            CHECK.due("the last student and course, term " + t, false, () -> x.lives(3, 11, t));
        }
        x.expire(0, 40);
        CHECK.due("nor with a life", false, () -> x.lives(0, 0, 0));
        CHECK.due("nor with a life, term 39", false, () -> x.lives(0, 0, 39));
        x.student(0, 2);
        CHECK.due("nor in a programme", false, () -> x.lives(0, 0, 0));
    }
}
