/** Promises 13 to 18, the questions: each test holds the sentence that it quotes. */
public final class Promises13To18Test {
    private static final int NONE = Offices.NONE;
    private static final Check CHECK = new Check();

    public static void main(String[] args) {
        CHECK.runAll(Promises13To18Test.class);
    }

    private static void audits() {
        CHECK.sentence("Promise 13", "An audit: the best assignment of the courses in which the student's passes live in"
                + " the term, and the set that is unmet, are the receipt.");
    }

    static void promise13PassesThatLive() {
        audits();
        StudyAudit x = Offices.office(12, 2);
        Offices.allow(x, 1, Offices.ALL_COURSES);
        Offices.enter(x);
        x.pass(0, 0, 0);
        x.pass(0, 1, 3);
        x.expire(1, 2);
        x.pass(0, 11, 5);
        x.pass(1, 2, 0);
        x.audit(0, 2);
        CHECK.assignment("one is to come", x, 1, 0, 0, 0, 0, 0, 0, 0, 0, 0, 0, 0);
        x.audit(0, 3);
        CHECK.assignment("in its own term", x, 1, 1, 0, 0, 0, 0, 0, 0, 0, 0, 0, 0);
        x.audit(0, 5);
        CHECK.assignment("in the last term of its life", x, 1, 1, 0, 0, 0, 0, 0, 0, 0, 0, 0, 0);
        x.audit(0, 6);
        CHECK.assignment("behind its life", x, 1, 0, 0, 0, 0, 0, 0, 0, 0, 0, 0, 1);
        x.open(11, false);
        x.audit(0, 99);
        CHECK.assignment("one that is not open any more", x, 1, 0, 0, 0, 0, 0, 0, 0, 0, 0, 0, 1);
    }

    static void promise13NoPasses() {
        audits();
        StudyAudit x = Offices.office(3, 1, 2);
        Offices.allow(x, 1, 0, 1, 2);
        Offices.enter(x);
        CHECK.due("without a pass", 3, () -> x.audit(0, 0));
        CHECK.assignment("without a pass", x, 0, 0, 0);
        CHECK.receipt("without a pass", x, 3, 0, 0b110, 3, 0, 0, 0);
    }

    static void promise13TwelveCourses() {
        audits();
        StudyAudit x = Offices.office(12, 3, 2, 1, 2, 4);
        for (int r = 1; r <= 5; r++) {
            Offices.allow(x, r, Offices.ALL_COURSES);
        }
        Offices.enter(x, Offices.ALL_COURSES);
        CHECK.due("twelve courses", 0, () -> x.audit(0, 1));
        CHECK.assignment("twelve courses", x, 1, 1, 1, 2, 2, 3, 4, 4, 5, 5, 5, 5);
        CHECK.receipt("twelve courses", x, 12, 12, 0, 0, 0, 0, 1);
    }

    /** Requirement 5 allows courses 0 and 1, requirement 4 courses 2 and 3, and so on. */
    static void promise13BackwardOrder() {
        audits();
        StudyAudit x = Offices.office(10, 2, 2, 2, 2, 2);
        for (int r = 1; r <= 5; r++) {
            Offices.allow(x, r, 10 - 2 * r, 11 - 2 * r);
        }
        Offices.enter(x, 0, 1, 2, 3, 4, 5, 6, 7, 8, 9);
        CHECK.due("each has its own", 0, () -> x.audit(0, 1));
        CHECK.assignment("each has its own", x, 5, 5, 4, 4, 3, 3, 2, 2, 1, 1);
    }

    static void promise13NoGroups() {
        audits();
        StudyAudit x = new StudyAudit();
        x.requirement(0, 6);
        x.student(3, 0);
        CHECK.due("without groups", 6, () -> x.audit(3, 99));
        CHECK.receipt("without groups", x, 6, 0, 0b10, 6, 0, 3, 99);
    }

    static void promise13Lacks() {
        CHECK.sentence("Promise 13", "Answers how many courses the assignment lacks to be full, 0 when it is.");
        StudyAudit x = Offices.office(12, 6, 6, 6, 6, 6);
        Offices.allow(x, 1, Offices.ALL_COURSES);
        Offices.allow(x, 5, Offices.ALL_COURSES);
        Offices.enter(x);
        CHECK.due("all", 30, () -> x.audit(0, 1));
        for (int c = 0; c < 12; c++) {
            x.pass(0, c, 1);
            int lacks = 29 - c;
            CHECK.due((c + 1) + " passes", lacks, () -> x.audit(0, 1));
        }
        x.exempt(0, 2, 6);
        x.exempt(0, 3, 6);
        x.exempt(0, 4, 5);
        CHECK.due("one", 1, () -> x.audit(0, 1));
        x.exempt(0, 4, 1);
        CHECK.due("none", 0, () -> x.audit(0, 1));
        x.exempt(0, 4, 1);
        CHECK.due("never less", 0, () -> x.audit(0, 1));
    }

    static void promise13WrongTerm() {
        CHECK.sentence("Promise 13", "IllegalArgumentException: term is not 0 .. 99.");
        StudyAudit x = Offices.office(1, 1);
        x.student(0, 0);
        CHECK.illegalArguments("term", Offices.outside(0, 99), t -> x.audit(0, t));
        CHECK.noSuchElement("no receipt was made", () -> x.receipt(6));
        CHECK.due("0", 1, () -> x.audit(0, 0));
        CHECK.due("99", 1, () -> x.audit(0, 99));
        CHECK.illegalArguments("term", Offices.outside(0, 99), t -> x.audit(0, t));
        CHECK.due("no receipt was made", 99, () -> x.receipt(6));
        CHECK.illegalArgument("told first, when in no programme", () -> x.audit(1, 100));
        CHECK.illegalArgument("told first, when in no programme", () -> x.audit(1, -1));
    }

    static void promise13NoProgramme() {
        CHECK.sentence("Promise 13", "IllegalStateException: the student is in no programme.");
        StudyAudit x = Offices.office(1);
        for (int s = 0; s < 4; s++) {
            int student = s;
            CHECK.illegalState("student " + s, () -> x.audit(student, 0));
            x.student(s, 2);
            CHECK.due("in an empty one, student " + s, 0, () -> x.audit(student, 0));
        }
        CHECK.due("the receipt is of the last one", 3, () -> x.receipt(5));
    }

    private static void assigns() {
        CHECK.sentence("Promise 14",
                "The requirement that the receipt's assignment gives to a course, 0 when it gives none.");
    }

    static void promise14Requirement() {
        assigns();
        StudyAudit x = Offices.office(12, 1, 1, 1, 1, 1);
        x.allow(0, 1, 11);
        x.allow(0, 5, 0);
        x.allow(0, 3, 4);
        Offices.enter(x, 0, 11, 5);
        x.audit(0, 1);
        CHECK.assignment("first and last", x, 5, 0, 0, 0, 0, 0, 0, 0, 0, 0, 0, 1);
    }

    static void promise14NoneAnyMore() {
        assigns();
        StudyAudit x = Offices.office(2, 1);
        Offices.allow(x, 1, 0, 1);
        Offices.enter(x, 1);
        x.audit(0, 1);
        CHECK.assignment("course 1", x, 0, 1);
        x.pass(0, 0, 1);
        x.audit(0, 1);
        CHECK.assignment("course 0 instead", x, 1, 0);
        x.audit(0, 0);
        CHECK.assignment("none in an earlier term", x, 0, 0);
        x.course(0);
        CHECK.assignment("none for a later course", x, 0, 0, 0);
    }

    static void promise14NoReceipt() {
        CHECK.sentence("Promise 14", "NoSuchElementException: there is no receipt.");
        StudyAudit x = Offices.office(1, 1);
        CHECK.noSuchElement("at first", () -> x.assigned(0));
        x.student(0, 0);
        x.supply(0, 1, 2);
        x.fewestMore(0, 1);
        CHECK.illegalArgument("a refused audit", () -> x.audit(0, 100));
        CHECK.noSuchElement("still", () -> x.assigned(0));
        CHECK.illegalArgument("no course, told first", () -> x.assigned(1));
        x.audit(0, 1);
        CHECK.due("with one", 0, () -> x.assigned(0));
    }

    private static void uses() {
        CHECK.sentence("Promise 15",
                "To how many courses within a group the receipt's assignment gives requirements.");
    }

    /** Groups 0 > 1 > 2 and 0 > 3, with limits 3, 2, 1 and 0. */
    private static StudyAudit limitedOffice() {
        StudyAudit x = new StudyAudit();
        x.group(NONE, 3);
        x.group(0, 2);
        x.group(1, 1);
        x.group(0, 0);
        int[] groups = {0, 1, 1, 2, 2, 3};
        for (int g : groups) {
            x.course(g);
        }
        x.requirement(0, 6);
        Offices.allow(x, 1, 0, 1, 2, 3, 4, 5);
        return x;
    }

    static void promise15GroupsOfGroups() {
        uses();
        StudyAudit x = limitedOffice();
        Offices.enter(x, 0, 3, 4, 5);
        CHECK.due("two are given", 4, () -> x.audit(0, 1));
        CHECK.used("limits 1 and 0", x, 2, 1, 1, 0);
        x.pass(0, 1, 1);
        x.pass(0, 2, 1);
        CHECK.due("three are given", 3, () -> x.audit(0, 1));
        CHECK.used("limits all the way up", x, 3, 2, 0, 0);
        CHECK.assignment("limits all the way up", x, 1, 1, 1, 0, 0, 0);
        x.audit(0, 0);
        CHECK.used("none in an earlier term", x, 0, 0, 0, 0);
    }

    static void promise15LaterGroupsAndCourses() {
        uses();
        StudyAudit x = limitedOffice();
        Offices.enter(x, 0, 3);
        x.audit(0, 1);
        x.group(2, NONE);
        x.course(4);
        x.course(2);
        x.pass(0, 6, 1);
        x.pass(0, 7, 1);
        CHECK.used("a later group has none", x, 2, 1, 1, 0, 0);
    }

    static void promise15NoReceipt() {
        CHECK.sentence("Promise 15", "NoSuchElementException: there is no receipt.");
        StudyAudit x = Offices.office(1, 1);
        CHECK.noSuchElement("at first", () -> x.used(0));
        x.student(0, 0);
        x.supply(0, 1, 2);
        x.fewestMore(0, 1);
        CHECK.illegalState("a refused audit", () -> x.audit(1, 1));
        CHECK.noSuchElement("still", () -> x.used(0));
        CHECK.illegalArgument("no group, told first", () -> x.used(1));
        x.audit(0, 1);
        CHECK.due("with one", 0, () -> x.used(0));
    }

    static void promise16AllOfIt() {
        CHECK.sentence("Promise 16", "Of the receipt: what the student needed of all requirements (what = 0), to how"
                + " many courses the assignment gives requirements (1), the unmet set, with bit r for requirement r (2),"
                + " its need (3), its supply (4), the student (5), the term (6).");
        StudyAudit x = Offices.office(12, 6, 6, 6, 6, 6);
        Offices.allow(x, 5, 0, 1);
        Offices.allow(x, 1, 2, 3, 4, 5, 6, 7);
        x.student(3, 0);
        for (int c = 0; c < 12; c++) {
            x.pass(3, c, 99);
        }
        x.exempt(3, 2, 5);
        x.exempt(3, 3, 6);
        x.exempt(3, 4, 9);
        x.audit(3, 99);
        CHECK.receipt("two requirements are unmet", x, 13, 8, 0b100100, 7, 2, 3, 99);
        x.audit(3, 0);
        CHECK.receipt("three are", x, 13, 0, 0b100110, 13, 0, 3, 0);
        x.student(0, 2);
        x.audit(0, 7);
        CHECK.receipt("an empty programme", x, 0, 0, 0, 0, 0, 0, 7);
    }

    static void promise16AnotherWhat() {
        CHECK.sentence("Promise 16", "IllegalArgumentException: another what.");
        StudyAudit x = Offices.office(1);
        CHECK.illegalArguments("told first, without a receipt: what", Offices.outside(0, 6), x::receipt);
        x.student(0, 0);
        x.audit(0, 1);
        CHECK.illegalArguments("what", Offices.outside(0, 6), x::receipt);
        CHECK.receipt("all others", x, 0, 0, 0, 0, 0, 0, 1);
    }

    static void promise16NoReceipt() {
        CHECK.sentence("Promise 16", "NoSuchElementException: there is no receipt.");
        StudyAudit x = Offices.office(1, 1);
        x.student(0, 0);
        x.supply(0, 1, 2);
        x.fewestMore(0, 1);
        CHECK.illegalArgument("a refused audit", () -> x.audit(0, -1));
        for (int w = 0; w <= 6; w++) {
            int what = w;
            CHECK.noSuchElement("what " + w, () -> x.receipt(what));
        }
    }

    private static void supplies() {
        CHECK.sentence("Promise 17", "The supply of a set of requirements of the student's programme, with bit r for"
                + " requirement r (other bits count for nothing), of the courses in which the student's passes live in"
                + " the term.");
    }

    /** One course for requirement 1, two for 2, and so on; each has passed in the term of its requirement. */
    private static StudyAudit pyramid() {
        StudyAudit x = Offices.office(12, 1, 1, 1, 1);
        x.student(0, 0);
        int course = 0;
        for (int r = 1; r <= 4; r++) {
            for (int i = 0; i < r; i++) {
                x.allow(0, r, course);
                x.pass(0, course, r);
                course++;
            }
        }
        return x;
    }

    static void promise17Bits() {
        supplies();
        StudyAudit x = pyramid();
        CHECK.due("no bit", 0, () -> x.supply(0, 9, 0));
        CHECK.due("requirement 1", 1, () -> x.supply(0, 9, 0b10));
        CHECK.due("requirement 2", 2, () -> x.supply(0, 9, 0b100));
        CHECK.due("requirement 3", 3, () -> x.supply(0, 9, 0b1000));
        CHECK.due("requirement 4", 4, () -> x.supply(0, 9, 0b10000));
        CHECK.due("1 and 4", 5, () -> x.supply(0, 9, 0b10010));
        CHECK.due("all", 10, () -> x.supply(0, 9, 0b11110));
    }

    static void promise17OtherBits() {
        supplies();
        StudyAudit x = pyramid();
        CHECK.due("bit 0", 0, () -> x.supply(0, 9, 1));
        CHECK.due("bit 5, a requirement that is not there", 0, () -> x.supply(0, 9, 0b100000));
        CHECK.due("bit 6", 0, () -> x.supply(0, 9, 0b1000000));
        CHECK.due("bit 31", 0, () -> x.supply(0, 9, Offices.LOWEST));
        CHECK.due("bit 31 and requirement 2", 2, () -> x.supply(0, 9, Offices.LOWEST | 0b100));
        CHECK.due("all others", 0, () -> x.supply(0, 9, ~0b11110));
        CHECK.due("all bits", 10, () -> x.supply(0, 9, -1));
        CHECK.due("all but bit 31", 10, () -> x.supply(0, 9, Offices.HIGHEST));
        x.requirement(0, 1);
        x.requirement(1, 1);
        x.allow(0, 5, 11);
        x.pass(0, 11, 9);
        CHECK.due("bit 5, now that it is there", 1, () -> x.supply(0, 9, 0b100000));
        x.student(0, 1);
        CHECK.due("no bits of another programme", 0, () -> x.supply(0, 9, -1));
    }

    static void promise17PassesThatLive() {
        supplies();
        StudyAudit x = pyramid();
        CHECK.due("term 0", 0, () -> x.supply(0, 0, -1));
        CHECK.due("term 1", 1, () -> x.supply(0, 1, -1));
        CHECK.due("term 3", 6, () -> x.supply(0, 3, -1));
        CHECK.due("term 99", 10, () -> x.supply(0, 99, -1));
        x.expire(0, 0);
        CHECK.due("one has ended", 9, () -> x.supply(0, 99, -1));
        x.open(1, false);
        CHECK.due("one is not open", 9, () -> x.supply(0, 99, -1));
        x.student(1, 0);
        CHECK.due("another student has no passes", 0, () -> x.supply(1, 99, -1));
    }

    static void promise17MakesNoReceipt() {
        supplies();
        StudyAudit x = pyramid();
        x.supply(0, 9, -1);
        CHECK.noSuchElement("no receipt", () -> x.receipt(1));
        x.audit(0, 1);
        x.supply(0, 9, -1);
        CHECK.due("the receipt stays", 1, () -> x.receipt(1));
        CHECK.due("the receipt stays", 1, () -> x.receipt(6));
    }

    static void promise17AsInAudit() {
        CHECK.sentence("Promise 17", "IllegalArgumentException and IllegalStateException as in audit.");
        StudyAudit x = Offices.office(1, 1);
        CHECK.illegalState("in no programme", () -> x.supply(0, 0, 0));
        CHECK.illegalState("in no programme", () -> x.supply(3, 99, -1));
        CHECK.illegalArgument("the term is told first", () -> x.supply(0, 100, 0));
        x.student(0, 0);
        CHECK.illegalArguments("term", Offices.outside(0, 99), t -> x.supply(0, t, 2));
        CHECK.due("term 0", 0, () -> x.supply(0, 0, 2));
        CHECK.due("term 99", 0, () -> x.supply(0, 99, 2));
    }

    private static void further() {
        CHECK.sentence("Promise 18", "The least number of courses that are open, and in which the student has no pass"
                + " that lives in the term, with which, added to the courses in which there is one, some assignment is"
                + " full: 0 when it is without them, NONE when not even all of them are enough.");
    }

    static void promise18Open() {
        further();
        StudyAudit x = Offices.office(3, 2);
        Offices.allow(x, 1, 0, 1, 2);
        Offices.enter(x);
        CHECK.due("three are open", 2, () -> x.fewestMore(0, 1));
        x.open(0, false);
        CHECK.due("two are", 2, () -> x.fewestMore(0, 1));
        x.open(1, false);
        CHECK.due("one is", NONE, () -> x.fewestMore(0, 1));
        x.pass(0, 0, 1);
        CHECK.due("passed, it need not be open", 1, () -> x.fewestMore(0, 1));
        CHECK.due("but in a term before it must", NONE, () -> x.fewestMore(0, 0));
    }

    static void promise18NoPassThatLives() {
        further();
        StudyAudit x = Offices.office(1, 1);
        x.allow(0, 1, 0);
        x.student(0, 0);
        x.pass(0, 0, 5);
        x.expire(0, 2);
        CHECK.due("before the pass", 1, () -> x.fewestMore(0, 4));
        CHECK.due("in its term", 0, () -> x.fewestMore(0, 5));
        CHECK.due("at the end of its life", 0, () -> x.fewestMore(0, 7));
        CHECK.due("behind its life", 1, () -> x.fewestMore(0, 8));
        x.open(0, false);
        CHECK.due("not open, before the pass", NONE, () -> x.fewestMore(0, 4));
        CHECK.due("not open, in its term", 0, () -> x.fewestMore(0, 5));
        CHECK.due("not open, behind its life", NONE, () -> x.fewestMore(0, 8));
    }

    /** A course that has been passed can't be passed a second time for the same requirement. */
    static void promise18EachOnce() {
        further();
        StudyAudit x = Offices.office(1, 2);
        x.allow(0, 1, 0);
        Offices.enter(x, 0);
        CHECK.due("one course for a demand of two", NONE, () -> x.fewestMore(0, 1));
        CHECK.due("nor before the pass", NONE, () -> x.fewestMore(0, 0));
    }

    static void promise18None() {
        further();
        StudyAudit few = Offices.office(12, 6, 6, 1);
        for (int r = 1; r <= 3; r++) {
            Offices.allow(few, r, Offices.ALL_COURSES);
        }
        Offices.enter(few);
        CHECK.due("thirteen of twelve courses", NONE, () -> few.fewestMore(0, 1));
        few.exempt(0, 3, 1);
        CHECK.due("twelve of twelve courses", 12, () -> few.fewestMore(0, 1));

        StudyAudit closed = new StudyAudit();
        closed.group(NONE, 0);
        closed.course(0);
        closed.requirement(0, 1);
        closed.allow(0, 1, 0);
        Offices.enter(closed);
        CHECK.due("limit 0", NONE, () -> closed.fewestMore(0, 1));

        StudyAudit empty = new StudyAudit();
        empty.requirement(0, 1);
        empty.student(0, 0);
        CHECK.due("no groups", NONE, () -> empty.fewestMore(0, 1));
    }

    static void promise18Zero() {
        further();
        StudyAudit x = Offices.office(2, 1, 1);
        Offices.allow(x, 1, 0, 1);
        Offices.allow(x, 2, 0);
        Offices.enter(x, 0, 1);
        CHECK.due("full", 0, () -> x.fewestMore(0, 1));
        CHECK.due("not so before", 2, () -> x.fewestMore(0, 0));
        x.exempt(0, 1, 9);
        CHECK.due("one is needed", 1, () -> x.fewestMore(0, 0));
        x.exempt(0, 2, 1);
        CHECK.due("nothing is needed", 0, () -> x.fewestMore(0, 0));
        x.student(1, 1);
        CHECK.due("an empty programme", 0, () -> x.fewestMore(1, 0));
        StudyAudit empty = new StudyAudit();
        empty.student(0, 0);
        CHECK.due("an empty office", 0, () -> empty.fewestMore(0, 0));
    }

    /** Course 0 fills the group in which course 2 must be, so it gives way, and course 1 must come in too. */
    static void promise18MoreThanLacks() {
        further();
        StudyAudit x = new StudyAudit();
        x.group(NONE, NONE);
        x.group(0, 1);
        x.course(1);
        x.course(0);
        x.course(1);
        Offices.addRequirements(x, 0, 1, 1);
        Offices.allow(x, 1, 0, 1);
        Offices.allow(x, 2, 2);
        Offices.enter(x, 0);
        CHECK.due("one is lacking", 1, () -> x.audit(0, 1));
        CHECK.due("but two are to be added", 2, () -> x.fewestMore(0, 1));
        x.open(1, false);
        CHECK.due("not even all others would do", NONE, () -> x.fewestMore(0, 1));
        x.substitute(0, 0, 2);
        CHECK.due("a petition alone is no way out", NONE, () -> x.fewestMore(0, 1));
        x.open(1, true);
        CHECK.due("but with course 1 it is", 1, () -> x.fewestMore(0, 1));
    }

    /** The passed course moves to requirement 2, for which no further one counts. */
    static void promise18PassedOnesMove() {
        further();
        StudyAudit x = Offices.office(3, 1, 1);
        Offices.allow(x, 1, 0, 1, 2);
        Offices.allow(x, 2, 0);
        Offices.enter(x, 0);
        CHECK.due("one more", 1, () -> x.fewestMore(0, 1));
        x.substitute(0, 1, 0);
        x.open(0, false);
        CHECK.due("by a petition, before the pass", 2, () -> x.fewestMore(0, 0));
    }

    static void promise18MakesNoReceipt() {
        CHECK.sentence("Promise 18", "It makes no receipt.");
        StudyAudit x = Offices.office(2, 2);
        Offices.allow(x, 1, 0, 1);
        Offices.enter(x, 0);
        x.fewestMore(0, 1);
        CHECK.noSuchElement("none", () -> x.receipt(0));
        CHECK.noSuchElement("none", () -> x.assigned(0));
        CHECK.noSuchElement("none", () -> x.used(0));
        x.audit(0, 1);
        x.student(1, 0);
        x.fewestMore(1, 9);
        CHECK.receipt("the earlier one stays", x, 2, 1, 0b10, 2, 1, 0, 1);
        CHECK.assignment("the earlier one stays", x, 1, 0);
        CHECK.used("the earlier one stays", x, 1);
    }

    static void promise18AsInAudit() {
        CHECK.sentence("Promise 18", "IllegalArgumentException and IllegalStateException as in audit.");
        StudyAudit x = Offices.office(1, 1);
        CHECK.illegalState("in no programme", () -> x.fewestMore(0, 0));
        CHECK.illegalState("in no programme", () -> x.fewestMore(3, 99));
        CHECK.illegalArgument("the term is told first", () -> x.fewestMore(0, 100));
        x.student(0, 0);
        CHECK.illegalArguments("term", Offices.outside(0, 99), t -> x.fewestMore(0, t));
        CHECK.due("term 0", NONE, () -> x.fewestMore(0, 0));
        CHECK.due("term 99", NONE, () -> x.fewestMore(0, 99));
    }
}
