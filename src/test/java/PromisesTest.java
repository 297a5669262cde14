/** The promises of the document one by one: ordinary inputs, the edges that it names, and wrong inputs. */
public final class PromisesTest {
    private static final int NONE = StudyAudit.NONE;
    private static final int LOWEST = Integer.MIN_VALUE;
    private static final int HIGHEST = Integer.MAX_VALUE;
    private static final Check CHECK = new Check();

    public static void main(String[] args) {
        promise1NewObject();
        promise2Group();
        promise3Course();
        promise4Open();
        promise5Expire();
        promise6Requirement();
        promise7Allow();
        promise8Student();
        promise9Pass();
        promise10Substitute();
        promise11Exempt();
        promise12Lives();
        promise13Audit();
        promise13BestAssignment();
        promise13UnmetSet();
        promise14Assigned();
        promise15Used();
        promise16Receipt();
        promise17Supply();
        promise18FewestMore();
        promise18MoreThanLacks();
        CHECK.end();
    }

    /** A first group without a limit, so many courses in it, and programme 0 with these demands. */
    private static StudyAudit office(int courses, int... demands) {
        StudyAudit x = new StudyAudit();
        x.group(NONE, NONE);
        for (int c = 0; c < courses; c++) {
            x.course(0);
        }
        for (int demand : demands) {
            x.requirement(0, demand);
        }
        return x;
    }

    private static void allow(StudyAudit x, int requirement, int... courses) {
        for (int c : courses) {
            x.allow(0, requirement, c);
        }
    }

    /** Student 0 comes into programme 0 and passes these courses in term 1. */
    private static void enter(StudyAudit x, int... passed) {
        x.student(0, 0);
        for (int c : passed) {
            x.pass(0, c, 1);
        }
    }

    private static void assignment(String what, StudyAudit x, int... due) {
        for (int c = 0; c < due.length; c++) {
            int course = c;
            CHECK.due(what + ": assigned(" + c + ")", due[c], () -> x.assigned(course));
        }
    }

    private static void receipt(String what, StudyAudit x, int... due) {
        for (int w = 0; w < due.length; w++) {
            int number = w;
            CHECK.due(what + ": receipt(" + w + ")", due[w], () -> x.receipt(number));
        }
    }

    private static void promise1NewObject() {
        StudyAudit x = new StudyAudit();
        CHECK.illegalArgument("1: no group", () -> x.course(0));
        CHECK.illegalArgument("1: no course", () -> x.open(0, true));
        CHECK.illegalArgument("1: no requirement", () -> x.exempt(0, 1, 0));
        for (int what = 0; what <= 6; what++) {
            int number = what;
            CHECK.noSuchElement("1: no receipt", () -> x.receipt(number));
        }
        for (int s = 0; s < 4; s++) {
            int student = s;
            CHECK.illegalState("1: student " + s + " is in no programme", () -> x.audit(student, 0));
        }
        CHECK.due("1: no programme before", NONE, () -> x.student(0, 2));
        CHECK.due("1: nothing is needed without requirements", 0, () -> x.audit(0, 0));
        CHECK.due("1: nothing more either", 0, () -> x.fewestMore(0, 0));
        CHECK.due("1: no supply either", 0, () -> x.supply(0, 0, -1));
        receipt("1: an empty programme", x, 0, 0, 0, 0, 0, 0, 0);
    }

    private static void promise2Group() {
        StudyAudit x = new StudyAudit();
        CHECK.illegalArgument("2: parent not there", () -> x.group(0, NONE));
        CHECK.illegalArgument("2: parent below NONE", () -> x.group(-2, NONE));
        CHECK.illegalArgument("2: limit too great", () -> x.group(NONE, 13));
        CHECK.illegalArgument("2: limit too small", () -> x.group(NONE, -2));
        CHECK.due("2: the first one", 0, () -> x.group(NONE, 12));
        CHECK.illegalState("2: a second one without a parent", () -> x.group(NONE, 12));
        CHECK.illegalArgument("2: a wrong limit is told first", () -> x.group(NONE, 13));
        CHECK.illegalArgument("2: its own parent", () -> x.group(1, 0));
        CHECK.due("2: limit 0", 1, () -> x.group(0, 0));
        CHECK.due("2: below the first", 2, () -> x.group(0, NONE));
        CHECK.due("2: below another", 3, () -> x.group(1, 1));
        CHECK.due("2: below that", 4, () -> x.group(3, 1));
        CHECK.due("2: the last one", 5, () -> x.group(4, 1));
        CHECK.illegalState("2: a seventh", () -> x.group(0, NONE));
        CHECK.illegalState("2: a seventh without a parent", () -> x.group(NONE, NONE));
        CHECK.illegalArgument("2: a wrong parent is told first", () -> x.group(6, NONE));
        CHECK.illegalArgument("2: a wrong limit is told first", () -> x.group(0, HIGHEST));
        CHECK.illegalArgument("2: a wrong limit is told first", () -> x.group(0, LOWEST));
    }

    private static void promise3Course() {
        StudyAudit x = new StudyAudit();
        x.group(NONE, NONE);
        x.group(0, NONE);
        CHECK.illegalArgument("3: no such group", () -> x.course(2));
        CHECK.illegalArgument("3: NONE is no group", () -> x.course(NONE));
        for (int c = 0; c < 12; c++) {
            int group = c % 2;
            CHECK.due("3: course", c, () -> x.course(group));
        }
        CHECK.illegalState("3: a thirteenth", () -> x.course(1));
        CHECK.illegalArgument("3: a wrong group is told first", () -> x.course(2));
        CHECK.due("3: open at first", true, () -> x.open(11, true));
        CHECK.due("3: no life at first", NONE, () -> x.expire(11, NONE));
    }

    private static void promise4Open() {
        StudyAudit x = office(2);
        CHECK.due("4: was open", true, () -> x.open(1, false));
        CHECK.due("4: was not", false, () -> x.open(1, false));
        CHECK.due("4: was not", false, () -> x.open(1, true));
        CHECK.due("4: was open again", true, () -> x.open(1, true));
        CHECK.due("4: the other one always was", true, () -> x.open(0, true));
        CHECK.illegalArgument("4: no such course", () -> x.open(2, false));
        CHECK.illegalArgument("4: no such course", () -> x.open(-1, false));
        CHECK.illegalArgument("4: no such course", () -> x.open(32, false));
    }

    private static void promise5Expire() {
        StudyAudit x = office(2);
        CHECK.due("5: none at first", NONE, () -> x.expire(1, 40));
        CHECK.due("5: what it was", 40, () -> x.expire(1, 0));
        CHECK.illegalArgument("5: too long", () -> x.expire(1, 41));
        CHECK.illegalArgument("5: less than NONE", () -> x.expire(1, -2));
        CHECK.illegalArgument("5: no such course", () -> x.expire(2, 3));
        CHECK.illegalArgument("5: no such course", () -> x.expire(-1, 3));
        CHECK.due("5: a call that throws changes nothing", 0, () -> x.expire(1, NONE));
        CHECK.due("5: none again", NONE, () -> x.expire(1, 7));
        CHECK.due("5: the other course has its own", NONE, () -> x.expire(0, 7));
    }

    private static void promise6Requirement() {
        StudyAudit x = office(1);
        CHECK.illegalArgument("6: no such programme", () -> x.requirement(3, 1));
        CHECK.illegalArgument("6: no such programme", () -> x.requirement(-1, 1));
        CHECK.illegalArgument("6: demand too small", () -> x.requirement(0, 0));
        CHECK.illegalArgument("6: demand too great", () -> x.requirement(0, 7));
        for (int r = 1; r <= 5; r++) {
            int demand = r == 1 ? 6 : 1;
            CHECK.due("6: requirement", r, () -> x.requirement(0, demand));
        }
        CHECK.illegalState("6: a sixth", () -> x.requirement(0, 1));
        CHECK.illegalArgument("6: a wrong demand is told first", () -> x.requirement(0, 7));
        CHECK.due("6: another programme counts for itself", 1, () -> x.requirement(2, 6));
        enter(x, 0);
        CHECK.due("6: allows no courses", 10, () -> x.audit(0, 1));
        CHECK.due("6: demands together", 10, () -> x.receipt(0));
        CHECK.due("6: one is unmet as all are", 0b111110, () -> x.receipt(2));
    }

    private static void promise7Allow() {
        StudyAudit x = office(2, 1, 1);
        CHECK.illegalArgument("7: no such programme", () -> x.allow(3, 1, 0));
        CHECK.illegalArgument("7: no such requirement", () -> x.allow(0, 0, 0));
        CHECK.illegalArgument("7: no such requirement", () -> x.allow(0, 3, 0));
        CHECK.illegalArgument("7: no requirement of that programme", () -> x.allow(1, 1, 0));
        CHECK.illegalArgument("7: no such course", () -> x.allow(0, 1, 2));
        CHECK.illegalArgument("7: no such course", () -> x.allow(0, 1, -1));
        CHECK.due("7: new", true, () -> x.allow(0, 2, 1));
        CHECK.due("7: not new", false, () -> x.allow(0, 2, 1));
        CHECK.due("7: new for another requirement", true, () -> x.allow(0, 1, 1));
        CHECK.due("7: new with another course", true, () -> x.allow(0, 2, 0));
        enter(x, 0, 1);
        CHECK.due("7: they count", 0, () -> x.audit(0, 1));
        assignment("7", x, 2, 1);
    }

    private static void promise8Student() {
        StudyAudit x = office(1, 2);
        x.requirement(1, 3);
        CHECK.illegalArgument("8: no such student", () -> x.student(4, 0));
        CHECK.illegalArgument("8: no such student", () -> x.student(-1, 0));
        CHECK.illegalArgument("8: no such programme", () -> x.student(0, 3));
        CHECK.illegalArgument("8: NONE is no programme", () -> x.student(0, NONE));
        CHECK.illegalState("8: a call that throws changes nothing", () -> x.supply(0, 0, 2));
        CHECK.due("8: none before", NONE, () -> x.student(3, 1));
        x.exempt(3, 1, 2);
        CHECK.due("8: what the exemption leaves", 1, () -> x.exempt(3, 1, 0));
        CHECK.due("8: the programme before", 1, () -> x.student(3, 1));
        CHECK.due("8: no exemptions any more", 3, () -> x.exempt(3, 1, 0));
        x.exempt(3, 1, 1);
        CHECK.due("8: the programme before", 1, () -> x.student(3, 0));
        CHECK.due("8: no exemptions in another one", 2, () -> x.exempt(3, 1, 0));
        CHECK.due("8: back", 0, () -> x.student(3, 1));
        CHECK.due("8: nor in the first one again", 3, () -> x.exempt(3, 1, 0));
        CHECK.due("8: each student for itself", NONE, () -> x.student(2, 2));
    }

    private static void promise9Pass() {
        StudyAudit x = office(2);
        CHECK.illegalArgument("9: no such student", () -> x.pass(4, 0, 0));
        CHECK.illegalArgument("9: no such course", () -> x.pass(0, 2, 0));
        CHECK.illegalArgument("9: term too small", () -> x.pass(0, 0, -1));
        CHECK.illegalArgument("9: term too great", () -> x.pass(0, 0, 100));
        CHECK.due("9: no pass yet", false, () -> x.lives(0, 0, HIGHEST));
        CHECK.due("9: the first term", 0, () -> x.pass(0, 0, 0));
        CHECK.due("9: later", 5, () -> x.pass(0, 0, 5));
        CHECK.due("9: earlier", 5, () -> x.pass(0, 0, 4));
        CHECK.due("9: the later term stays", false, () -> x.lives(0, 0, 4));
        CHECK.due("9: the last term", 99, () -> x.pass(0, 0, 99));
        CHECK.due("9: another course", 3, () -> x.pass(0, 1, 3));
        CHECK.due("9: another student", 2, () -> x.pass(3, 1, 2));
    }

    private static void promise10Substitute() {
        StudyAudit x = office(5, 1, 1);
        allow(x, 1, 2);
        allow(x, 2, 1);
        enter(x, 0);
        CHECK.illegalArgument("10: no such student", () -> x.substitute(4, 0, 1));
        CHECK.illegalArgument("10: no such course", () -> x.substitute(0, 5, 1));
        CHECK.illegalArgument("10: no such course", () -> x.substitute(0, 0, 5));
        CHECK.illegalArgument("10: the same, but not there", () -> x.substitute(0, 5, 5));
        CHECK.due("10: course 0 counts for nothing", 0, () -> x.supply(0, 1, 6));
        CHECK.due("10: the same course", false, () -> x.substitute(0, 0, 0));
        CHECK.due("10: a new one", true, () -> x.substitute(0, 0, 1));
        CHECK.due("10: there was one", false, () -> x.substitute(0, 0, 1));
        CHECK.due("10: the other way round", true, () -> x.substitute(0, 1, 0));
        CHECK.due("10: it counts where 1 is allowed", 1, () -> x.supply(0, 1, 4));
        x.substitute(0, 1, 2);
        CHECK.due("10: but not over two petitions", 0, () -> x.supply(0, 1, 2));
        x.pass(1, 0, 1);
        x.student(1, 0);
        CHECK.due("10: nor for another student", 0, () -> x.supply(1, 1, 6));
        int[][] more = {{0, 2}, {3, 0}, {3, 1}, {3, 2}, {4, 0}};
        for (int[] pair : more) {
            CHECK.due("10: up to 8", true, () -> x.substitute(0, pair[0], pair[1]));
        }
        CHECK.due("10: and now over one", 1, () -> x.supply(0, 1, 2));
        CHECK.illegalState("10: a ninth", () -> x.substitute(0, 4, 1));
        CHECK.due("10: one that is there is no ninth", false, () -> x.substitute(0, 4, 0));
        CHECK.due("10: nor is the same course", false, () -> x.substitute(0, 4, 4));
        CHECK.illegalArgument("10: a wrong course is told first", () -> x.substitute(0, 4, 5));
        CHECK.due("10: another student has its own", true, () -> x.substitute(1, 4, 1));
        CHECK.due("10: what was allowed later counts too", true, () -> x.allow(0, 1, 0));
        x.pass(0, 4, 1);
        CHECK.due("10: course 4 stands for course 0", 2, () -> x.supply(0, 1, 2));
    }

    private static void promise11Exempt() {
        StudyAudit x = office(1, 6, 2);
        CHECK.illegalArgument("11: in no programme", () -> x.exempt(0, 1, 1));
        x.student(0, 0);
        x.student(1, 0);
        CHECK.illegalArgument("11: no such student", () -> x.exempt(4, 1, 1));
        CHECK.illegalArgument("11: no such requirement", () -> x.exempt(0, 0, 1));
        CHECK.illegalArgument("11: no such requirement", () -> x.exempt(0, 3, 1));
        CHECK.illegalArgument("11: count too small", () -> x.exempt(0, 1, -1));
        CHECK.illegalArgument("11: count too great", () -> x.exempt(0, 1, 10));
        CHECK.due("11: nothing", 6, () -> x.exempt(0, 1, 0));
        CHECK.due("11: some", 4, () -> x.exempt(0, 1, 2));
        CHECK.due("11: they add up", 1, () -> x.exempt(0, 1, 3));
        CHECK.due("11: not below 0", 0, () -> x.exempt(0, 1, 9));
        CHECK.due("11: still not", 0, () -> x.exempt(0, 1, 9));
        CHECK.due("11: the other requirement", 2, () -> x.exempt(0, 2, 0));
        CHECK.due("11: the other student", 6, () -> x.exempt(1, 1, 0));
        CHECK.due("11: an audit needs the rest", 2, () -> x.audit(0, 0));
        CHECK.due("11: an audit needs the rest", 2, () -> x.receipt(0));
    }

    private static void promise12Lives() {
        StudyAudit x = office(2);
        x.pass(0, 0, 10);
        CHECK.illegalArgument("12: no such student", () -> x.lives(4, 0, 10));
        CHECK.illegalArgument("12: no such course", () -> x.lives(0, 2, 10));
        CHECK.due("12: without a pass", false, () -> x.lives(0, 1, 10));
        CHECK.due("12: of another student", false, () -> x.lives(1, 0, 10));
        CHECK.due("12: before", false, () -> x.lives(0, 0, 9));
        CHECK.due("12: then", true, () -> x.lives(0, 0, 10));
        CHECK.due("12: any number", true, () -> x.lives(0, 0, HIGHEST));
        CHECK.due("12: any number", false, () -> x.lives(0, 0, LOWEST));
        CHECK.due("12: -1 is a term as others are", false, () -> x.lives(0, 1, -1));
        x.expire(0, 3);
        CHECK.due("12: at the end of its life", true, () -> x.lives(0, 0, 13));
        CHECK.due("12: behind it", false, () -> x.lives(0, 0, 14));
        CHECK.due("12: long behind it", false, () -> x.lives(0, 0, HIGHEST));
        x.expire(0, 0);
        CHECK.due("12: life 0, then", true, () -> x.lives(0, 0, 10));
        CHECK.due("12: life 0, later", false, () -> x.lives(0, 0, 11));
        x.pass(0, 0, 12);
        CHECK.due("12: passed again", true, () -> x.lives(0, 0, 12));
        x.expire(0, NONE);
        CHECK.due("12: no life any more", true, () -> x.lives(0, 0, 99));
    }

    private static void promise13Audit() {
        StudyAudit x = office(3, 2);
        allow(x, 1, 0, 1, 2);
        CHECK.illegalArgument("13: no such student", () -> x.audit(4, 0));
        CHECK.illegalArgument("13: term too small", () -> x.audit(0, -1));
        CHECK.illegalArgument("13: term too great, told first", () -> x.audit(0, 100));
        CHECK.illegalState("13: in no programme", () -> x.audit(0, 99));
        enter(x);
        x.pass(0, 1, 3);
        x.pass(0, 2, 5);
        x.expire(1, 2);
        CHECK.due("13: no pass yet", 2, () -> x.audit(0, 0));
        CHECK.due("13: one", 1, () -> x.audit(0, 3));
        CHECK.due("13: both", 0, () -> x.audit(0, 5));
        assignment("13: both", x, 0, 1, 1);
        CHECK.due("13: one has ended", 1, () -> x.audit(0, 6));
        CHECK.illegalArgument("13: a call that throws", () -> x.audit(0, 100));
        CHECK.illegalState("13: a call that throws", () -> x.audit(3, 7));
        CHECK.due("13: makes no receipt", 6, () -> x.receipt(6));
        x.open(2, false);
        CHECK.due("13: a pass in a course that is not open lives on", 1, () -> x.audit(0, 99));
        assignment("13: not open", x, 0, 0, 1);
    }

    private static void promise13BestAssignment() {
        StudyAudit first = office(3, 1, 1);
        allow(first, 1, 0, 1, 2);
        allow(first, 2, 0, 1, 2);
        enter(first, 0, 1, 2);
        first.audit(0, 1);
        assignment("13: lesser courses and lesser requirements first", first, 1, 2, 0);

        StudyAudit more = office(2, 1, 1);
        allow(more, 1, 0, 1);
        allow(more, 2, 0);
        enter(more, 0, 1);
        CHECK.due("13: more courses go before a lesser requirement", 0, () -> more.audit(0, 1));
        assignment("13: more courses", more, 2, 1);

        StudyAudit skip = new StudyAudit();
        skip.group(NONE, NONE);
        skip.group(0, 1);
        skip.group(0, 1);
        skip.course(1);
        skip.course(1);
        skip.course(2);
        skip.requirement(0, 1);
        skip.requirement(0, 1);
        allow(skip, 1, 0, 2);
        allow(skip, 2, 1);
        enter(skip, 0, 1, 2);
        CHECK.due("13: more courses go before a lesser course", 0, () -> skip.audit(0, 1));
        assignment("13: course 0 gives way", skip, 0, 2, 1);

        StudyAudit full = office(12, 3, 2, 1, 2, 4);
        for (int r = 1; r <= 5; r++) {
            allow(full, r, 0, 1, 2, 3, 4, 5, 6, 7, 8, 9, 10, 11);
        }
        enter(full, 0, 1, 2, 3, 4, 5, 6, 7, 8, 9, 10, 11);
        CHECK.due("13: twelve courses", 0, () -> full.audit(0, 1));
        assignment("13: twelve courses", full, 1, 1, 1, 2, 2, 3, 4, 4, 5, 5, 5, 5);
    }

    private static void promise13UnmetSet() {
        StudyAudit x = office(4, 2, 1, 2);
        allow(x, 1, 0);
        allow(x, 2, 0, 1);
        allow(x, 3, 2, 3);
        enter(x, 0, 1, 2, 3);
        CHECK.due("13: requirement 1 alone asks for too much", 1, () -> x.audit(0, 1));
        receipt("13: the fewest of those as much above", x, 5, 4, 0b10, 2, 1, 0, 1);
        x.exempt(0, 1, 1);
        CHECK.due("13: no longer", 0, () -> x.audit(0, 1));
        receipt("13: nothing is unmet", x, 4, 4, 0, 0, 0, 0, 1);

        StudyAudit both = office(2, 1, 1, 1);
        allow(both, 1, 0, 1);
        allow(both, 2, 0, 1);
        allow(both, 3, 0, 1);
        enter(both, 0, 1);
        CHECK.due("13: only together", 1, () -> both.audit(0, 1));
        receipt("13: all three", both, 3, 2, 0b1110, 3, 2, 0, 1);

        StudyAudit limited = new StudyAudit();
        limited.group(NONE, NONE);
        limited.group(0, 1);
        limited.course(1);
        limited.course(1);
        limited.course(0);
        for (int r = 1; r <= 3; r++) {
            limited.requirement(0, 1);
            limited.allow(0, r, r - 1);
        }
        enter(limited, 0, 1, 2);
        CHECK.due("13: a group's limit", 1, () -> limited.audit(0, 1));
        receipt("13: the two in the group", limited, 3, 2, 0b110, 2, 1, 0, 1);
        assignment("13: the lesser one is given", limited, 1, 0, 3);
    }

    private static void promise14Assigned() {
        StudyAudit x = office(2, 1);
        allow(x, 1, 1);
        CHECK.noSuchElement("14: no receipt", () -> x.assigned(0));
        CHECK.illegalArgument("14: no such course, told first", () -> x.assigned(2));
        enter(x, 0, 1);
        x.supply(0, 1, 2);
        x.fewestMore(0, 1);
        CHECK.noSuchElement("14: still no receipt", () -> x.assigned(0));
        x.audit(0, 1);
        CHECK.illegalArgument("14: no such course", () -> x.assigned(2));
        CHECK.illegalArgument("14: no such course", () -> x.assigned(-1));
        assignment("14", x, 0, 1);
        x.course(0);
        x.allow(0, 1, 0);
        x.student(0, 1);
        x.expire(1, 0);
        x.fewestMore(0, 99);
        x.supply(0, 99, 2);
        assignment("14: as it was then, a later course has none", x, 0, 1, 0);
        x.student(0, 0);
        x.audit(0, 2);
        assignment("14: the latest audit", x, 1, 0, 0);
    }

    private static void promise15Used() {
        StudyAudit x = new StudyAudit();
        CHECK.illegalArgument("15: no such group, told first", () -> x.used(0));
        x.group(NONE, 3);
        x.group(0, 2);
        x.group(1, 1);
        x.group(0, 0);
        CHECK.noSuchElement("15: no receipt", () -> x.used(0));
        int[] groups = {0, 1, 1, 2, 2, 3};
        for (int g : groups) {
            x.course(g);
        }
        x.requirement(0, 6);
        allow(x, 1, 0, 1, 2, 3, 4, 5);
        enter(x, 0, 3, 4, 5);
        CHECK.due("15: an audit", 4, () -> x.audit(0, 1));
        int[] due = {2, 1, 1, 0};
        used("15: groups of groups", x, due);
        x.group(0, NONE);
        x.course(2);
        x.pass(0, 6, 1);
        x.student(0, 2);
        used("15: as it was then, a later group has none", x, 2, 1, 1, 0, 0);
        CHECK.illegalArgument("15: no such group", () -> x.used(5));
        CHECK.illegalArgument("15: no such group", () -> x.used(-1));
        x.student(0, 0);
        x.pass(0, 1, 1);
        x.pass(0, 2, 1);
        CHECK.due("15: the first group's limit", 3, () -> x.audit(0, 1));
        used("15: limits all the way up", x, 3, 2, 0, 0, 0);
        assignment("15: limits all the way up", x, 1, 1, 1, 0, 0, 0, 0);
    }

    private static void used(String what, StudyAudit x, int... due) {
        for (int g = 0; g < due.length; g++) {
            int group = g;
            CHECK.due(what + ": used(" + g + ")", due[g], () -> x.used(group));
        }
    }

    private static void promise16Receipt() {
        StudyAudit x = office(2, 2, 3);
        allow(x, 1, 0, 1);
        CHECK.noSuchElement("16: no receipt", () -> x.receipt(0));
        CHECK.illegalArgument("16: another what, told first", () -> x.receipt(7));
        CHECK.illegalArgument("16: another what, told first", () -> x.receipt(-1));
        x.student(3, 0);
        x.pass(3, 0, 8);
        x.pass(3, 1, 8);
        x.exempt(3, 2, 2);
        x.audit(3, 9);
        receipt("16: all of it", x, 3, 2, 0b100, 1, 0, 3, 9);
        CHECK.illegalArgument("16: another what", () -> x.receipt(7));
        CHECK.illegalArgument("16: another what", () -> x.receipt(-1));
        x.exempt(3, 1, 9);
        x.allow(0, 2, 0);
        x.requirement(0, 6);
        x.student(3, 1);
        x.fewestMore(3, 50);
        x.supply(3, 50, 6);
        receipt("16: as it was then", x, 3, 2, 0b100, 1, 0, 3, 9);
        x.audit(3, 50);
        receipt("16: the latest audit", x, 0, 0, 0, 0, 0, 3, 50);
    }

    private static void promise17Supply() {
        StudyAudit x = new StudyAudit();
        x.group(NONE, 3);
        x.group(0, 1);
        x.group(1, NONE);
        int[] groups = {1, 2, 0, 0, 0};
        for (int g : groups) {
            x.course(g);
        }
        CHECK.illegalArgument("17: no such student", () -> x.supply(4, 0, 0));
        CHECK.illegalArgument("17: term too small", () -> x.supply(0, -1, 0));
        CHECK.illegalArgument("17: term too great", () -> x.supply(0, 100, 0));
        CHECK.illegalState("17: in no programme", () -> x.supply(0, 0, 0));
        x.requirement(0, 1);
        x.requirement(0, 1);
        x.requirement(0, 1);
        allow(x, 1, 0, 1);
        allow(x, 2, 2);
        allow(x, 3, 2, 3, 4);
        enter(x, 0, 1, 2, 3, 4);
        CHECK.due("17: no requirement", 0, () -> x.supply(0, 1, 0));
        CHECK.due("17: a limit above", 1, () -> x.supply(0, 1, 0b10));
        CHECK.due("17: more than the need", 3, () -> x.supply(0, 1, 0b1000));
        CHECK.due("17: each course once", 3, () -> x.supply(0, 1, 0b1100));
        CHECK.due("17: two groups", 2, () -> x.supply(0, 1, 0b110));
        CHECK.due("17: the first group's limit", 3, () -> x.supply(0, 1, 0b1110));
        CHECK.due("17: other bits count for nothing", 2, () -> x.supply(0, 1, 0b110 | 1 | 1 << 4 | 1 << 31));
        CHECK.due("17: only other bits", 0, () -> x.supply(0, 1, ~0b1110));
        CHECK.due("17: all bits", 3, () -> x.supply(0, 1, -1));
        CHECK.due("17: passes that do not live", 0, () -> x.supply(0, 0, -1));
        x.exempt(0, 3, 9);
        CHECK.due("17: an exemption is no matter", 3, () -> x.supply(0, 1, 0b1000));
        CHECK.noSuchElement("17: makes no receipt", () -> x.receipt(0));
    }

    private static void promise18FewestMore() {
        StudyAudit x = office(4, 2, 1);
        allow(x, 1, 0, 1, 2);
        allow(x, 2, 2, 3);
        CHECK.illegalArgument("18: no such student", () -> x.fewestMore(4, 0));
        CHECK.illegalArgument("18: term too small", () -> x.fewestMore(0, -1));
        CHECK.illegalArgument("18: term too great", () -> x.fewestMore(0, 100));
        CHECK.illegalState("18: in no programme", () -> x.fewestMore(0, 99));
        enter(x);
        CHECK.due("18: all of them", 3, () -> x.fewestMore(0, 1));
        x.pass(0, 2, 1);
        CHECK.due("18: two more", 2, () -> x.fewestMore(0, 1));
        CHECK.due("18: before that pass lives", 3, () -> x.fewestMore(0, 0));
        x.open(3, false);
        CHECK.due("18: course 2 goes to requirement 2", 2, () -> x.fewestMore(0, 1));
        x.open(1, false);
        CHECK.due("18: not enough are open", NONE, () -> x.fewestMore(0, 1));
        x.pass(0, 1, 1);
        CHECK.due("18: passed, and so no need of being open", 1, () -> x.fewestMore(0, 1));
        x.expire(1, 3);
        CHECK.due("18: at the end of its life", 1, () -> x.fewestMore(0, 4));
        CHECK.due("18: behind it, and not open", NONE, () -> x.fewestMore(0, 5));
        x.open(1, true);
        CHECK.due("18: behind it, but open", 2, () -> x.fewestMore(0, 5));
        x.pass(0, 0, 1);
        CHECK.due("18: full", 0, () -> x.fewestMore(0, 1));
        x.exempt(0, 1, 2);
        x.exempt(0, 2, 1);
        CHECK.due("18: nothing is needed", 0, () -> x.fewestMore(0, 0));
        CHECK.noSuchElement("18: makes no receipt", () -> x.receipt(0));
    }

    /** Course 0 fills the group in which course 2 must be, so it gives way, and course 1 must come in too. */
    private static void promise18MoreThanLacks() {
        StudyAudit x = new StudyAudit();
        x.group(NONE, NONE);
        x.group(0, 1);
        x.course(1);
        x.course(0);
        x.course(1);
        x.requirement(0, 1);
        x.requirement(0, 1);
        allow(x, 1, 0, 1);
        allow(x, 2, 2);
        enter(x, 0);
        CHECK.due("18: one is lacking", 1, () -> x.audit(0, 1));
        CHECK.due("18: but two are to be added", 2, () -> x.fewestMore(0, 1));
        receipt("18: the receipt stays", x, 2, 1, 0b100, 1, 0, 0, 1);
        x.open(1, false);
        CHECK.due("18: and not even all others would do", NONE, () -> x.fewestMore(0, 1));
        x.substitute(0, 0, 2);
        CHECK.due("18: a petition alone is no way out", NONE, () -> x.fewestMore(0, 1));
        x.open(1, true);
        CHECK.due("18: but with course 1 it is", 1, () -> x.fewestMore(0, 1));
    }
}
