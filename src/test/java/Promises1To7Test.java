/** Promises 1 to 7, the office and its programmes: each test holds the sentence that it quotes. */
public final class Promises1To7Test {
    private static final int NONE = Offices.NONE;
    private static final int HIGHEST = Offices.HIGHEST;
    private static final Check CHECK = new Check();

    public static void main(String[] args) {
        CHECK.runAll(Promises1To7Test.class);
    }

    private static void newObject() {
        CHECK.sentence("Promise 1", "No groups, no courses, no requirements, no passes, no receipt.");
    }

    static void promise1NoGroups() {
        newObject();
        StudyAudit x = new StudyAudit();
        for (int g = 0; g < 6; g++) {
            int group = g;
            CHECK.illegalArgument("no course in group " + g, () -> x.course(group));
            CHECK.illegalArgument("no group below group " + g, () -> x.group(group, NONE));
            CHECK.illegalArgument("no use of group " + g, () -> x.used(group));
        }
        CHECK.due("the first group", 0, () -> x.group(NONE, NONE));
    }

    static void promise1NoCourses() {
        newObject();
        StudyAudit x = new StudyAudit();
        x.requirement(0, 1);
        for (int c = 0; c < 12; c++) {
            int course = c;
            CHECK.illegalArgument("open course " + c, () -> x.open(course, true));
            CHECK.illegalArgument("expire course " + c, () -> x.expire(course, 1));
            CHECK.illegalArgument("allow course " + c, () -> x.allow(0, 1, course));
            CHECK.illegalArgument("pass course " + c, () -> x.pass(0, course, 1));
            CHECK.illegalArgument("substitute course " + c, () -> x.substitute(0, course, course));
            CHECK.illegalArgument("lives course " + c, () -> x.lives(0, course, 1));
            CHECK.illegalArgument("assigned course " + c, () -> x.assigned(course));
        }
        x.group(NONE, NONE);
        CHECK.due("the first course", 0, () -> x.course(0));
    }

    static void promise1NoRequirements() {
        newObject();
        StudyAudit x = Offices.office(1);
        for (int p = 0; p < 3; p++) {
            int programme = p;
            CHECK.illegalArgument("allow in programme " + p, () -> x.allow(programme, 1, 0));
            x.student(0, p);
            CHECK.illegalArgument("exempt in programme " + p, () -> x.exempt(0, 1, 0));
            CHECK.due("nothing is lacking in programme " + p, 0, () -> x.audit(0, 0));
            CHECK.receipt("an empty programme", x, 0, 0, 0, 0, 0, 0, 0);
            CHECK.due("nothing more is to do in programme " + p, 0, () -> x.fewestMore(0, 0));
            CHECK.due("no supply in programme " + p, 0, () -> x.supply(0, 0, -1));
            CHECK.due("the first requirement of programme " + p, 1, () -> x.requirement(programme, 1));
        }
    }

    static void promise1NoPasses() {
        newObject();
        StudyAudit x = Offices.office(12, 1);
        Offices.allow(x, 1, Offices.ALL_COURSES);
        for (int s = 0; s < 4; s++) {
            int student = s;
            x.student(s, 0);
            for (int c = 0; c < 12; c++) {
                int course = c;
                CHECK.due("student " + s + ", course " + c, false, () -> x.lives(student, course, HIGHEST));
            }
            CHECK.due("supply of student " + s, 0, () -> x.supply(student, 99, 2));
            CHECK.due("audit of student " + s, 1, () -> x.audit(student, 99));
        }
    }

    static void promise1NoReceipt() {
        newObject();
        StudyAudit x = Offices.office(12);
        for (int w = 0; w <= 6; w++) {
            int what = w;
            CHECK.noSuchElement("receipt " + w, () -> x.receipt(what));
        }
        for (int c = 0; c < 12; c++) {
            int course = c;
            CHECK.noSuchElement("assigned " + c, () -> x.assigned(course));
        }
        CHECK.noSuchElement("used", () -> x.used(0));
    }

    static void promise1NothingOfAnEarlierObject() {
        newObject();
        StudyAudit earlier = Offices.office(1, 1);
        Offices.allow(earlier, 1, 0);
        Offices.enter(earlier, 0);
        earlier.audit(0, 1);
        StudyAudit x = new StudyAudit();
        CHECK.illegalArgument("no course", () -> x.assigned(0));
        CHECK.noSuchElement("no receipt", () -> x.receipt(0));
        CHECK.illegalState("in no programme", () -> x.audit(0, 1));
        CHECK.due("group 0", 0, () -> x.group(NONE, NONE));
        CHECK.due("course 0", 0, () -> x.course(0));
        CHECK.due("no pass", false, () -> x.lives(0, 0, 1));
        CHECK.due("requirement 1", 1, () -> x.requirement(0, 1));
        CHECK.due("the earlier one has its receipt", 1, () -> earlier.assigned(0));
    }

    private static void newGroup() {
        CHECK.sentence("Promise 2", "A new group, with the least number that is free, below a parent (NONE for the first"
                + " one) and with a limit (NONE for none): its number.");
    }

    static void promise2Numbers() {
        newGroup();
        StudyAudit x = new StudyAudit();
        CHECK.due("the first one", 0, () -> x.group(NONE, 12));
        CHECK.illegalState("a refused one", () -> x.group(NONE, 12));
        CHECK.due("a refused one takes no number", 1, () -> x.group(0, 0));
        CHECK.illegalArgument("a refused one", () -> x.group(0, 13));
        CHECK.due("below the first one again", 2, () -> x.group(0, NONE));
        CHECK.due("below another one", 3, () -> x.group(1, 1));
        CHECK.due("below that", 4, () -> x.group(3, 12));
        CHECK.due("the last one", 5, () -> x.group(4, 1));
    }

    /** Course 0 lies in group 2, below group 1; course 1 in group 3, below group 0. */
    static void promise2BelowItsParent() {
        newGroup();
        StudyAudit x = new StudyAudit();
        x.group(NONE, NONE);
        x.group(0, NONE);
        x.group(1, NONE);
        x.group(0, NONE);
        x.course(2);
        x.course(3);
        x.requirement(0, 2);
        Offices.allow(x, 1, 0, 1);
        Offices.enter(x, 0, 1);
        x.audit(0, 1);
        CHECK.used("below", x, 2, 1, 1, 1);
    }

    static void promise2WithItsLimit() {
        newGroup();
        int[] limits = {NONE, 0, 1, 12};
        int[] supplies = {12, 0, 1, 12};
        for (int i = 0; i < limits.length; i++) {
            StudyAudit x = new StudyAudit();
            x.group(NONE, limits[i]);
            Offices.addCourses(x, 0, 12);
            x.requirement(0, 1);
            Offices.allow(x, 1, Offices.ALL_COURSES);
            Offices.enter(x, Offices.ALL_COURSES);
            CHECK.due("limit " + limits[i], supplies[i], () -> x.supply(0, 1, 2));
        }
    }

    private static void wrongGroup() {
        CHECK.sentence("Promise 2", "IllegalArgumentException: parent is not NONE and no group, or limit is not NONE and"
                + " not 0 .. 12.");
    }

    static void promise2ParentIsNoGroup() {
        wrongGroup();
        StudyAudit x = new StudyAudit();
        CHECK.illegalArgument("0 when there is none", () -> x.group(0, NONE));
        CHECK.illegalArgument("below NONE", () -> x.group(-2, NONE));
        x.group(NONE, NONE);
        for (int there = 1; there < 6; there++) {
            CHECK.illegalArguments("parent", Offices.outside(NONE, there - 1), p -> x.group(p, NONE));
            int last = there - 1;
            CHECK.due("parent " + last, there, () -> x.group(last, NONE));
        }
        CHECK.illegalArguments("parent", Offices.outside(NONE, 5), p -> x.group(p, NONE));
    }

    static void promise2LimitIsNone() {
        wrongGroup();
        StudyAudit x = new StudyAudit();
        CHECK.illegalArguments("the first one's limit", Offices.outside(NONE, 12), l -> x.group(NONE, l));
        CHECK.due("limit 12", 0, () -> x.group(NONE, 12));
        CHECK.illegalArguments("another one's limit", Offices.outside(NONE, 12), l -> x.group(0, l));
        CHECK.due("limit 0", 1, () -> x.group(0, 0));
        CHECK.due("limit 12", 2, () -> x.group(0, 12));
        CHECK.due("limit NONE", 3, () -> x.group(0, NONE));
    }

    private static void groupTooMany() {
        CHECK.sentence("Promise 2",
                "IllegalStateException: there are 6 groups, or parent is NONE and there is a group.");
    }

    static void promise2SixGroups() {
        groupTooMany();
        StudyAudit x = new StudyAudit();
        x.group(NONE, NONE);
        for (int g = 1; g < 6; g++) {
            int number = g;
            CHECK.due("group " + g, number, () -> x.group(0, NONE));
        }
        for (int p = 0; p < 6; p++) {
            int parent = p;
            CHECK.illegalState("a seventh below " + p, () -> x.group(parent, NONE));
        }
        CHECK.illegalState("a seventh without a parent", () -> x.group(NONE, 0));
        CHECK.illegalArgument("there is no seventh", () -> x.course(6));
        CHECK.due("there is a sixth", 0, () -> x.course(5));
    }

    static void promise2SecondWithoutParent() {
        groupTooMany();
        StudyAudit x = new StudyAudit();
        x.group(NONE, NONE);
        CHECK.illegalState("a second one without a parent", () -> x.group(NONE, NONE));
        CHECK.illegalState("with a limit", () -> x.group(NONE, 12));
        CHECK.illegalArgument("there is no second", () -> x.course(1));
        CHECK.due("a second with a parent", 1, () -> x.group(0, NONE));
        CHECK.illegalState("a third one without a parent", () -> x.group(NONE, NONE));
    }

    private static void newCourse() {
        CHECK.sentence("Promise 3",
                "A new course, with the least number that is free, in a group; it is open and has no life.");
    }

    static void promise3Numbers() {
        newCourse();
        StudyAudit x = Offices.office(0);
        x.group(0, NONE);
        for (int c = 0; c < 12; c++) {
            int number = c;
            CHECK.illegalArgument("a refused one takes no number", () -> x.course(2));
            CHECK.due("its number", number, () -> x.course(number % 2));
        }
    }

    static void promise3InItsGroup() {
        newCourse();
        StudyAudit x = Offices.office(0, 6, 6);
        x.group(0, NONE);
        x.group(0, NONE);
        Offices.addCourses(x, 1, 2);
        Offices.addCourses(x, 0, 3);
        Offices.addCourses(x, 2, 7);
        Offices.allow(x, 1, Offices.ALL_COURSES);
        Offices.allow(x, 2, Offices.ALL_COURSES);
        Offices.enter(x, Offices.ALL_COURSES);
        x.audit(0, 1);
        CHECK.used("twelve courses", x, 12, 2, 7);
    }

    static void promise3OpenAndWithoutLife() {
        newCourse();
        StudyAudit x = Offices.office(12, 6, 6);
        Offices.allow(x, 1, Offices.ALL_COURSES);
        Offices.allow(x, 2, Offices.ALL_COURSES);
        Offices.enter(x);
        CHECK.due("all can be added", 12, () -> x.fewestMore(0, 0));
        for (int c = 0; c < 12; c++) {
            int course = c;
            x.pass(0, c, 0);
            CHECK.due("lives for ever", true, () -> x.lives(0, course, HIGHEST));
            CHECK.due("open", true, () -> x.open(course, true));
            CHECK.due("no life", NONE, () -> x.expire(course, NONE));
        }
    }

    static void promise3TwelveCourses() {
        StudyAudit x = Offices.office(11);
        x.group(0, 0);
        CHECK.sentence("Promise 3", "Answers its number.");
        CHECK.due("the twelfth", 11, () -> x.course(0));
        CHECK.sentence("Promise 3", "IllegalStateException: there are 12 courses.");
        CHECK.illegalState("a thirteenth", () -> x.course(0));
        CHECK.illegalState("in another group", () -> x.course(1));
        CHECK.illegalArgument("there is no thirteenth", () -> x.open(12, true));
        CHECK.due("there is a twelfth", true, () -> x.open(11, true));
    }

    static void promise4FromNowOn() {
        CHECK.sentence("Promise 4", "A course is open or not from now on.");
        StudyAudit x = Offices.office(12, 1);
        x.student(0, 0);
        x.allow(0, 1, 11);
        CHECK.due("open", 1, () -> x.fewestMore(0, 1));
        x.open(11, false);
        CHECK.due("not open", NONE, () -> x.fewestMore(0, 1));
        x.open(11, false);
        CHECK.due("still not open", NONE, () -> x.fewestMore(0, 1));
        x.open(10, true);
        CHECK.due("another one is", NONE, () -> x.fewestMore(0, 1));
        x.open(11, true);
        CHECK.due("open again", 1, () -> x.fewestMore(0, 1));
        x.open(10, false);
        CHECK.due("another one is not", 1, () -> x.fewestMore(0, 1));
    }

    static void promise4WhetherItWas() {
        CHECK.sentence("Promise 4", "Answers whether it was.");
        StudyAudit x = Offices.office(12);
        for (int c = 0; c < 12; c++) {
            int course = c;
            CHECK.due("at first, course " + c, true, () -> x.open(course, false));
            CHECK.due("not, course " + c, false, () -> x.open(course, false));
            CHECK.due("still not, course " + c, false, () -> x.open(course, true));
            CHECK.due("again, course " + c, true, () -> x.open(course, true));
            x.open(c, c % 2 == 0);
        }
        for (int c = 0; c < 12; c++) {
            int course = c;
            CHECK.due("each for itself, course " + c, course % 2 == 0, () -> x.open(course, true));
        }
    }

    static void promise5Becomes() {
        CHECK.sentence("Promise 5", "The life of a course becomes terms (NONE for none).");
        StudyAudit x = Offices.office(2);
        x.pass(0, 1, 10);
        x.pass(0, 0, 10);
        x.expire(1, 0);
        CHECK.due("0, then", true, () -> x.lives(0, 1, 10));
        CHECK.due("0, one term later", false, () -> x.lives(0, 1, 11));
        x.expire(1, 40);
        CHECK.due("40, at the end", true, () -> x.lives(0, 1, 50));
        CHECK.due("40, one term later", false, () -> x.lives(0, 1, 51));
        CHECK.due("the other course has none", true, () -> x.lives(0, 0, 51));
        x.expire(1, NONE);
        CHECK.due("none", true, () -> x.lives(0, 1, HIGHEST));
    }

    static void promise5WhatItWas() {
        CHECK.sentence("Promise 5", "Answers what it was, NONE for none.");
        StudyAudit x = Offices.office(12);
        CHECK.due("none at first", NONE, () -> x.expire(11, 40));
        CHECK.due("40", 40, () -> x.expire(11, 0));
        CHECK.due("0", 0, () -> x.expire(11, 0));
        CHECK.due("0 again", 0, () -> x.expire(11, NONE));
        CHECK.due("none again", NONE, () -> x.expire(11, 7));
        CHECK.due("another course has its own", NONE, () -> x.expire(10, 3));
        CHECK.due("7", 7, () -> x.expire(11, 1));
    }

    static void promise5WrongTerms() {
        CHECK.sentence("Promise 5", "IllegalArgumentException: terms is not NONE and not 0 .. 40.");
        StudyAudit x = Offices.office(1);
        CHECK.illegalArguments("terms", Offices.outside(NONE, 40), t -> x.expire(0, t));
        CHECK.due("nothing was changed", NONE, () -> x.expire(0, 40));
        CHECK.illegalArguments("terms", Offices.outside(NONE, 40), t -> x.expire(0, t));
        CHECK.due("nothing was changed", 40, () -> x.expire(0, 0));
    }

    static void promise6Numbers() {
        CHECK.sentence("Promise 6", "A new requirement of a programme, that allows no courses: its number.");
        StudyAudit x = Offices.office(12);
        for (int r = 1; r <= 5; r++) {
            int number = r;
            CHECK.due("of programme 0", number, () -> x.requirement(0, 6));
            CHECK.illegalArgument("a refused one takes no number", () -> x.requirement(2, 7));
            CHECK.due("of programme 2", number, () -> x.requirement(2, 1));
        }
        CHECK.due("of programme 1", 1, () -> x.requirement(1, 3));
        Offices.enter(x, Offices.ALL_COURSES);
        CHECK.due("no course counts for one of them", 0, () -> x.supply(0, 1, -1));
        CHECK.due("so all is lacking", 30, () -> x.audit(0, 1));
        CHECK.receipt("all are unmet", x, 30, 0, 0b111110, 30, 0, 0, 1);
        CHECK.due("nor would further courses do", NONE, () -> x.fewestMore(0, 0));
    }

    static void promise6WrongDemand() {
        CHECK.sentence("Promise 6", "IllegalArgumentException: demand is not 1 .. 6.");
        StudyAudit x = new StudyAudit();
        CHECK.illegalArguments("demand", Offices.outside(1, 6), d -> x.requirement(0, d));
        CHECK.due("demand 1", 1, () -> x.requirement(0, 1));
        CHECK.due("demand 6", 2, () -> x.requirement(0, 6));
        x.student(0, 0);
        CHECK.due("needed of 1", 1, () -> x.exempt(0, 1, 0));
        CHECK.due("needed of 2", 6, () -> x.exempt(0, 2, 0));
        CHECK.illegalArgument("there is no 3", () -> x.exempt(0, 3, 0));
    }

    static void promise6FiveRequirements() {
        CHECK.sentence("Promise 6", "IllegalStateException: the programme has 5.");
        StudyAudit x = Offices.office(1);
        for (int p = 0; p < 3; p++) {
            int programme = p;
            Offices.addRequirements(x, p, 1, 1, 1, 1);
            CHECK.due("a fifth of programme " + p, 5, () -> x.requirement(programme, 1));
            CHECK.illegalState("a sixth of programme " + p, () -> x.requirement(programme, 1));
            CHECK.illegalArgument("there is no sixth", () -> x.allow(programme, 6, 0));
            CHECK.due("there is a fifth", true, () -> x.allow(programme, 5, 0));
        }
    }

    static void promise7Allows() {
        CHECK.sentence("Promise 7", "A requirement allows a course.");
        StudyAudit x = Offices.office(12, 1, 1, 1, 1, 1);
        x.requirement(1, 1);
        Offices.enter(x, Offices.ALL_COURSES);
        x.student(1, 1);
        x.pass(1, 11, 1);
        x.allow(0, 5, 11);
        x.allow(0, 5, 0);
        CHECK.due("the last requirement has two", 2, () -> x.supply(0, 1, 0b100000));
        CHECK.due("the others have none", 0, () -> x.supply(0, 1, 0b011110));
        CHECK.due("nor has another programme's", 0, () -> x.supply(1, 1, 0b10));
        x.allow(0, 1, 11);
        CHECK.due("a course may count for two", 1, () -> x.supply(0, 1, 0b10));
    }

    static void promise7FalseWhenAlready() {
        CHECK.sentence("Promise 7", "False when it did already.");
        StudyAudit x = Offices.office(12, 1, 1);
        x.requirement(1, 1);
        CHECK.due("new", true, () -> x.allow(0, 2, 11));
        CHECK.due("not new", false, () -> x.allow(0, 2, 11));
        CHECK.due("still not", false, () -> x.allow(0, 2, 11));
        CHECK.due("new with another course", true, () -> x.allow(0, 2, 0));
        CHECK.due("new for another requirement", true, () -> x.allow(0, 1, 11));
        CHECK.due("new in another programme", true, () -> x.allow(1, 1, 11));
        x.student(0, 0);
        x.substitute(0, 5, 11);
        CHECK.due("new, though a petition has it count", true, () -> x.allow(0, 2, 5));
    }
}
