/** The sections "What it is" and "Terms": each test holds the sentence that it quotes. */
public final class TermsTest {
    private static final int NONE = Offices.NONE;
    private static final Check CHECK = new Check();

    public static void main(String[] args) {
        CHECK.runAll(TermsTest.class);
    }

    /** The dearest office there is: every course has been passed and is allowed by every requirement. */
    static void uses512Calls() {
        CHECK.sentence("What it is", "An object is used for at most 512 calls after it has been made");
        StudyAudit x = Offices.office(12, 3, 2, 1, 2, 4);
        for (int r = 1; r <= 5; r++) {
            Offices.allow(x, r, Offices.ALL_COURSES);
        }
        Offices.enter(x, Offices.ALL_COURSES);
        int made = 1 + 12 + 5 + 60 + 1 + 12;
        for (int i = made; i < 510; i += 2) {
            CHECK.due("audit", 0, () -> x.audit(0, 1));
            CHECK.due("fewestMore", 12, () -> x.fewestMore(0, 0));
        }
        CHECK.due("call 511 or 512", 5, () -> x.assigned(11));
    }

    static void groupsFormATree() {
        CHECK.sentence("Terms", "GROUPS 0 .. 5 form a tree: the first one has no parent, each other one a group that"
                + " was there before it");
        StudyAudit chain = new StudyAudit();
        CHECK.due("the first one", 0, () -> chain.group(NONE, NONE));
        for (int g = 1; g <= 5; g++) {
            int number = g;
            CHECK.illegalArgument("its own parent", () -> chain.group(number, NONE));
            CHECK.due("below the one before", number, () -> chain.group(number - 1, NONE));
        }
        StudyAudit star = Offices.office(0);
        for (int g = 1; g <= 5; g++) {
            int number = g;
            CHECK.due("below the first one", number, () -> star.group(0, NONE));
        }
    }

    static void limits() {
        CHECK.sentence("Terms", "a group has a LIMIT, 0 .. 12, or none.");
        for (int limit = NONE; limit <= 12; limit++) {
            int most = limit == NONE ? 12 : limit;
            StudyAudit top = twelveCoursesIn(limit, NONE, 0);
            CHECK.due("of the first group: " + limit, 12 - most, () -> top.audit(0, 1));
            CHECK.due("of the first group: " + limit, most, () -> top.used(0));
            StudyAudit inner = twelveCoursesIn(NONE, limit, 1);
            CHECK.due("of another group: " + limit, 12 - most, () -> inner.audit(0, 1));
            CHECK.due("of another group: " + limit, most, () -> inner.used(1));
            CHECK.due("supply: " + limit, most, () -> inner.supply(0, 1, 2));
            CHECK.due("twelve further ones: " + limit, most == 12 ? 12 : NONE, () -> inner.fewestMore(0, 0));
            inner.exempt(0, 1, Math.min(6, 12 - most));
            inner.exempt(0, 2, Math.max(0, 6 - most));
            CHECK.due("as many further ones as the limit: " + limit, most, () -> inner.fewestMore(0, 0));
        }
    }

    /** Groups 0 and 1 with these limits; twelve courses in one of them, all passed, and all are asked for. */
    private static StudyAudit twelveCoursesIn(int first, int second, int group) {
        StudyAudit x = new StudyAudit();
        x.group(NONE, first);
        x.group(0, second);
        Offices.addCourses(x, group, 12);
        Offices.addRequirements(x, 0, 6, 6);
        Offices.allow(x, 1, Offices.ALL_COURSES);
        Offices.allow(x, 2, Offices.ALL_COURSES);
        Offices.enter(x, Offices.ALL_COURSES);
        return x;
    }

    static void courses() {
        CHECK.sentence("Terms", "COURSES 0 .. 11 lie in a group each; they are OPEN or not, and have a LIFE, 0 .. 40"
                + " terms, or none.");
        StudyAudit x = Offices.office(12, 1);
        x.allow(0, 1, 11);
        Offices.enter(x, 11);
        CHECK.due("course 11 counts", 0, () -> x.audit(0, 1));
        x.expire(11, 40);
        CHECK.due("life 40, at its end", 0, () -> x.audit(0, 41));
        CHECK.due("life 40, behind it", 1, () -> x.audit(0, 42));
        x.expire(11, 0);
        CHECK.due("life 0, at its end", 0, () -> x.audit(0, 1));
        CHECK.due("life 0, behind it", 1, () -> x.audit(0, 2));
        x.expire(11, NONE);
        CHECK.due("no life", 0, () -> x.audit(0, 99));
    }

    /** Groups 0 > 1 > .. > 5; whichever of them has limit 0, the course in the lowest is shut out. */
    static void withinAllGroupsAbove() {
        CHECK.sentence("Terms", "A course is WITHIN its group and all groups above that.");
        for (int shut = 0; shut <= 6; shut++) {
            StudyAudit x = new StudyAudit();
            for (int g = 0; g < 6; g++) {
                x.group(g - 1, g == shut ? 0 : NONE);
            }
            x.course(5);
            x.requirement(0, 1);
            x.allow(0, 1, 0);
            Offices.enter(x, 0);
            int given = shut == 6 ? 1 : 0;
            CHECK.due("supply with group " + shut + " shut", given, () -> x.supply(0, 1, 2));
            CHECK.due("audit with group " + shut + " shut", 1 - given, () -> x.audit(0, 1));
            CHECK.due("further with group " + shut + " shut", given == 1 ? 1 : NONE, () -> x.fewestMore(0, 0));
            CHECK.used("group " + shut + " shut", x, given, given, given, given, given, given);
        }
    }

    /** Groups 0 > 1, 2; 1 > 3; 2 > 4; 3 > 5: a course in each. */
    static void notWithinGroupsBeside() {
        CHECK.sentence("Terms", "A course is WITHIN its group and all groups above that.");
        StudyAudit x = Offices.office(0, 6);
        int[] parents = {0, 0, 1, 2, 3};
        for (int p : parents) {
            x.group(p, NONE);
        }
        for (int g = 0; g < 6; g++) {
            x.course(g);
            x.allow(0, 1, g);
        }
        Offices.enter(x, 0, 1, 2, 3, 4, 5);
        x.audit(0, 1);
        CHECK.used("a tree", x, 6, 3, 2, 2, 1, 1);
    }

    static void programmes() {
        CHECK.sentence("Terms", "PROGRAMMES 0 .. 2 have REQUIREMENTS 1, 2, .., at most 5 each");
        StudyAudit x = new StudyAudit();
        for (int r = 1; r <= 5; r++) {
            for (int p = 0; p < 3; p++) {
                int number = r;
                int programme = p;
                CHECK.due("programme " + p, number, () -> x.requirement(programme, programme + 1));
            }
        }
        for (int p = 0; p < 3; p++) {
            int programme = p;
            CHECK.illegalState("a sixth of programme " + p, () -> x.requirement(programme, 1));
            x.student(p, p);
            CHECK.due("five of programme " + p, 5 * (programme + 1), () -> x.audit(programme, 0));
        }
    }

    static void demands() {
        CHECK.sentence("Terms", "a requirement ALLOWS some courses and asks for a number of them, its DEMAND.");
        for (int d = 1; d <= 6; d++) {
            int demand = d;
            StudyAudit x = Offices.office(6, demand);
            Offices.allow(x, 1, 0, 1, 2, 3, 4, 5);
            Offices.enter(x);
            for (int c = 0; c < demand; c++) {
                int lacks = demand - c;
                CHECK.due("demand " + d + ", passed " + c, lacks, () -> x.audit(0, 1));
                CHECK.due("demand " + d + ", passed " + c, lacks, () -> x.fewestMore(0, 1));
                x.pass(0, c, 1);
            }
            CHECK.due("demand " + d + " is met", 0, () -> x.audit(0, 1));
            CHECK.due("demand " + d + " is met", 0, () -> x.fewestMore(0, 1));
        }
    }

    static void studentsInOneProgramme() {
        CHECK.sentence("Terms", "STUDENTS 0 .. 3 are in one programme, or in none yet");
        StudyAudit x = Offices.office(0, 1);
        Offices.addRequirements(x, 1, 2);
        Offices.addRequirements(x, 2, 3);
        for (int s = 0; s < 4; s++) {
            int student = s;
            CHECK.illegalState("student " + s + " in none yet", () -> x.audit(student, 0));
            for (int p = 2; p >= 0; p--) {
                int demand = p + 1;
                x.student(s, p);
                CHECK.due("student " + s + " in programme " + p + " alone", demand, () -> x.audit(student, 0));
            }
        }
    }

    static void petitionsArePairs() {
        CHECK.sentence("Terms", "PETITIONS, pairs of courses");
        StudyAudit x = Offices.office(12, 6, 6);
        for (int c = 0; c < 4; c++) {
            x.allow(0, 1, 11 - c);
            x.substitute(0, c, 11 - c);
        }
        Offices.enter(x, 0, 1, 2, 3);
        CHECK.due("each has its second course", 4, () -> x.supply(0, 1, 0b10));
        x.allow(0, 2, 10);
        CHECK.due("and no other one", 1, () -> x.supply(0, 1, 0b100));
    }

    static void onePassInEachCourse() {
        CHECK.sentence("Terms", "they have PASSES, at most one in each course, with a TERM");
        StudyAudit x = Offices.office(1, 2);
        x.allow(0, 1, 0);
        x.student(0, 0);
        x.pass(0, 0, 1);
        x.pass(0, 0, 2);
        x.pass(0, 0, 2);
        CHECK.due("supply", 1, () -> x.supply(0, 2, 2));
        CHECK.due("lacks", 1, () -> x.audit(0, 2));
    }

    static void exemptionsAtFirst() {
        CHECK.sentence("Terms", "EXEMPTIONS, a number for each requirement of their programme, at first 0.");
        StudyAudit x = Offices.office(1, 6);
        for (int s = 0; s < 4; s++) {
            int student = s;
            x.student(s, 0);
            CHECK.due("student " + s, 6, () -> x.exempt(student, 1, 0));
        }
        x.exempt(0, 1, 9);
        x.requirement(0, 5);
        CHECK.due("of a later requirement", 5, () -> x.exempt(0, 2, 0));
    }

    static void needsAtLeastNothing() {
        CHECK.sentence("Terms", "What a student NEEDS of a requirement is its demand less the exemption, but at least"
                + " 0.");
        StudyAudit x = Offices.office(2, 1, 1);
        Offices.allow(x, 1, 0, 1);
        Offices.allow(x, 2, 1);
        Offices.enter(x, 0);
        x.exempt(0, 1, 9);
        CHECK.due("of the other one a course is lacking", 1, () -> x.audit(0, 1));
        CHECK.receipt("one is needed in all", x, 1, 0, 0b100, 1, 0, 0, 1);
        CHECK.assignment("nothing is given to the first one", x, 0, 0);
        CHECK.due("one more", 1, () -> x.fewestMore(0, 1));
    }

    static void livesFromItsTermOn() {
        CHECK.sentence("Terms", "A pass LIVES in a term t if its own term is not greater than t, and, if the course has"
                + " a life, t less its term is not greater than that.");
        StudyAudit x = Offices.office(1, 1);
        x.allow(0, 1, 0);
        x.student(0, 0);
        x.pass(0, 0, 10);
        int[] lives = {0, 1, 40};
        for (int life : lives) {
            x.expire(0, life);
            int[] terms = {9, 10, 10 + life, 11 + life};
            int[] due = {0, 1, 1, 0};
            for (int i = 0; i < terms.length; i++) {
                int term = terms[i];
                int living = due[i];
                CHECK.due("life " + life + ", term " + term, living == 1, () -> x.lives(0, 0, term));
                CHECK.due("life " + life + ", supply in term " + term, living, () -> x.supply(0, term, 2));
                CHECK.due("life " + life + ", audit in term " + term, 1 - living, () -> x.audit(0, term));
                CHECK.due("life " + life + ", further in term " + term, 1 - living, () -> x.fewestMore(0, term));
            }
        }
        x.expire(0, NONE);
        CHECK.due("no life, term 9", false, () -> x.lives(0, 0, 9));
        CHECK.due("no life, term 10", true, () -> x.lives(0, 0, 10));
        CHECK.due("no life, term 99", true, () -> x.lives(0, 0, 99));
    }

    static void counts() {
        CHECK.sentence("Terms", "A course COUNTS for a requirement of the student's programme if that allows it, or"
                + " allows the second course of one of the student's petitions whose first course it is.");
        StudyAudit x = Offices.office(4, 1, 1, 1);
        for (int c = 0; c < 3; c++) {
            x.allow(0, c + 1, c);
        }
        Offices.enter(x, 3);
        x.substitute(0, 3, 0);
        x.substitute(0, 3, 2);
        x.substitute(0, 1, 3);
        CHECK.due("for the first of two", 1, () -> x.supply(0, 1, 0b10));
        CHECK.due("not as a second course", 0, () -> x.supply(0, 1, 0b100));
        CHECK.due("for the second of two", 1, () -> x.supply(0, 1, 0b1000));
        CHECK.due("but once", 1, () -> x.supply(0, 1, 0b1110));
        CHECK.due("two are lacking", 2, () -> x.audit(0, 1));
        CHECK.assignment("the lesser requirement", x, 0, 0, 0, 1);
        x.allow(0, 1, 3);
        CHECK.due("allowed and by petition, still once", 1, () -> x.supply(0, 1, 0b10));
    }

    private static void assignments() {
        CHECK.sentence("Terms", "an ASSIGNMENT gives to some of these courses one requirement each, for which they"
                + " count; no requirement is given to more courses than the student needs of it, and within a group with"
                + " a limit not more courses than that are given one.");
    }

    static void assignmentOneRequirementEach() {
        assignments();
        StudyAudit x = Offices.office(1, 1, 1);
        x.allow(0, 1, 0);
        x.allow(0, 2, 0);
        Offices.enter(x, 0);
        CHECK.due("one course for two requirements", 1, () -> x.audit(0, 1));
        CHECK.receipt("both ask for it", x, 2, 1, 0b110, 2, 1, 0, 1);
        CHECK.assignment("it goes to the first", x, 1);
    }

    static void assignmentForWhichTheyCount() {
        assignments();
        StudyAudit x = Offices.office(2, 1, 1);
        x.allow(0, 2, 0);
        Offices.enter(x, 0, 1);
        CHECK.due("one counts for nothing", 1, () -> x.audit(0, 1));
        CHECK.assignment("the other goes where it counts", x, 2, 0);
    }

    static void assignmentNoMoreThanNeeded() {
        assignments();
        StudyAudit x = Offices.office(12, 6);
        Offices.allow(x, 1, Offices.ALL_COURSES);
        Offices.enter(x, Offices.ALL_COURSES);
        CHECK.due("six of twelve", 0, () -> x.audit(0, 1));
        CHECK.receipt("six of twelve", x, 6, 6, 0, 0, 0);
        CHECK.assignment("six of twelve", x, 1, 1, 1, 1, 1, 1, 0, 0, 0, 0, 0, 0);
        x.exempt(0, 1, 5);
        x.audit(0, 1);
        CHECK.assignment("one of twelve", x, 1, 0, 0, 0, 0, 0, 0, 0, 0, 0, 0, 0);
    }

    /** Courses 0, 1, 2 in group 2 (limit 2) below 1 (limit 3), courses 3, 4 in group 1, course 5 in group 0 (limit 4). */
    static void assignmentWithinLimits() {
        assignments();
        StudyAudit x = new StudyAudit();
        x.group(NONE, 4);
        x.group(0, 3);
        x.group(1, 2);
        Offices.addCourses(x, 2, 3);
        Offices.addCourses(x, 1, 2);
        Offices.addCourses(x, 0, 2);
        x.requirement(0, 6);
        Offices.allow(x, 1, 0, 1, 2, 3, 4, 5, 6);
        Offices.enter(x, 0, 1, 2, 3, 4, 5, 6);
        CHECK.due("four of seven", 2, () -> x.audit(0, 1));
        CHECK.assignment("each limit is kept", x, 1, 1, 0, 1, 0, 1, 0);
        CHECK.used("each limit is reached", x, 4, 3, 2);
    }

    static void full() {
        CHECK.sentence("Terms", "It is FULL when each requirement is given to as many courses as the student needs.");
        StudyAudit x = Offices.office(3, 2, 1);
        Offices.allow(x, 1, 0, 1);
        Offices.allow(x, 2, 2);
        Offices.enter(x, 0, 1);
        CHECK.due("one of two requirements", 1, () -> x.audit(0, 1));
        CHECK.due("one of two requirements", 1, () -> x.fewestMore(0, 1));
        x.pass(0, 2, 1);
        CHECK.due("both", 0, () -> x.audit(0, 1));
        CHECK.due("both", 0, () -> x.fewestMore(0, 1));
        x.exempt(0, 1, 2);
        x.exempt(0, 2, 1);
        CHECK.due("nothing is needed, nothing given", 0, () -> x.audit(0, 0));
        CHECK.receipt("nothing is needed, nothing given", x, 0, 0, 0, 0, 0, 0, 0);
    }

    private static void better() {
        CHECK.sentence("Terms", "One assignment is BETTER than another one if it gives requirements to more courses; or,"
                + " when it does to as many, if at the least course for which they differ it gives one and the other"
                + " gives none, or it gives the lesser one.");
    }

    static void betterWithMoreCourses() {
        better();
        StudyAudit x = Offices.office(2, 1, 1);
        Offices.allow(x, 1, 0, 1);
        Offices.allow(x, 2, 0);
        Offices.enter(x, 0, 1);
        x.audit(0, 1);
        CHECK.assignment("course 0 leaves the lesser requirement", x, 2, 1);

        StudyAudit skip = new StudyAudit();
        skip.group(NONE, NONE);
        skip.group(0, 1);
        skip.course(1);
        skip.course(1);
        skip.course(0);
        Offices.addRequirements(skip, 0, 1, 1);
        Offices.allow(skip, 1, 0, 2);
        Offices.allow(skip, 2, 1);
        Offices.enter(skip, 0, 1, 2);
        skip.audit(0, 1);
        CHECK.assignment("course 0 leaves the group", skip, 0, 2, 1);
    }

    static void betterThanNone() {
        better();
        StudyAudit x = new StudyAudit();
        x.group(NONE, 1);
        Offices.addCourses(x, 0, 12);
        Offices.addRequirements(x, 0, 1, 1, 1, 1, 1);
        x.allow(0, 5, 0);
        for (int c = 1; c < 12; c++) {
            x.allow(0, 1, c);
        }
        Offices.enter(x, Offices.ALL_COURSES);
        x.audit(0, 1);
        CHECK.assignment("requirement 5 for course 0, not 1 for another", x, 5, 0, 0, 0, 0, 0, 0, 0, 0, 0, 0, 0);
    }

    /** What later courses are given, however good, does not outweigh course 0, however little that gains. */
    static void betterAtTheLeastCourse() {
        better();
        StudyAudit x = new StudyAudit();
        x.group(NONE, NONE);
        x.group(0, 1);
        x.group(0, 1);
        Offices.addCourses(x, 1, 2);
        Offices.addCourses(x, 2, 2);
        Offices.addRequirements(x, 0, 1, 1, 1, 1, 1);
        Offices.allow(x, 5, 0, 2);
        Offices.allow(x, 1, 1);
        Offices.allow(x, 2, 3);
        Offices.enter(x, 0, 1, 2, 3);
        CHECK.due("two of five", 3, () -> x.audit(0, 1));
        CHECK.assignment("course 0 and not courses 1 and 2", x, 5, 0, 0, 2);
    }

    static void betterWithTheLesserOne() {
        better();
        StudyAudit x = Offices.office(3, 1, 1);
        Offices.allow(x, 1, 0, 1, 2);
        Offices.allow(x, 2, 0, 1, 2);
        Offices.enter(x, 0, 1, 2);
        x.audit(0, 1);
        CHECK.assignment("lesser ones for lesser courses", x, 1, 2, 0);

        StudyAudit loses = Offices.office(3, 1, 1);
        Offices.allow(loses, 1, 0, 1);
        Offices.allow(loses, 2, 0, 2);
        Offices.enter(loses, 0, 1, 2);
        loses.audit(0, 1);
        CHECK.assignment("course 0 has the lesser one, though course 1 has none then", loses, 1, 0, 2);

        StudyAudit later = Offices.office(12, 1, 1, 1, 1, 1);
        Offices.allow(later, 4, 10, 11);
        Offices.allow(later, 5, 10, 11);
        Offices.enter(later, 10, 11);
        later.audit(0, 1);
        CHECK.assignment("the last courses", later, 0, 0, 0, 0, 0, 0, 0, 0, 0, 0, 4, 5);
    }

    private static void supplies() {
        CHECK.sentence("Terms", "The SUPPLY of a set of requirements is the greatest number of courses, each counting"
                + " for at least one requirement of the set, of which within each group with a limit there are not more"
                + " than that; its NEED is what the student needs of all its requirements together.");
    }

    /** Groups 0 > 1 > 2 with limits 3, 1 and none. */
    static void supplyWithinLimits() {
        supplies();
        StudyAudit x = new StudyAudit();
        x.group(NONE, 3);
        x.group(0, 1);
        x.group(1, NONE);
        int[] groups = {1, 2, 0, 0, 0};
        for (int g : groups) {
            x.course(g);
        }
        Offices.addRequirements(x, 0, 1, 1, 1);
        Offices.allow(x, 1, 0, 1);
        Offices.allow(x, 2, 2);
        Offices.allow(x, 3, 2, 3, 4);
        Offices.enter(x, 0, 1, 2, 3, 4);
        CHECK.due("no requirement", 0, () -> x.supply(0, 1, 0));
        CHECK.due("a limit above", 1, () -> x.supply(0, 1, 0b10));
        CHECK.due("more than is needed", 3, () -> x.supply(0, 1, 0b1000));
        CHECK.due("a course that counts for both is one", 3, () -> x.supply(0, 1, 0b1100));
        CHECK.due("two groups", 2, () -> x.supply(0, 1, 0b110));
        CHECK.due("the first group's limit", 3, () -> x.supply(0, 1, 0b1110));
        x.exempt(0, 3, 9);
        CHECK.due("also of what is not needed", 3, () -> x.supply(0, 1, 0b1000));
    }

    private static void unmet() {
        CHECK.sentence("Terms", "The set is UNMET, if no other set of requirements has its need more above its supply,"
                + " and no set with fewer requirements has it as much above.");
    }

    static void unmetIsEmptyWhenFull() {
        unmet();
        StudyAudit x = Offices.office(3, 1, 2);
        Offices.allow(x, 1, 0);
        Offices.allow(x, 2, 1, 2);
        Offices.enter(x, 0, 1, 2);
        CHECK.due("needs and supplies are the same", 0, () -> x.audit(0, 1));
        CHECK.receipt("the empty set", x, 3, 3, 0, 0, 0);
    }

    static void unmetTakesNoneThatIsMet() {
        unmet();
        StudyAudit x = Offices.office(4, 2, 1, 2);
        Offices.allow(x, 1, 0);
        Offices.allow(x, 2, 0, 1);
        Offices.allow(x, 3, 2, 3);
        Offices.enter(x, 0, 1, 2, 3);
        CHECK.due("requirement 1 asks for too much", 1, () -> x.audit(0, 1));
        CHECK.receipt("1 alone, not 1 and 2", x, 5, 4, 0b10, 2, 1);
        x.requirement(0, 6);
        x.exempt(0, 4, 6);
        x.audit(0, 1);
        CHECK.receipt("nor one of which nothing is needed", x, 5, 4, 0b10, 2, 1);
    }

    static void unmetTakesAllThatAsksForMore() {
        unmet();
        StudyAudit x = Offices.office(2, 2, 3, 1, 1, 1);
        x.allow(0, 1, 0);
        x.allow(0, 2, 1);
        Offices.enter(x, 0, 1);
        CHECK.due("each lacks some", 6, () -> x.audit(0, 1));
        CHECK.receipt("all five", x, 8, 2, 0b111110, 8, 2);
    }

    static void unmetOnlyTogether() {
        unmet();
        StudyAudit x = Offices.office(3, 1, 1, 1, 1, 1);
        Offices.allow(x, 1, 2);
        for (int r = 2; r <= 4; r++) {
            Offices.allow(x, r, 0, 1);
        }
        Offices.allow(x, 5, 2);
        Offices.enter(x, 0, 1, 2);
        x.exempt(0, 5, 1);
        CHECK.due("two courses for three", 1, () -> x.audit(0, 1));
        CHECK.receipt("these three", x, 4, 3, 0b11100, 3, 2);
    }

    /** Courses 0 and 1 lie in a group with limit 1. */
    static void unmetByALimit() {
        unmet();
        StudyAudit x = new StudyAudit();
        x.group(NONE, NONE);
        x.group(0, 1);
        x.course(1);
        x.course(1);
        x.course(0);
        for (int r = 1; r <= 3; r++) {
            x.requirement(0, 1);
            x.allow(0, r, r - 1);
        }
        Offices.enter(x, 0, 1, 2);
        CHECK.due("one is too many", 1, () -> x.audit(0, 1));
        CHECK.receipt("the two in the group", x, 3, 2, 0b110, 2, 1);
        CHECK.assignment("the lesser one is given", x, 1, 0, 3);
    }

    static void unmetTellsWhatLacks() {
        CHECK.sentence("Terms", "(There is just one such set. Its need less its supply is the number of courses that"
                + " the best assignment lacks to be full.)");
        StudyAudit x = Offices.office(12, 6, 5, 4);
        Offices.allow(x, 1, 0, 1, 2, 3, 4);
        Offices.allow(x, 2, 3, 4, 5, 6);
        Offices.allow(x, 3, 7, 8, 9, 10);
        Offices.enter(x);
        int[] due = {15, 14, 13, 12, 11, 10, 9, 8, 7, 6, 5, 4, 4};
        for (int c = 0; c <= 12; c++) {
            int lacks = due[c];
            CHECK.due("lacks, " + c + " passes", lacks, () -> x.audit(0, 1));
            CHECK.due("need less supply, " + c + " passes", lacks, () -> x.receipt(3) - x.receipt(4));
            CHECK.due("needed less given, " + c + " passes", lacks, () -> x.receipt(0) - x.receipt(1));
            if (c < 12) {
                x.pass(0, c, 1);
            }
        }
        CHECK.receipt("in the end", x, 15, 11, 0b110, 11, 7);
    }

    /** All that can be changed is changed, and nothing of the receipt. */
    static void receiptAsItWasThen() {
        CHECK.sentence("Terms", "THE RECEIPT is of the latest audit, as it was then, whatever is changed later.");
        StudyAudit x = Offices.office(3, 1, 1);
        x.group(0, NONE);
        x.course(1);
        Offices.allow(x, 1, 0, 3);
        Offices.enter(x, 0, 3);
        x.audit(0, 1);
        x.group(1, 0);
        x.course(2);
        x.open(0, false);
        x.expire(0, 0);
        x.requirement(0, 6);
        x.allow(0, 2, 3);
        x.pass(0, 1, 1);
        x.pass(0, 0, 50);
        x.substitute(0, 1, 0);
        x.exempt(0, 1, 9);
        x.student(1, 0);
        x.student(0, 1);
        x.lives(0, 0, 1);
        x.supply(1, 9, -1);
        x.fewestMore(1, 9);
        CHECK.receipt("as it was", x, 2, 1, 0b100, 1, 0, 0, 1);
        CHECK.assignment("as it was", x, 1, 0, 0, 0, 0);
        CHECK.used("as it was", x, 1, 0, 0);
    }

    static void receiptOfTheLatestAudit() {
        CHECK.sentence("Terms", "THE RECEIPT is of the latest audit, as it was then, whatever is changed later.");
        StudyAudit x = Offices.office(2, 2);
        Offices.allow(x, 1, 0, 1);
        Offices.enter(x, 0, 1);
        x.student(3, 0);
        x.pass(3, 1, 5);
        x.audit(0, 1);
        CHECK.receipt("student 0", x, 2, 2, 0, 0, 0, 0, 1);
        x.audit(3, 9);
        CHECK.receipt("student 3", x, 2, 1, 0b10, 2, 1, 3, 9);
        CHECK.assignment("student 3", x, 0, 1);
        CHECK.used("student 3", x, 1);
        CHECK.illegalArgument("a refused audit", () -> x.audit(0, 100));
        CHECK.illegalState("a refused audit", () -> x.audit(2, 1));
        CHECK.receipt("still student 3", x, 2, 1, 0b10, 2, 1, 3, 9);
        x.audit(0, 1);
        CHECK.receipt("student 0 again, of whom nothing is unmet", x, 2, 2, 0, 0, 0, 0, 1);
        CHECK.assignment("student 0 again", x, 1, 1);
    }

    /** Nothing of a greater audit just before comes into a lesser one. */
    static void receiptAfterAGreaterOne() {
        CHECK.sentence("Terms", "THE RECEIPT is of the latest audit, as it was then, whatever is changed later.");
        StudyAudit x = Offices.office(12, 3, 2, 1, 2, 4);
        for (int r = 1; r <= 5; r++) {
            Offices.allow(x, r, Offices.ALL_COURSES);
        }
        Offices.enter(x, Offices.ALL_COURSES);
        x.student(1, 0);
        int[] all = {1, 1, 1, 2, 2, 3, 4, 4, 5, 5, 5, 5};
        for (int passed = 0; passed < 12; passed++) {
            int[] due = new int[12];
            System.arraycopy(all, 0, due, 0, passed);
            int lacks = 12 - passed;
            CHECK.due("twelve courses", 0, () -> x.audit(0, 1));
            CHECK.due(passed + " courses", lacks, () -> x.audit(1, 1));
            CHECK.assignment(passed + " courses", x, due);
            x.pass(1, passed, 1);
        }
    }
}
