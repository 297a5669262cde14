/** Small offices to test with, and what is often done in them. */
final class Offices {
    static final int NONE = StudyAudit.NONE;
    static final int LOWEST = Integer.MIN_VALUE;
    static final int HIGHEST = Integer.MAX_VALUE;
    static final int[] ALL_COURSES = {0, 1, 2, 3, 4, 5, 6, 7, 8, 9, 10, 11};

    private Offices() {
    }

    /** A first group without a limit, so many courses in it, and programme 0 with these demands. */
    static StudyAudit office(int courses, int... demands) {
        StudyAudit x = new StudyAudit();
        x.group(NONE, NONE);
        addCourses(x, 0, courses);
        addRequirements(x, 0, demands);
        return x;
    }

    static void addCourses(StudyAudit x, int group, int count) {
        for (int c = 0; c < count; c++) {
            x.course(group);
        }
    }

    static void addRequirements(StudyAudit x, int programme, int... demands) {
        for (int demand : demands) {
            x.requirement(programme, demand);
        }
    }

    /** A requirement of programme 0 allows these courses. */
    static void allow(StudyAudit x, int requirement, int... courses) {
        for (int c : courses) {
            x.allow(0, requirement, c);
        }
    }

    /** Student 0 comes into programme 0 and passes these courses in term 1. */
    static void enter(StudyAudit x, int... passed) {
        x.student(0, 0);
        for (int c : passed) {
            x.pass(0, c, 1);
        }
    }

    /**
     * Numbers that are not least .. most: those next to it, those that a shift by too many bits or a
     * cast to a byte or a short would bring into it, and the ends.
     */
    static int[] outside(int least, int most) {
        return new int[] {least - 1, most + 1, least - 65536, most + 65536, LOWEST, HIGHEST};
    }
}
