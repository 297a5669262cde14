import java.util.ArrayList;
import java.util.List;

/** What some three hundred calls tell of an office: two offices in the same state tell the same. They are used up by it. */
final class State {
    private final StudyAudit office;
    private final List<String> told = new ArrayList<>();

    private State(StudyAudit office) {
        this.office = office;
    }

    static List<String> of(StudyAudit office) {
        State state = new State(office);
        state.tellReceipt();
        state.tellStudents();
        state.tellCourses();
        state.tellProgrammes();
        state.tellWhatIsFree();
        return state.told;
    }

    /** The first answer that is not the same, or "no difference". */
    static String difference(List<String> one, List<String> other) {
        for (int i = 0; i < one.size(); i++) {
            if (!one.get(i).equals(other.get(i))) {
                return one.get(i) + " and not " + other.get(i);
            }
        }
        return "no difference";
    }

    private void tell(String call, Check.Call asked) {
        told.add(call + " = " + Check.answerOf(asked));
    }

    private void tellReceipt() {
        for (int n = 0; n < 12; n++) {
            int number = n;
            tell("receipt " + n, () -> office.receipt(number));
            tell("assigned " + n, () -> office.assigned(number));
            tell("used " + n, () -> office.used(number));
        }
    }

    private void tellStudents() {
        for (int s = 0; s < 4; s++) {
            int student = s;
            for (int t = 2; t <= 10; t += 4) {
                int term = t;
                tell("audit of student " + s + " in term " + t, () -> office.audit(student, term));
                tell("fewestMore of student " + s + " in term " + t, () -> office.fewestMore(student, term));
            }
            for (int r = 1; r <= 5; r++) {
                int requirement = r;
                tell("supply of student " + s + " for " + r, () -> office.supply(student, 6, 1 << requirement));
                tell("need of student " + s + " of " + r, () -> office.exempt(student, requirement, 0));
            }
            for (int c = 0; c < 12; c++) {
                int course = c;
                tell("whether student " + s + " has course " + c, () -> office.lives(student, course, 6));
                tell("since when student " + s + " has course " + c, () -> office.pass(student, course, 0));
            }
        }
    }

    private void tellCourses() {
        for (int c = 0; c < 12; c++) {
            int course = c;
            tell("open " + c, () -> office.open(course, true));
            tell("expire " + c, () -> office.expire(course, 1));
        }
    }

    private void tellProgrammes() {
        for (int s = 0; s < 4; s++) {
            int student = s;
            tell("programme of student " + s, () -> office.student(student, 0));
        }
        for (int p = 0; p < 3; p++) {
            int programme = p;
            for (int c = 0; c < 12; c++) {
                int course = c;
                tell("allow " + c + " in programme " + p, () -> office.allow(programme, 1, course));
            }
        }
    }

    private void tellWhatIsFree() {
        tell("a first group", () -> office.group(StudyAudit.NONE, 0));
        for (int g = 1; g <= 6; g++) {
            tell("a group", () -> office.group(0, 0));
        }
        for (int c = 0; c < 13; c++) {
            tell("a course", () -> office.course(0));
        }
        for (int r = 0; r < 18; r++) {
            int programme = r % 3;
            tell("a requirement of programme " + programme, () -> office.requirement(programme, 1));
        }
        for (int to = 1; to < 10; to++) {
            int course = to;
            tell("a petition of student 0", () -> office.substitute(0, 0, course));
            tell("a petition of student 1", () -> office.substitute(1, 0, course));
        }
    }
}
