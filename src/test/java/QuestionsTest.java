import java.util.ArrayList;
import java.util.List;

/** No question leaves anything: behind any other one each is answered as on a new object. */
public final class QuestionsTest {
    private static final String[] QUESTIONS = {
        "count(1)", "fault(1)", "element(0, 0)", "hears(1, 7)", "wish(1, 1)", "rank()", "solved()", "weight(1, 0)",
        "weight(0, 4)", "gain(5, 1)", "power(5, 0)", "total(0)", "total(2)", "louder(3, 4)", "loud(5)",
        "hush(1, 3, 1)", "beam(1, 3)", "share(1, 0)", "room(0)", "room(1)", "likeness(0, 5, 0)", "nearest(0)",
        "nearest(3)", "quiet()", "side()", "bounded(1, 3)", "twins(2)", "sets()", "without(0, 1)", "without(1, 0)",
        "spares()", "frail(1)", "fewest(1)", "leak(0, 4, 0)", "weakest()", "cut(1, 0)", "cutGain(4, 0)",
        "cutPower(4, 0)", "error(4, 0)", "farthest()", "within(4)", "coarsest(1, 99)", "coarsest(0, 1)", "step(0)",
        "step(1)", "exactly()", "polish(20, 0)", "polish(20, 1)", "looks()", "easiest()", "deafer()",
        "sealed(1, 4, 1)", "placed(3, 1)", "better(1)", "both(5, 3, 4, 2, 0)", "octet(0)"};
    private static final Run[] RUNS = {
        Run.of("array steps 7;element 0;element 1;element 3;element 7;element 8;look 2;deaf 3;deaf 7;deaf 10;"),
        Run.of("array steps 3;element 0;broken 2;element 1;element 4;look 1;deaf 0;").then("tell(0)"),
        Run.of("array steps 4;element 0;element 3;look 1;"),
        Run.of("array steps 3;element 5;broken 7;look 1;deaf 2;"),
        Run.none()};

    public static void main(String[] args) {
        int wrong = 0;
        for (Run run : RUNS) {
            List<Long> due = new ArrayList<>();
            for (String question : QUESTIONS) {
                due.add(run.start().answer(question));
            }
            for (String ahead : QUESTIONS) {
                for (int i = 0; i < QUESTIONS.length; i++) {
                    Calls on = run.start();
                    on.answer(ahead);
                    long got = on.answer(QUESTIONS[i]);
                    if (got != due.get(i)) {
                        wrong++;
                        System.out.println("behind " + run + " " + ahead + " " + QUESTIONS[i] + " answered " + got
                            + ", due is " + due.get(i));
                    }
                }
            }
        }
        System.out.println(wrong == 0 ? "no question leaves anything" : wrong + " answers are not as due");
        if (wrong != 0) {
            System.exit(1);
        }
    }
}
