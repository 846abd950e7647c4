import java.util.ArrayList;
import java.util.List;
import java.util.function.Function;

/** Calls that Setup.full() refuses: at least one for each reason of each call, and those with several reasons. */
final class Refusals {
    record Refusal(String call, Function<AlumWorks, Object> run, String thrown) {
        Object run(AlumWorks works) {
            return run.apply(works);
        }
    }

    private final List<Refusal> list = new ArrayList<>();

    private Refusals() {
    }

    /** One reason each. */
    static List<Refusal> all() {
        Refusals one = new Refusals();
        one.ofIndex();
        one.ofArgument();
        one.ofState();
        return one.list;
    }

    /** Several reasons each: what is thrown is for the one that is named first. */
    static List<Refusal> several() {
        Refusals several = new Refusals();
        several.ofTables();
        several.ofThings();
        several.ofLiquors();
        return several.list;
    }

    private void index(String call, Function<AlumWorks, Object> run) {
        list.add(new Refusal(call, run, Model.INDEX));
    }

    private void argument(String call, Function<AlumWorks, Object> run) {
        list.add(new Refusal(call, run, Model.ARGUMENT));
    }

    private void state(String call, Function<AlumWorks, Object> run) {
        list.add(new Refusal(call, run, Model.STATE));
    }

    private void ofIndex() {
        index("bring(2, 1)", works -> works.bring(2, 1));
        index("setRain(6, 1)", works -> works.setRain(6, 1));
        index("setShip(7, 1)", works -> works.setShip(7, 1));
        index("light(4, 1)", works -> works.light(4, 1));
        index("steep(4, 0)", works -> works.steep(4, 0));
        index("steep(2, 4)", works -> works.steep(2, 4));
        index("draw(4, 0, 1)", works -> works.draw(4, 0, 1));
        index("draw(0, 3, 1)", works -> works.draw(0, 3, 1));
        index("boil(3)", works -> works.boil(3));
        index("pour(3, 1)", works -> works.pour(3, 1));
        index("clamp(4, 0)", works -> works.clamp(4, 0));
        index("clamp(0, 4)", works -> works.clamp(0, 4));
        index("pit(4, 0)", works -> works.pit(4, 0));
        index("pit(0, 4)", works -> works.pit(0, 4));
        index("about(3, 0)", works -> works.about(3, 0));
        index("about(0, 5)", works -> works.about(0, 5));
        index("count(10)", works -> works.count(10));
        index("right(3)", works -> works.right(3));
        index("foresee(1, 3)", works -> works.foresee(1, 3));
        index("barrels(3)", works -> works.barrels(3));
        index("dry(4)", works -> works.dry(4));
    }

    private void ofArgument() {
        argument("bring(0, 501)", works -> works.bring(0, 501));
        argument("bring(1, 0)", works -> works.bring(1, 0));
        argument("setRain(0, 10)", works -> works.setRain(0, 10));
        argument("setShip(0, 61)", works -> works.setShip(0, 61));
        argument("light(1, 0)", works -> works.light(1, 0));
        argument("draw(0, 0, 0)", works -> works.draw(0, 0, 0));
        argument("pour(0, 0)", works -> works.pour(0, 0));
        argument("pour(1, 21), into what boils", works -> works.pour(1, 21));
        argument("pass(0)", works -> works.pass(0));
        argument("pass(61)", works -> works.pass(61));
        argument("foresee(61, 2)", works -> works.foresee(61, 2));
    }

    private void ofState() {
        state("pile(1), a fifth", works -> works.pile(1));
        state("light(1, 60), more than there is", works -> works.light(1, 60));
        state("light(2, 1), without shale", works -> works.light(2, 1));
        state("dig(1), a fifth", works -> works.dig(1));
        state("steep(0, 0), nothing burnt", works -> works.steep(0, 0));
        state("steep(1, 0), while it burns", works -> works.steep(1, 0));
        state("steep(2, 3), without water", works -> works.steep(2, 3));
        state("pan(), a fourth", AlumWorks::pan);
        state("draw(1, 0, 40), more than there is", works -> works.draw(1, 0, 40));
        state("draw(3, 0, 1), of nothing", works -> works.draw(3, 0, 1));
        state("draw(0, 2, 1), into what is full", works -> works.draw(0, 2, 1));
        state("pour(0, 20), more than there are", works -> works.pour(0, 20));
        state("draw(2, 1, 143), into what boils, too much", works -> works.draw(2, 1, 143));
        state("pour(1, 14), into what boils, more than there are", works -> works.pour(1, 14));
        state("pour(2, 1), without alum", works -> works.pour(2, 1));
    }

    private void ofTables() {
        index("bring(2, 0)", works -> works.bring(2, 0));
        index("bring(-1, 501)", works -> works.bring(-1, 501));
        index("setRain(6, 10)", works -> works.setRain(6, 10));
        index("setRain(-1, -1)", works -> works.setRain(-1, -1));
        index("setShip(7, 61)", works -> works.setShip(7, 61));
        index("setShip(-1, -1)", works -> works.setShip(-1, -1));
        argument("foresee(0, 3)", works -> works.foresee(0, 3));
        argument("foresee(61, 8)", works -> works.foresee(61, 8));
    }

    private void ofThings() {
        argument("pile(0), a fifth", works -> works.pile(0));
        argument("pile(201), a fifth", works -> works.pile(201));
        argument("dig(-1), a fifth", works -> works.dig(-1));
        argument("dig(401), a fifth", works -> works.dig(401));
        index("light(4, 0)", works -> works.light(4, 0));
        index("light(-1, 61), more than there is", works -> works.light(-1, 61));
        index("light(4, 60), more than there is", works -> works.light(4, 60));
        argument("light(1, 61), more than there is", works -> works.light(1, 61));
        argument("light(0, 0), without shale", works -> works.light(0, 0));
        argument("light(0, 61), without shale, more than there is", works -> works.light(0, 61));
        index("steep(0, 4), nothing burnt", works -> works.steep(0, 4));
        index("steep(1, -1), while it burns", works -> works.steep(1, -1));
        index("steep(4, 3), without water", works -> works.steep(4, 3));
    }

    private void ofLiquors() {
        index("draw(4, 0, 0)", works -> works.draw(4, 0, 0));
        index("draw(0, 3, 151)", works -> works.draw(0, 3, 151));
        index("draw(4, 2, 1), into what is full", works -> works.draw(4, 2, 1));
        index("draw(3, -1, 1), of nothing", works -> works.draw(3, -1, 1));
        argument("draw(3, 0, 151), of nothing", works -> works.draw(3, 0, 151));
        argument("draw(2, 2, 151), into what is full", works -> works.draw(2, 2, 151));
        index("pour(3, 0)", works -> works.pour(3, 0));
        index("pour(-1, 21), more than there are", works -> works.pour(-1, 21));
        index("pour(3, 20), more than there are", works -> works.pour(3, 20));
        argument("pour(0, 21), more than there are", works -> works.pour(0, 21));
        argument("pour(2, 0), without alum", works -> works.pour(2, 0));
        argument("pour(2, 21), without alum, more than there are", works -> works.pour(2, 21));
    }
}
