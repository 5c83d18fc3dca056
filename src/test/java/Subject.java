import java.util.ArrayList;
import java.util.List;
import java.util.function.ToIntFunction;

/**
 * An object under test, with the face of the program. It keeps to the calls that the document allows an object: those
 * that may change something are written down, and questions are asked of copies that have made the same calls, so that
 * a test may ask as often as it likes, and asking changes nothing.
 */
final class Subject {
    static final int MOST_CALLS = 512;
    static final int YES = 1;
    static final int NO = 0;

    private final List<ToIntFunction<RuleBuilder>> calls = new ArrayList<>();
    private final RuleBuilder builder = new RuleBuilder();

    // The copy that is asked, and how many calls it has had; none behind a new call.
    private RuleBuilder copy;
    private int callsOfCopy;

    /** How many calls more the document allows. */
    int room() {
        return MOST_CALLS - calls.size();
    }

    int make(ToIntFunction<RuleBuilder> call) {
        needRoom();
        calls.add(call);
        copy = null;
        return call.applyAsInt(builder);
    }

    int ask(ToIntFunction<RuleBuilder> question) {
        needRoom();
        if (copy == null || callsOfCopy == MOST_CALLS) {
            copy = new RuleBuilder();
            for (ToIntFunction<RuleBuilder> earlier : calls) {
                earlier.applyAsInt(copy);
            }
            callsOfCopy = calls.size();
        }
        callsOfCopy++;
        return question.applyAsInt(copy);
    }

    private void needRoom() {
        if (room() == 0) {
            throw new IllegalStateException("this test makes more than " + MOST_CALLS + " calls on one object");
        }
    }

    /** Another one that has made the same calls. */
    Subject again() {
        Subject other = new Subject();
        for (ToIntFunction<RuleBuilder> call : calls) {
            other.make(call);
        }
        return other;
    }

    boolean type(char c) {
        return make(b -> b.type(c) ? YES : NO) == YES;
    }

    void scrap() {
        make(b -> {
            b.scrap();
            return 0;
        });
    }

    boolean set() {
        return make(b -> b.set() ? YES : NO) == YES;
    }

    int load() {
        return make(RuleBuilder::load);
    }

    int edit(int content) {
        return make(b -> b.edit(content));
    }

    boolean erase() {
        return make(b -> b.erase() ? YES : NO) == YES;
    }

    int build(int options) {
        return make(b -> b.build(options));
    }

    int names() {
        return ask(RuleBuilder::names);
    }

    int nameAt(int k, int i) {
        return ask(b -> b.nameAt(k, i));
    }

    int time(int k) {
        return ask(b -> b.time(k));
    }

    int content(int k) {
        return ask(b -> b.content(k));
    }

    int fate(int k) {
        return ask(b -> b.fate(k));
    }

    int done() {
        return ask(RuleBuilder::done);
    }

    int printed() {
        return ask(RuleBuilder::printed);
    }

    int printedAt(int i) {
        return ask(b -> b.printedAt(i));
    }
}
