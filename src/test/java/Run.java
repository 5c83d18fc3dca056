import java.util.ArrayList;
import java.util.List;
import java.util.function.ToIntFunction;

/** A run of calls on a new object that can be made again, and what is due behind it. */
final class Run {
    private static final int YES = Subject.YES;
    private static final int NO = Subject.NO;

    private final Subject subject;

    Run() {
        this(new Subject());
    }

    private Run(Subject subject) {
        this.subject = subject;
    }

    private int make(ToIntFunction<RuleBuilder> call) {
        return subject.make(call);
    }

    private int look(ToIntFunction<RuleBuilder> question) {
        return subject.ask(question);
    }

    /** A run that has made the same calls. */
    private Run again() {
        return new Run(subject.again());
    }

    private static ToIntFunction<RuleBuilder> typing(char c) {
        return b -> b.type(c) ? YES : NO;
    }

    private static ToIntFunction<RuleBuilder> scrapping() {
        return b -> {
            b.scrap();
            return 0;
        };
    }

    private Run writes(String text) {
        for (char c : text.toCharArray()) {
            make(typing(c));
        }
        return this;
    }

    // Calls that do what they are for.

    Run type(String text) {
        for (char c : text.toCharArray()) {
            Probe.due("type " + (int) c + " of <" + text + ">", make(typing(c)), YES);
        }
        return this;
    }

    Run scrap() {
        make(scrapping());
        return this;
    }

    Run set(String draft) {
        type(draft);
        Probe.due("set of <" + draft + ">", make(b -> b.set() ? YES : NO), YES);
        return this;
    }

    Run load(String text) {
        return load(text, 0);
    }

    Run load(String text, int want) {
        type(text);
        Probe.due("load of <" + text + ">", make(RuleBuilder::load), want);
        return this;
    }

    Run edit(String name, int content) {
        return edit(name, content, name);
    }

    /** Types on, and edits the name that the draft is then. */
    Run edit(String text, int content, String name) {
        type(text);
        int due = number(name) == Integer.MAX_VALUE ? count() : number(name);
        Probe.due("edit(" + content + ") of <" + name + ">", make(b -> b.edit(content)), due);
        return this;
    }

    Run erase(String name) {
        type(name);
        Probe.due("erase of <" + name + ">", make(b -> b.erase() ? YES : NO), YES);
        return this;
    }

    /** A build of a goal, or, if that is the empty text, of the first target. */
    Run build(String goal, int options, int want) {
        type(goal);
        Probe.due("build(" + options + ") of <" + goal + ">", make(b -> b.build(options)), want);
        return this;
    }

    /** A call that answers this, and changes nothing that any other call could show. */
    Run leavesAll(String what, ToIntFunction<RuleBuilder> call, int want) {
        List<String> before = allSides();
        Probe.due(what, make(call), want);
        List<String> after = allSides();
        for (int i = 0; i < before.size(); i++) {
            Probe.due("behind " + what + ", side " + i, after.get(i), before.get(i));
        }
        return this;
    }

    // Calls that are refused.

    Run typeRefused(int code) {
        return leavesAll("type " + code, typing((char) code), NO);
    }

    Run setRefused() {
        return leavesAll("set", b -> b.set() ? YES : NO, NO);
    }

    Run editRefused(int content) {
        return leavesAll("edit(" + content + ")", b -> b.edit(content), RuleBuilder.NONE);
    }

    Run eraseRefused() {
        return leavesAll("erase", b -> b.erase() ? YES : NO, NO);
    }

    Run buildRefused(int options) {
        return leavesAll("build(" + options + ")", b -> b.build(options), RuleBuilder.NONE);
    }

    Run nameAtRefused(int k, int i) {
        return leavesAll("nameAt(" + k + ", " + i + ")", b -> b.nameAt(k, i), RuleBuilder.NONE);
    }

    Run timeRefused(int k) {
        return leavesAll("time(" + k + ")", b -> b.time(k), RuleBuilder.NONE);
    }

    Run fateRefused(int k) {
        return leavesAll("fate(" + k + ")", b -> b.fate(k), RuleBuilder.NONE);
    }

    Run printedAtRefused(int i) {
        return leavesAll("printedAt(" + i + ")", b -> b.printedAt(i), RuleBuilder.NONE);
    }

    /** The draft is no name: whatever takes one refuses it. */
    Run noName(String draft) {
        return type(draft).editRefused(5).eraseRefused().buildRefused(0).scrap();
    }

    /** The draft is empty: all calls that need one refuse, and a whole draft can be typed. */
    Run draftIsEmpty() {
        setRefused().editRefused(5).eraseRefused();
        Run other = again();
        // Where a whole draft has no room in the calls of an object, the refusals above must do.
        if (subject.room() >= 321) {
            for (int i = 0; i < 320; i++) {
                Probe.due("type " + i + " of an empty draft", other.make(typing('x')), YES);
            }
            Probe.due("type 320 of an empty draft", other.make(typing('x')), NO);
        }
        return this;
    }

    /** What can be seen of the run from outside, by all calls that may show something. */
    private List<String> allSides() {
        List<String> sides = new ArrayList<>();
        sides.add(view());
        addSide(sides, "", RuleBuilder::load);
        addSide(sides, "x", RuleBuilder::load);
        addSide(sides, "", b -> b.edit(77));
        addSide(sides, "x", b -> b.edit(77));
        addSide(sides, "", b -> b.erase() ? YES : NO);
        addSide(sides, "", b -> b.set() ? YES : NO);
        addSide(sides, "x", b -> b.set() ? YES : NO);
        addSide(sides, "", b -> b.build(0));
        addSide(sides, "x", b -> b.build(0));
        Run empty = again().scrap();
        empty.addSide(sides, "", b -> b.build(0));
        String known = count() == 32 ? name(0) : "q";
        empty.addSide(sides, known, b -> b.edit(78));
        for (int k = 0; k < count(); k++) {
            empty.addSide(sides, name(k), b -> b.build(2));
        }
        for (char first = 'A'; first <= 'Z'; first += 13) {
            StringBuilder text = new StringBuilder(known).append(':');
            for (char c = first; c < first + 13; c++) {
                text.append("\n\t$").append(c);
            }
            Run macros = empty.again().writes(text.toString());
            macros.make(RuleBuilder::load);
            macros.addSide(sides, known, b -> b.build(18));
        }
        return sides;
    }

    /** Types on, makes a call on a copy, and adds what can be seen then. */
    private void addSide(List<String> sides, String text, ToIntFunction<RuleBuilder> call) {
        Run side = again().writes(text);
        int answer = side.make(call);
        sides.add(text + " answers " + answer + "\n" + side.view());
    }

    private String view() {
        StringBuilder all = new StringBuilder();
        for (int k = 0; k < count(); k++) {
            int number = k;
            all.append(name(k)).append(' ').append(look(b -> b.time(number)));
            all.append(' ').append(look(b -> b.content(number)));
            all.append(' ').append(look(b -> b.fate(number))).append('\n');
        }
        return all.append("done ").append(look(RuleBuilder::done)).append('\n').append(print()).toString();
    }

    // What the run left.

    int count() {
        return look(RuleBuilder::names);
    }

    private String name(int k) {
        StringBuilder all = new StringBuilder();
        for (int i = 0; i <= 8; i++) {
            int place = i;
            int code = look(b -> b.nameAt(k, place));
            if (code != RuleBuilder.NONE) {
                all.append((char) code);
            }
        }
        return all.toString();
    }

    private String print() {
        StringBuilder all = new StringBuilder();
        int length = look(RuleBuilder::printed);
        for (int i = 0; i < length; i++) {
            int place = i;
            all.append((char) look(b -> b.printedAt(place)));
        }
        return all.toString();
    }

    /** The number of a name, or one that there is not. */
    private int number(String name) {
        for (int k = 0; k < count(); k++) {
            if (name(k).equals(name)) {
                return k;
            }
        }
        return Integer.MAX_VALUE;
    }

    Run asks(String what, ToIntFunction<RuleBuilder> question, int want) {
        Probe.due(what, look(question), want);
        return this;
    }

    Run names(String want) {
        StringBuilder all = new StringBuilder();
        for (int k = 0; k < count(); k++) {
            all.append(k == 0 ? "" : " ").append(name(k));
        }
        Probe.due("the names", all.toString(), want);
        return this;
    }

    private Run each(String what, String names, ToIntFunction<Integer> question, String want) {
        StringBuilder all = new StringBuilder();
        for (String name : names.split(" ")) {
            all.append(all.length() == 0 ? "" : " ").append(question.applyAsInt(number(name)));
        }
        Probe.due(what + " of " + names, all.toString(), want);
        return this;
    }

    Run fates(String names, String want) {
        return each("the fates", names, k -> look(b -> b.fate(k)), want);
    }

    Run times(String names, String want) {
        return each("the times", names, k -> look(b -> b.time(k)), want);
    }

    Run contents(String names, String want) {
        return each("the contents", names, k -> look(b -> b.content(k)), want);
    }

    Run done(int want) {
        return asks("done", RuleBuilder::done, want);
    }

    Run prints(String want) {
        asks("printed", RuleBuilder::printed, want.length());
        Probe.due("the print", print(), want);
        return this;
    }
}
