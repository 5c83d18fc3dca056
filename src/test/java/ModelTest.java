/** Runs of calls that are drawn by a fixed row of numbers: the program answers what the model does. */
public final class ModelTest {
    private static final String[] NAMES = {"a", "b", "c", "d", "a.o", "b.o", "a.c", "b.c", "a.h", "b.y", "a.c.o", "x",
        "y", "_9", "longname", ".c", ".o", ".c.o", "a.y", "q.h.y"};
    private static final String[] BAD_NAMES = {"toolongna", "A", "a-b", "a\t", "", ".PHONY", "a/b", ">", ".SUFFIXES"};
    private static final String[] SUFFIXES = {".c", ".o", ".y", ".h", ".c.o", ".h.y", ".a", ".b", "..", "._"};
    private static final String[] BAD_SUFFIXES = {".", "c", "a.c", ".C", ".toolongs"};
    private static final String[] REFERENCES = {"$@", "$<", "$?", "$*", "$$", "$A", "$B", "$(C)", "$(D)", "$E",
        "$(A:.c=.o)", "$(B:=.k)", "$(C:a=)", "$(D:b=c d)", "$(A:.o=.c)", "$(E:x=y=z)"};
    private static final String[] BAD_REFERENCES = {"$", "$(", "$(A", "$(1)", "$(A:b)", "$a", "$(A=b)", "$(:a=b)",
        "$()", "$(AB)", "$(@)"};

    // The call that takes the draft, one in between, scrapping, and room for one question more.
    private static final int OTHER_CALLS_OF_A_STEP = 4;

    private final Subject subject = new Subject();
    private final Model model = new Model();
    private long seed;

    // In every second run hardly anything is wrong, and files are there, so that builds get far.
    private final boolean tame;

    private ModelTest(long seed) {
        this.seed = seed * 2862933555777941757L + 3037000493L;
        tame = seed % 2 == 0;
    }

    public static void main(String[] args) {
        int runs = args.length > 0 ? Integer.parseInt(args[0]) : 20000;
        for (int run = 1; run <= runs; run++) {
            new ModelTest(run).compare(run);
        }
        Probe.finish();
    }

    private int draw(int bound) {
        seed = seed * 6364136223846793005L + 1442695040888963407L;
        return (int) ((seed >>> 33) % bound);
    }

    private boolean chance(int inHundred) {
        return draw(100) < inHundred;
    }

    /** Whether something wrong is drawn, seldom enough that a tame run may be free of it. */
    private boolean fault(int inHundred) {
        return draw(tame ? 2000 : 100) < inHundred;
    }

    private String pick(String[] from) {
        return from[draw(from.length)];
    }

    private void compare(int run) {
        StringBuilder told = new StringBuilder("run ").append(run).append('\n');
        int steps = 4 + draw(10);
        for (int step = 0; step < steps; step++) {
            int kind = step == 0 ? 0 : tame && step < 4 ? 3 : draw(12);
            int number = chance(40) ? 0 : chance(90) ? draw(64) : draw(80) - 10;
            String text = textFor(kind);
            // The draft refuses the last of these, if there are so many.
            text = text.substring(0, Math.min(text.length(), 321));
            if (subject.room() < text.length() + OTHER_CALLS_OF_A_STEP) {
                break;
            }
            told.append(kind).append(' ').append(number).append(" <").append(text).append(">\n");
            type(text);
            String got = callOfProgram(kind, number) + "\n" + Model.state(subject);
            String want = callOfModel(kind, number) + "\n" + model.state();
            if (!got.equals(want)) {
                Probe.due(told.toString(), got, want);
                return;
            }
            askInBetween();
            if (chance(95)) {
                subject.scrap();
                model.scrap();
            }
        }
        Probe.due("the whole run", true, true);
    }

    private void type(String text) {
        for (char c : text.toCharArray()) {
            Probe.due("type", subject.type(c), model.type(c));
        }
    }

    private String callOfProgram(int kind, int number) {
        switch (kind) {
            case 0, 1: return "load " + subject.load();
            case 2: return "set " + subject.set();
            case 3, 4: return "edit " + subject.edit(number);
            case 5: return "erase " + subject.erase();
            default: return "build " + subject.build(number);
        }
    }

    private String callOfModel(int kind, int number) {
        switch (kind) {
            case 0, 1: return "load " + model.load();
            case 2: return "set " + model.set();
            case 3, 4: return "edit " + model.edit(number);
            case 5: return "erase " + model.erase();
            default: return "build " + model.build(number);
        }
    }

    /** Asks the object itself, which must not change it for the calls that follow. */
    private void askInBetween() {
        int k = draw(34) - 1;
        switch (draw(9)) {
            case 0: subject.make(RuleBuilder::names); break;
            case 1: subject.make(b -> b.nameAt(k, 0)); break;
            case 2: subject.make(b -> b.time(k)); break;
            case 3: subject.make(b -> b.content(k)); break;
            case 4: subject.make(b -> b.fate(k)); break;
            case 5: subject.make(RuleBuilder::done); break;
            case 6: subject.make(RuleBuilder::printed); break;
            case 7: subject.make(b -> b.printedAt(k)); break;
            default: break;
        }
    }

    private String textFor(int kind) {
        if (kind <= 1) {
            return ruleText();
        }
        if (kind == 2) {
            return chance(90) ? letter() + "=" + value(2) : pick(BAD_REFERENCES);
        }
        if (kind <= 5) {
            return name();
        }
        return chance(75) ? "" : name();
    }

    private String letter() {
        return String.valueOf((char) ('A' + draw(6)));
    }

    private String name() {
        return !fault(2) ? pick(NAMES) : chance(50) ? pick(BAD_NAMES) : "n" + draw(60);
    }

    private String names(int most) {
        StringBuilder all = new StringBuilder();
        int count = draw(most + 1);
        for (int i = 0; i < count; i++) {
            all.append(i == 0 ? "" : chance(90) ? " " : "  ");
            all.append(chance(12) ? pick(REFERENCES).replaceAll("\\$[@<?*$]", "\\$A") : name());
        }
        return all.toString();
    }

    private String value(int most) {
        StringBuilder all = new StringBuilder();
        int count = draw(most + 1);
        for (int i = 0; i < count; i++) {
            all.append(i == 0 ? "" : chance(80) ? " " : chance(50) ? "" : "   ");
            all.append(chance(30) ? pick(REFERENCES) : fault(2) ? pick(BAD_REFERENCES) : name());
        }
        return all.toString();
    }

    private String command() {
        String marks = chance(60) ? "" : pick(new String[] {"-", "@", "+", "-@", "@+", "+-", "@-+", "--"});
        String rest;
        switch (draw(13)) {
            case 0, 1: rest = "echo " + value(4); break;
            case 2, 3, 4: rest = "touch " + (chance(70) ? "$@" : names(3)); break;
            case 5: rest = "rm " + names(2); break;
            case 6, 7: rest = chance(60) ? "cp $< $@" : "cp " + names(3); break;
            case 8, 9:
                rest = "cat " + (chance(50) ? "$?" : names(3)) + (!fault(5) ? " > " : " ");
                rest += chance(80) ? "$@" : name();
                break;
            case 10: rest = (chance(50) ? "false " : "true ") + name(); break;
            case 11: rest = "true " + value(3); break;
            default: rest = chance(30) ? "" : chance(50) ? "frob" : value(3); break;
        }
        return "\t" + marks + rest;
    }

    private String suffixes() {
        StringBuilder all = new StringBuilder(".SUFFIXES:");
        int count = draw(5);
        for (int i = 0; i < count; i++) {
            all.append(' ').append(!fault(2) ? pick(SUFFIXES) : pick(BAD_SUFFIXES));
        }
        return all.toString();
    }

    private String line() {
        switch (draw(15)) {
            case 0: return suffixes();
            case 1: return pick(new String[] {".PHONY", ".IGNORE", ".SILENT"}) + ": " + names(2);
            case 2: return chance(85) ? ".DEFAULT:" + (!fault(3) ? "" : " a") : "";
            case 3, 4: return pick(SUFFIXES) + (chance(70) ? pick(SUFFIXES) : "") + ":" + (chance(90) ? "" : " a");
            case 5, 6: return letter() + "=" + value(3);
            case 7: return chance(80) ? "  # " + name() : " ";
            default: return (!fault(3) ? name() : "") + (chance(20) ? " " + names(2) : "") + (!fault(2) ? ": " : " ")
                    + names(tame ? 2 : 4) + (chance(5) ? " # x" : "");
        }
    }

    private String ruleText() {
        StringBuilder all = new StringBuilder(chance(60) ? ".SUFFIXES: .c .o" + (chance(50) ? " .y\n" : "\n") : "");
        int lines = 1 + draw(12);
        for (int i = 0; i < lines; i++) {
            String line = line();
            all.append(line).append('\n');
            boolean takes = line.contains(":") && !line.matches("\\.(SUFFIXES|PHONY|IGNORE|SILENT).*|.=.*");
            int commands = takes && chance(60) ? 1 + draw(3) : fault(2) ? 1 : 0;
            for (int j = 0; j < commands; j++) {
                all.append(command()).append(!fault(3) ? "\n" : "\\\n");
            }
        }
        if (fault(10)) {
            all.insert(draw(all.length()), pick(new String[] {"\\\n", ":", "$", "#", "\t", " ", "\n", "\\"}));
        }
        return all.toString();
    }
}
