/** A builder under test, with calls that take whole texts, and the count of the answers that were not due. */
final class Probe {
    private static int wrong = 0;
    private static int asked = 0;
    private static String about = "";

    final Subject builder = new Subject();

    /** What is told before each answer that is not due, from now on. */
    static void about(String words) {
        about = words;
    }

    static void due(String what, Object got, Object want) {
        asked++;
        if (!got.equals(want)) {
            wrong++;
            System.out.println(about + what + " answered <" + got + ">, due is <" + want + ">");
        }
    }

    /** Ends the test, with exit code 1 if an answer was not the one that was due. */
    static void finish() {
        System.out.println(wrong == 0 ? asked + " answers are as due" : wrong + " answers are not as due");
        if (wrong != 0) {
            System.exit(1);
        }
    }

    Probe type(String text) {
        for (char c : text.toCharArray()) {
            due("type " + (int) c + " of " + text, builder.type(c), true);
        }
        return this;
    }

    Probe load(String text) {
        return load(text, 0);
    }

    Probe load(String text, int want) {
        type(text);
        due("load of " + text, builder.load(), want);
        return this;
    }

    Probe set(String text) {
        type(text);
        due("set of " + text, builder.set(), true);
        return this;
    }

    Probe edit(String name, int content) {
        type(name);
        due("edit of " + name, builder.edit(content) >= 0, true);
        return this;
    }

    Probe erase(String name) {
        type(name);
        due("erase of " + name, builder.erase(), true);
        return this;
    }

    /** Builds the first target. */
    Probe build(int options, int want) {
        due("build(" + options + ")", builder.build(options), want);
        return this;
    }

    Probe build(String goal, int options, int want) {
        type(goal);
        due("build(" + options + ") of " + goal, builder.build(options), want);
        return this;
    }

    Probe prints(String want) {
        due("the print", print(), want);
        return this;
    }

    Probe names(String want) {
        StringBuilder all = new StringBuilder();
        for (int k = 0; k < builder.names(); k++) {
            all.append(k == 0 ? "" : " ").append(name(k));
        }
        due("the names", all.toString(), want);
        return this;
    }

    Probe fates(String names, String want) {
        StringBuilder all = new StringBuilder();
        for (String name : names.split(" ")) {
            all.append(builder.fate(number(name)));
        }
        due("the fates of " + names, all.toString(), want);
        return this;
    }

    Probe times(String names, String want) {
        StringBuilder all = new StringBuilder();
        for (String name : names.split(" ")) {
            all.append(all.length() == 0 ? "" : " ").append(builder.time(number(name)));
        }
        due("the times of " + names, all.toString(), want);
        return this;
    }

    Probe content(String name, int want) {
        due("the content of " + name, builder.content(number(name)), want);
        return this;
    }

    Probe done(int want) {
        due("done", builder.done(), want);
        return this;
    }

    String print() {
        StringBuilder all = new StringBuilder();
        for (int i = 0; i < builder.printed(); i++) {
            all.append((char) builder.printedAt(i));
        }
        return all.toString();
    }

    String name(int k) {
        StringBuilder all = new StringBuilder();
        for (int i = 0; builder.nameAt(k, i) != RuleBuilder.NONE; i++) {
            all.append((char) builder.nameAt(k, i));
        }
        return all.toString();
    }

    /** The number of a name, or one that there is not. */
    int number(String name) {
        for (int k = 0; k < builder.names(); k++) {
            if (name(k).equals(name)) {
                return k;
            }
        }
        return 99;
    }
}
