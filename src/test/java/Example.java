/** The example of README.md, which shows this file and what it prints. */
public final class Example {
    public static void main(String[] args) {
        RuleBuilder builder = new RuleBuilder();
        type(builder, "a.c");
        builder.edit(5);
        type(builder, ".SUFFIXES: .c .o\n.c.o:\n\tcp $< $@\nprog: a.o\n\tcat a.o > $@\n");
        System.out.println("load answers " + builder.load());

        System.out.println("build answers " + builder.build(0));
        System.out.print(print(builder));
        for (int k = 0; k < builder.names(); k++) {
            System.out.println(name(builder, k) + " has the time " + builder.time(k) + ", the content "
                    + builder.content(k) + " and the fate " + builder.fate(k));
        }

        System.out.println("a second build answers " + builder.build(0) + ", with " + builder.done() + " commands");
        type(builder, "a.c");
        builder.edit(6);
        System.out.println("only asked, it answers " + builder.build(8));
    }

    private static void type(RuleBuilder builder, String text) {
        for (char c : text.toCharArray()) {
            builder.type(c);
        }
    }

    private static String print(RuleBuilder builder) {
        StringBuilder all = new StringBuilder();
        for (int i = 0; i < builder.printed(); i++) {
            all.append((char) builder.printedAt(i));
        }
        return all.toString();
    }

    private static String name(RuleBuilder builder, int k) {
        StringBuilder all = new StringBuilder();
        for (int i = 0; builder.nameAt(k, i) != RuleBuilder.NONE; i++) {
            all.append((char) builder.nameAt(k, i));
        }
        return all.toString();
    }
}
