import java.util.ArrayList;
import java.util.HashMap;
import java.util.HashSet;
import java.util.List;
import java.util.Map;
import java.util.Set;

/**
 * The document told a second time, with the Java library and without care for room or speed, so that its answers
 * can be set beside those of the program.
 */
final class Model {
    /** Thrown where the document says that a line or an expansion is wrong, or a command fails. */
    private static final class Wrong extends RuntimeException {
        private static final long serialVersionUID = 1;
    }

    private static final class Block {
        final List<String> commands = new ArrayList<>();
    }

    private static final class Recipe {
        List<String> commands = new ArrayList<>();
        String source;
        String stem = "";
        String first = "";
    }

    private String draft = "";
    private final List<String> names = new ArrayList<>();
    private final Map<String, Integer> times = new HashMap<>();
    private final Map<String, Integer> contents = new HashMap<>();
    private final Map<Character, String> given = new HashMap<>();
    private int clock = 0;

    private Map<Character, String> defined;
    private List<String> suffixes;
    private Map<String, Block> endings;
    private Map<String, List<String>> prerequisites;
    private Map<String, Block> own;
    private Block byDefault;
    private Set<String> phony;
    private Set<String> ignored;
    private Set<String> silent;
    private boolean allIgnored;
    private boolean allSilent;
    private String firstTarget;
    private int commandLines;

    private Map<String, Integer> fates = new HashMap<>();
    private Set<String> underWay;
    private int done = 0;
    private String print = "";
    private int options;
    private boolean outOfDate;

    Model() {
        forget();
    }

    private void forget() {
        defined = new HashMap<>();
        suffixes = new ArrayList<>();
        endings = new HashMap<>();
        prerequisites = new HashMap<>();
        own = new HashMap<>();
        byDefault = null;
        phony = new HashSet<>();
        ignored = new HashSet<>();
        silent = new HashSet<>();
        allIgnored = false;
        allSilent = false;
        firstTarget = null;
        commandLines = 0;
        fates = new HashMap<>();
    }

    boolean type(char c) {
        if (draft.length() >= 320 || !(String.valueOf(c).matches("[ -~]") || c == '\t' || c == '\n')) {
            return false;
        }
        draft += c;
        return true;
    }

    void scrap() {
        draft = "";
    }

    boolean set() {
        if (!draft.matches("[A-Z]=[^\n]{0,16}")) {
            return false;
        }
        given.put(draft.charAt(0), draft.substring(2));
        draft = "";
        return true;
    }

    private static List<String> words(String text) {
        List<String> all = new ArrayList<>();
        for (String word : text.split(" ")) {
            if (!word.isEmpty()) {
                all.add(word);
            }
        }
        return all;
    }

    private static String strip(String text) {
        return text.replaceAll("^ +", "").replaceAll(" +$", "");
    }

    private void meet(String word) {
        if (!word.matches("[a-z0-9._]{1,8}")) {
            throw new Wrong();
        }
        if (!names.contains(word)) {
            if (names.size() == 32) {
                throw new Wrong();
            }
            names.add(word);
        }
    }

    // ---- the rule text

    private String latestKind;
    private List<String> latestTargets;
    private Block latestBlock;

    int load() {
        forget();
        latestKind = "none";
        String[] raw = (draft + "\n").split("\n", -1);
        draft = "";
        int i = 0;
        while (i < raw.length) {
            int number = i + 1;
            String line = raw[i];
            while (line.endsWith("\\") && i + 1 < raw.length - 1) {
                i++;
                line = line.substring(0, line.length() - 1) + " " + raw[i];
            }
            i++;
            try {
                readLine(line);
            } catch (Wrong e) {
                forget();
                return -number;
            }
        }
        return 0;
    }

    private void readLine(String line) {
        if (line.startsWith("\t")) {
            readCommand(line.substring(1));
            return;
        }
        String text = strip(line.replaceAll("(?s)#.*", ""));
        if (text.isEmpty()) {
            return;
        }
        if (text.matches("(?s)[A-Z]=.*")) {
            defined.put(text.charAt(0), strip(text.substring(2)));
            return;
        }
        String expanded = expand(text, null);
        if (expanded.replace(":", "").length() != expanded.length() - 1) {
            throw new Wrong();
        }
        int colon = expanded.indexOf(':');
        List<String> targets = words(expanded.substring(0, colon));
        List<String> needed = words(expanded.substring(colon + 1));
        if (targets.isEmpty()) {
            throw new Wrong();
        }
        readRule(targets, needed);
    }

    private void readCommand(String text) {
        if (latestKind.equals("none") || latestKind.equals("list") || commandLines == 30) {
            throw new Wrong();
        }
        commandLines++;
        if (latestKind.equals("default")) {
            if (byDefault != null && byDefault != latestBlock) {
                throw new Wrong();
            }
            byDefault = latestBlock;
        }
        if (latestKind.equals("names")) {
            for (String target : latestTargets) {
                if (own.containsKey(target) && own.get(target) != latestBlock) {
                    throw new Wrong();
                }
                own.put(target, latestBlock);
            }
        }
        latestBlock.commands.add(text);
    }

    private void readRule(List<String> targets, List<String> needed) {
        latestBlock = new Block();
        latestTargets = targets;
        latestKind = "list";
        String only = targets.size() == 1 ? targets.get(0) : "";
        switch (only) {
            case ".SUFFIXES" -> readSuffixes(needed);
            case ".PHONY" -> {
                needed.forEach(this::meet);
                phony.addAll(needed);
            }
            case ".IGNORE" -> {
                needed.forEach(this::meet);
                ignored.addAll(needed);
                allIgnored |= needed.isEmpty();
            }
            case ".SILENT" -> {
                needed.forEach(this::meet);
                silent.addAll(needed);
                allSilent |= needed.isEmpty();
            }
            case ".DEFAULT" -> {
                latestKind = "default";
                if (!needed.isEmpty()) {
                    throw new Wrong();
                }
            }
            default -> readOther(targets, needed, only);
        }
    }

    private void readSuffixes(List<String> needed) {
        if (needed.isEmpty()) {
            suffixes.clear();
        }
        for (String suffix : needed) {
            if (suffixes.contains(suffix)) {
                continue;
            }
            if (!suffix.matches("\\.[a-z0-9._]{1,7}") || suffixes.size() == 6) {
                throw new Wrong();
            }
            suffixes.add(suffix);
        }
    }

    private String endingKey(String only) {
        if (suffixes.contains(only)) {
            return only + ">";
        }
        for (String r : suffixes) {
            for (String s : suffixes) {
                if ((r + s).equals(only)) {
                    return r + ">" + s;
                }
            }
        }
        return null;
    }

    private void readOther(List<String> targets, List<String> needed, String only) {
        String key = needed.isEmpty() ? endingKey(only) : null;
        if (key != null) {
            latestKind = "ending";
            endings.put(key, latestBlock);
            if (endings.size() > 8) {
                throw new Wrong();
            }
            return;
        }
        latestKind = "names";
        targets.forEach(this::meet);
        needed.forEach(this::meet);
        for (String target : targets) {
            prerequisites.computeIfAbsent(target, t -> new ArrayList<>()).addAll(needed);
        }
        if (firstTarget == null) {
            firstTarget = targets.get(0);
        }
        if (prerequisites.values().stream().mapToInt(List::size).sum() > 80) {
            throw new Wrong();
        }
    }

    // ---- expanding

    private StringBuilder expansion;
    private Map<Character, String> automatic;

    private String expand(String text, Map<Character, String> inCommand) {
        expansion = new StringBuilder();
        automatic = inCommand == null ? Map.of() : inCommand;
        expand(text, 0);
        return expansion.toString();
    }

    private void stand(String text) {
        expansion.append(text);
        if (expansion.length() > 120) {
            throw new Wrong();
        }
    }

    private void expand(String text, int level) {
        String rest = text;
        while (!rest.isEmpty()) {
            if (rest.charAt(0) != '$') {
                stand(rest.substring(0, 1));
                rest = rest.substring(1);
            } else if (rest.startsWith("$$")) {
                stand("$");
                rest = rest.substring(2);
            } else if (rest.length() > 1 && automatic.containsKey(rest.charAt(1))) {
                stand(automatic.get(rest.charAt(1)));
                rest = rest.substring(2);
            } else if (rest.matches("(?s)\\$[A-Z].*")) {
                expandMacro(rest.charAt(1), level);
                rest = rest.substring(2);
            } else if (rest.matches("(?s)\\$\\([A-Z]\\).*")) {
                expandMacro(rest.charAt(2), level);
                rest = rest.substring(4);
            } else if (rest.matches("(?s)\\$\\([A-Z]:[^)=]*=[^)]*\\).*")) {
                String inside = rest.substring(4, rest.indexOf(')'));
                String s = inside.substring(0, inside.indexOf('='));
                String t = inside.substring(inside.indexOf('=') + 1);
                int start = expansion.length();
                expandMacro(rest.charAt(2), level);
                String value = expansion.substring(start);
                expansion.setLength(start);
                stand(otherEnds(value, s, t));
                rest = rest.substring(rest.indexOf(')') + 1);
            } else {
                throw new Wrong();
            }
        }
    }

    private static String otherEnds(String value, String s, String t) {
        List<String> all = new ArrayList<>();
        for (String word : value.split(" ", -1)) {
            boolean changes = !word.isEmpty() && word.endsWith(s);
            all.add(changes ? word.substring(0, word.length() - s.length()) + t : word);
        }
        return String.join(" ", all);
    }

    private void expandMacro(char letter, int level) {
        if (level == 6) {
            throw new Wrong();
        }
        expand(given.getOrDefault(letter, defined.getOrDefault(letter, "")), level + 1);
    }

    // ---- files

    private void write(String name, int content) {
        clock++;
        times.put(name, clock);
        contents.put(name, content);
    }

    private boolean isFile(String name) {
        return times.containsKey(name);
    }

    int edit(int content) {
        try {
            meet(draft);
        } catch (Wrong e) {
            return -1;
        }
        String name = draft;
        write(name, content);
        draft = "";
        return names.indexOf(name);
    }

    boolean erase() {
        if (!isFile(draft)) {
            return false;
        }
        times.remove(draft);
        contents.remove(draft);
        draft = "";
        return true;
    }

    // ---- builds

    int build(int asked) {
        if (asked < 0 || asked > 63) {
            return -1;
        }
        String goal = draft;
        if (goal.isEmpty()) {
            if (firstTarget == null) {
                return -1;
            }
            goal = firstTarget;
        } else {
            try {
                meet(goal);
            } catch (Wrong e) {
                return -1;
            }
        }
        draft = "";
        options = asked;
        fates = new HashMap<>();
        underWay = new HashSet<>();
        done = 0;
        print = "";
        outOfDate = false;
        update(goal);
        if (fates.get(goal) == 3) {
            return 2;
        }
        return has(8) && outOfDate ? 1 : 0;
    }

    private boolean has(int option) {
        return (options & option) == option;
    }

    private void update(String t) {
        if (fates.containsKey(t)) {
            return;
        }
        underWay.add(t);
        int fate = updateNow(t);
        underWay.remove(t);
        fates.put(t, fate);
    }

    private boolean mayBeSource(String name) {
        return names.contains(name) && (prerequisites.containsKey(name) || isFile(name));
    }

    private Recipe recipe(String t) {
        Recipe recipe = new Recipe();
        if (own.containsKey(t)) {
            recipe.commands = own.get(t).commands;
            return recipe;
        }
        for (String s : suffixes) {
            for (String r : suffixes) {
                if (t.endsWith(s) && t.length() > s.length()) {
                    String stem = t.substring(0, t.length() - s.length());
                    if (fill(recipe, r + ">" + s, stem + r, stem)) {
                        return recipe;
                    }
                }
            }
        }
        for (String r : suffixes) {
            if (fill(recipe, r + ">", t + r, t)) {
                return recipe;
            }
        }
        if (!prerequisites.containsKey(t) && !isFile(t)) {
            if (byDefault == null) {
                throw new Wrong();
            }
            recipe.commands = byDefault.commands;
            recipe.first = t;
        }
        return recipe;
    }

    private boolean fill(Recipe recipe, String key, String source, String stem) {
        if (!endings.containsKey(key) || endings.get(key).commands.isEmpty() || !mayBeSource(source)) {
            return false;
        }
        recipe.commands = endings.get(key).commands;
        recipe.source = source;
        recipe.first = source;
        recipe.stem = stem;
        return true;
    }

    private int updateNow(String t) {
        Recipe recipe;
        try {
            recipe = recipe(t);
        } catch (Wrong e) {
            return 3;
        }
        List<String> needed = new ArrayList<>();
        if (recipe.source != null) {
            needed.add(recipe.source);
        }
        needed.addAll(prerequisites.getOrDefault(t, List.of()));
        boolean failed = false;
        for (String one : needed) {
            if (failed && !has(1)) {
                break;
            }
            if (underWay.contains(one)) {
                failed = true;
            } else {
                update(one);
                failed |= fates.get(one) == 3;
            }
        }
        if (failed) {
            return 3;
        }
        List<String> newer = new ArrayList<>();
        for (String one : needed) {
            if (fates.get(one) == 2 || (isFile(one) && times.get(one) > times.getOrDefault(t, 0))) {
                newer.add(one);
            }
        }
        if (isFile(t) && !phony.contains(t) && newer.isEmpty()) {
            return 1;
        }
        outOfDate = true;
        return carryOut(t, recipe, newer) ? 2 : 3;
    }

    private boolean carryOut(String t, Recipe recipe, List<String> newer) {
        boolean hushed = silent.contains(t) || allSilent || has(32);
        if (has(4) && !has(2) && !has(8) && !recipe.commands.isEmpty() && !phony.contains(t)) {
            if (!hushed) {
                print("touch " + t + "\n");
            }
            write(t, contents.getOrDefault(t, 0));
        }
        Map<Character, String> values = Map.of('@', t, '<', recipe.first, '?', String.join(" ", newer),
                '*', recipe.stem);
        for (String command : recipe.commands) {
            String text = command.replaceAll("(?s)^[-@+]*", "");
            String marks = command.substring(0, command.length() - text.length());
            boolean plus = marks.contains("+");
            if (!plus && (has(8) || (has(4) && !has(2)))) {
                continue;
            }
            try {
                String expanded = expand(text, values);
                boolean quiet = (marks.contains("@") || hushed) && !has(2);
                if (!has(8) && !quiet) {
                    print(expanded + "\n");
                }
                if (plus || !(has(2) || has(4) || has(8))) {
                    done++;
                    run(words(expanded));
                }
            } catch (Wrong e) {
                if (!marks.contains("-") && !ignored.contains(t) && !allIgnored && !has(16)) {
                    return false;
                }
            }
        }
        return true;
    }

    private void print(String text) {
        print += text;
        print = print.substring(0, Math.min(print.length(), 400));
    }

    private static void demand(boolean holds) {
        if (!holds) {
            throw new Wrong();
        }
    }

    private void run(List<String> command) {
        if (command.isEmpty()) {
            return;
        }
        List<String> behind = command.subList(1, command.size());
        int n = behind.size();
        switch (command.get(0)) {
            case "true" -> { }
            case "echo" -> print(String.join(" ", behind) + "\n");
            case "touch" -> {
                demand(n >= 1);
                behind.forEach(this::meet);
                behind.forEach(name -> write(name, contents.getOrDefault(name, 0)));
            }
            case "rm" -> {
                demand(n >= 1);
                behind.forEach(this::meet);
                times.keySet().removeAll(behind);
                contents.keySet().removeAll(behind);
            }
            case "cp" -> {
                demand(n == 2);
                behind.forEach(this::meet);
                demand(isFile(behind.get(0)));
                write(behind.get(1), contents.get(behind.get(0)));
            }
            case "cat" -> {
                demand(n >= 3 && behind.get(n - 2).equals(">"));
                List<String> from = behind.subList(0, n - 2);
                from.forEach(this::meet);
                meet(behind.get(n - 1));
                from.forEach(name -> demand(isFile(name)));
                int c = 0;
                for (String name : from) {
                    c = 31 * c + contents.get(name) + 1;
                }
                write(behind.get(n - 1), c);
            }
            default -> throw new Wrong();
        }
    }

    // ---- what can be asked

    /** All that the face tells, in one text. */
    String state() {
        StringBuilder all = new StringBuilder();
        for (String name : names) {
            all.append(name).append(' ').append(times.getOrDefault(name, 0)).append(' ')
                    .append(contents.getOrDefault(name, 0)).append(' ')
                    .append(fates.getOrDefault(name, 0)).append('\n');
        }
        return all.append(done).append('\n').append(print).toString();
    }

    static String state(Subject builder) {
        StringBuilder all = new StringBuilder();
        for (int k = 0; k < builder.names(); k++) {
            for (int i = 0; builder.nameAt(k, i) >= 0; i++) {
                all.append((char) builder.nameAt(k, i));
            }
            all.append(' ').append(builder.time(k)).append(' ').append(builder.content(k)).append(' ')
                    .append(builder.fate(k)).append('\n');
        }
        all.append(builder.done()).append('\n');
        for (int i = 0; i < builder.printed(); i++) {
            all.append((char) builder.printedAt(i));
        }
        return all.toString();
    }
}
