import java.util.Arrays;

/**
 * Builds files by a text of rules: macros, targets with what they are made from, rules for endings,
 * and commands, which are carried out on a small store of files.
 */
public final class RuleBuilder {
    public static final int NONE = -1;

    private static final int LONGEST_DRAFT = 320;
    private static final int LONGEST_GIVEN_VALUE = 16;
    private static final int ALL_OPTIONS = 63;

    private final Text draft = new Text(LONGEST_DRAFT);
    private final Store store = new Store();
    private final Rules rules = new Rules();
    private final Expander expander = new Expander();
    private final Words words = new Words(expander.out);
    private final Shell shell = new Shell(store, words);
    private final Reader reader = new Reader(store, rules, expander, words);
    private final Builder builder = new Builder(store, rules, expander, shell);

    public RuleBuilder() {
    }

    public boolean type(char c) {
        boolean mayStand = (c >= ' ' && c <= '~') || c == '\t' || c == '\n';
        return mayStand && draft.add(c);
    }

    public void scrap() {
        draft.clear();
    }

    public boolean set() {
        if (!Expander.isDefinition(draft, 0, draft.length())) {
            return false;
        }
        if (draft.length() > 2 + LONGEST_GIVEN_VALUE || draft.indexOf('\n') < draft.length()) {
            return false;
        }
        expander.give(draft.at(0), draft.cut(2, draft.length()));
        draft.clear();
        return true;
    }

    public int load() {
        int answer = reader.read(draft);
        draft.clear();
        return answer;
    }

    public int edit(int content) {
        Name name = store.meet(draft, 0, draft.length());
        if (name == null) {
            return NONE;
        }
        store.write(name, content);
        draft.clear();
        return name.number;
    }

    public boolean erase() {
        Name name = store.find(draft, 0, draft.length());
        if (name == null || !name.isFile()) {
            return false;
        }
        name.remove();
        draft.clear();
        return true;
    }

    public int build(int options) {
        if (options < 0 || options > ALL_OPTIONS) {
            return NONE;
        }
        Name goal = draft.length() == 0 ? rules.firstTarget : store.meet(draft, 0, draft.length());
        if (goal == null) {
            return NONE;
        }
        draft.clear();
        builder.begin(options);
        boolean made = builder.update(goal, 0);
        return made ? builder.answerOfSuccess() : 2;
    }

    public int names() {
        return store.count();
    }

    public int nameAt(int k, int i) {
        Name name = store.at(k);
        if (name == null || i < 0 || i >= name.spelling.length()) {
            return NONE;
        }
        return name.spelling.charAt(i);
    }

    public int time(int k) {
        Name name = store.at(k);
        return name == null ? NONE : name.time;
    }

    public int content(int k) {
        Name name = store.at(k);
        return name == null ? 0 : name.content;
    }

    public int fate(int k) {
        Name name = store.at(k);
        return name == null ? NONE : name.fate;
    }

    public int done() {
        return builder.doneCommands;
    }

    public int printed() {
        return shell.print.length();
    }

    public int printedAt(int i) {
        return i < 0 || i >= shell.print.length() ? NONE : shell.print.at(i);
    }

    /** A text that grows up to a limit, in one row that is used again. */
    private static final class Text {
        private final char[] chars;
        private int length;

        Text(int limit) {
            chars = new char[limit];
        }

        int length() {
            return length;
        }

        void clear() {
            length = 0;
        }

        /** The character at i; outside the text one that no text of the program holds. */
        char at(int i) {
            return i < 0 || i >= length ? '\0' : chars[i];
        }

        /** The place of the first c, or the length of the text. */
        int indexOf(char c) {
            int i = 0;
            while (i < length && chars[i] != c) {
                i++;
            }
            return i;
        }

        boolean add(char c) {
            if (length == chars.length) {
                return false;
            }
            chars[length] = c;
            length++;
            return true;
        }

        /** Appends what fits of a text, and tells whether all of it did. */
        boolean addPart(String text, int from, int to) {
            for (int i = Math.max(from, 0); i < to && i < text.length(); i++) {
                if (length == chars.length) {
                    return false;
                }
                chars[length] = text.charAt(i);
                length++;
            }
            return true;
        }

        /** The same for another text of this kind. */
        boolean addText(Text text, int from, int to) {
            for (int i = Math.max(from, 0); i < to && i < text.length; i++) {
                if (length == chars.length) {
                    return false;
                }
                chars[length] = text.chars[i];
                length++;
            }
            return true;
        }

        /** Puts part of a text into the place of the characters from up to to; false if that is too long. */
        boolean replace(int from, int to, String text, int textFrom, int textTo) {
            int grown = length + (textTo - textFrom) - (to - from);
            if (from < 0 || to < from || to > length || textTo > text.length() || grown > chars.length) {
                return false;
            }
            System.arraycopy(chars, to, chars, from + textTo - textFrom, length - to);
            for (int i = textFrom; i < textTo; i++) {
                chars[from + i - textFrom] = text.charAt(i);
            }
            length = grown;
            return true;
        }

        /** Whether the characters from up to to are those of part of a text. */
        boolean holds(int from, int to, String text, int textFrom, int textTo) {
            if (from < 0 || to > length || textFrom < 0 || textTo > text.length()) {
                return false;
            }
            if (to - from != textTo - textFrom) {
                return false;
            }
            for (int i = from; i < to; i++) {
                if (chars[i] != text.charAt(textFrom + i - from)) {
                    return false;
                }
            }
            return true;
        }

        boolean isName(int from, int to) {
            if (to - from < 1 || to - from > Name.LONGEST) {
                return false;
            }
            for (int i = from; i < to; i++) {
                char c = i < 0 || i >= length ? '\0' : chars[i];
                boolean fits = (c >= 'a' && c <= 'z') || (c >= '0' && c <= '9') || c == '.' || c == '_';
                if (!fits) {
                    return false;
                }
            }
            return true;
        }

        /** The first place in from up to to that holds no space, or to. */
        int behindSpaces(int from, int to) {
            int i = from;
            while (i < to && at(i) == ' ') {
                i++;
            }
            return i;
        }

        /** The place behind the last one in from up to to that holds no space, or from. */
        int beforeSpaces(int from, int to) {
            int i = to;
            while (i > from && at(i - 1) == ' ') {
                i--;
            }
            return i;
        }

        String cut(int from, int to) {
            if (from < 0 || to <= from || to > length) {
                return "";
            }
            char[] part = new char[to - from];
            System.arraycopy(chars, from, part, 0, to - from);
            return new String(part);
        }
    }

    /** The words of an expansion, and the names that they were met as. */
    private static final class Words {
        private static final int MOST = Expander.LONGEST / 2 + 1;

        private final Text text;
        private final int[] begins = new int[MOST];
        private final int[] ends = new int[MOST];
        private final Name[] met = new Name[MOST];
        private int count;

        Words(Text text) {
            this.text = text;
        }

        int count() {
            return count;
        }

        void clear() {
            count = 0;
        }

        /** Appends the words in the characters from up to to. */
        void addWords(int from, int to) {
            int begin = from;
            for (int i = from; i <= to; i++) {
                if (i < to && text.at(i) != ' ') {
                    continue;
                }
                if (i > begin && count < MOST) {
                    begins[count] = begin;
                    ends[count] = i;
                    count++;
                }
                begin = i + 1;
            }
        }

        boolean is(int i, String word) {
            return i >= 0 && i < count && text.holds(begins[i], ends[i], word, 0, word.length());
        }

        boolean isName(int i) {
            return i >= 0 && i < count && text.isName(begins[i], ends[i]);
        }

        String cut(int i) {
            return i >= 0 && i < count ? text.cut(begins[i], ends[i]) : "";
        }

        void addTo(Text other, int i) {
            if (i >= 0 && i < count) {
                other.addText(text, begins[i], ends[i]);
            }
        }

        /** Meets the words from up to to as names, in their order, up to one that can be none. */
        boolean meet(Store store, int from, int to) {
            for (int i = Math.max(from, 0); i < to && i < count; i++) {
                met[i] = store.meet(text, begins[i], ends[i]);
                if (met[i] == null) {
                    return false;
                }
            }
            return true;
        }

        /** The name that word i was met as. */
        Name name(int i) {
            return i >= 0 && i < count ? met[i] : null;
        }
    }

    /** A text that is kept in a row: there are no rows of String in the Java of LANGUAGE.md. */
    private static final class Phrase {
        final String text;

        Phrase(String text) {
            this.text = text;
        }
    }

    /** A name with its file, with what the rule text says of it, and with what the latest build made of it. */
    private static final class Name {
        static final int LONGEST = 8;
        static final int UNTOUCHED = 0;
        static final int UP_TO_DATE = 1;
        static final int REBUILT = 2;
        static final int FAILED = 3;

        final int number;
        final String spelling;

        // A time of 0 is that of a name that is no file: the first file written has the time 1.
        int time;
        int content;

        boolean hasRule;
        boolean phony;
        boolean ignored;
        boolean silent;
        boolean isLatestTarget;
        int ownCommands = NONE;

        int fate;
        boolean underWay;
        int commands = NONE;
        boolean byDefault;
        Name source;
        int stem;

        Name(int number, String spelling) {
            this.number = number;
            this.spelling = spelling;
        }

        boolean isFile() {
            return time > 0;
        }

        void remove() {
            time = 0;
            content = 0;
        }

        void forgetRules() {
            hasRule = false;
            phony = false;
            ignored = false;
            silent = false;
            ownCommands = NONE;
            fate = UNTOUCHED;
        }

        boolean endsWith(String end) {
            int before = spelling.length() - end.length();
            if (before < 0) {
                return false;
            }
            for (int i = 0; i < end.length(); i++) {
                if (spelling.charAt(before + i) != end.charAt(i)) {
                    return false;
                }
            }
            return true;
        }
    }

    /** The names that were met, and the clock by which files are written. */
    private static final class Store {
        static final int MOST = 32;

        private final Name[] names = new Name[MOST];
        private int count;
        private int clock;

        int count() {
            return count;
        }

        Name at(int k) {
            return k < 0 || k >= count ? null : names[k];
        }

        Name find(Text text, int from, int to) {
            for (int k = 0; k < count; k++) {
                String spelling = names[k].spelling;
                if (text.holds(from, to, spelling, 0, spelling.length())) {
                    return names[k];
                }
            }
            return null;
        }

        /** The name that stands there, a new one if need be; null when it is no name, or one too many. */
        Name meet(Text text, int from, int to) {
            Name known = find(text, from, to);
            if (known != null || count == MOST || !text.isName(from, to)) {
                return known;
            }
            Name name = new Name(count, text.cut(from, to));
            names[count] = name;
            count++;
            return name;
        }

        void write(Name name, int content) {
            clock++;
            name.time = clock;
            name.content = content;
        }

        void forgetRules() {
            for (int k = 0; k < count; k++) {
                names[k].forgetRules();
            }
        }

        void forgetFates() {
            for (int k = 0; k < count; k++) {
                names[k].fate = Name.UNTOUCHED;
            }
        }

        void forgetLatestTargets() {
            for (int k = 0; k < count; k++) {
                names[k].isLatestTarget = false;
            }
        }

        /** Gives commands to the targets of the latest rule line; false if one had some already. */
        boolean giveToLatestTargets(int commands) {
            for (int k = 0; k < count; k++) {
                Name name = names[k];
                if (name.isLatestTarget && name.ownCommands != NONE) {
                    return false;
                }
                if (name.isLatestTarget) {
                    name.ownCommands = commands;
                }
            }
            return true;
        }
    }

    /** Expands texts, with the values of the macros. */
    private static final class Expander {
        static final int LONGEST = 120;

        private static final int LETTERS = 26;
        private static final int DEEPEST_LEVEL = 6;
        private static final int WRONG = -1;
        private static final int UNKNOWN = -1;

        final Text out = new Text(LONGEST);

        // One character more than an expansion may have makes it wrong, so what is behind need not be kept.
        final Text newer = new Text(LONGEST + 1);

        private final Phrase[] given = new Phrase[LETTERS];
        private final Phrase[] defined = new Phrase[LETTERS];

        // How far the expansion of a macro of an empty value grew meanwhile, for each level and letter.
        // Without this, macros that stand for many empty ones, level by level, would take for ever.
        private final int[] emptyGrowth = new int[DEEPEST_LEVEL * LETTERS];
        private int longestYet;
        private Name target;

        static boolean isCapital(char c) {
            return c >= 'A' && c <= 'Z';
        }

        static boolean isDefinition(Text text, int from, int to) {
            return to - from >= 2 && isCapital(text.at(from)) && text.at(from + 1) == '=';
        }

        void give(char letter, String value) {
            if (isCapital(letter)) {
                given[letter - 'A'] = new Phrase(value);
            }
        }

        void define(char letter, String value) {
            if (isCapital(letter)) {
                defined[letter - 'A'] = new Phrase(value);
            }
        }

        void forgetDefinitions() {
            for (int i = 0; i < LETTERS; i++) {
                defined[i] = null;
            }
        }

        /** Expands a command of a target, or, without one, a rule line; false when the expansion is wrong. */
        boolean expand(String text, Name commandTarget) {
            target = commandTarget;
            out.clear();
            Arrays.fill(emptyGrowth, UNKNOWN);
            return expandText(text, 0);
        }

        private boolean expandText(String text, int level) {
            for (int i = 0; i < text.length(); i++) {
                if (text.charAt(i) == '$') {
                    int last = expandReference(text, i, level);
                    if (last < i) {
                        return false;
                    }
                    i = last;
                } else if (!out.add(text.charAt(i))) {
                    return false;
                }
                longestYet = Math.max(longestYet, out.length());
            }
            return true;
        }

        /** Expands what begins with the $ at a place, and answers the place of its last character, or WRONG. */
        private int expandReference(String text, int at, int level) {
            char c = at + 1 < text.length() ? text.charAt(at + 1) : '\0';
            if (c == '(') {
                return expandBracket(text, at, level);
            }
            boolean right;
            if (c == '$') {
                right = out.add('$');
            } else if (isCapital(c)) {
                right = expandMacro(c, level);
            } else {
                right = target != null && addAutomatic(c);
            }
            return right ? at + 1 : WRONG;
        }

        private int expandBracket(String text, int at, int level) {
            int behindLetter = at + 3;
            int close = placeOf(text, ')', behindLetter);
            if (close == text.length() || !isCapital(text.charAt(at + 2))) {
                return WRONG;
            }
            int equals = placeOf(text, '=', behindLetter);
            boolean replaces = close > behindLetter;
            if (replaces && (text.charAt(behindLetter) != ':' || equals > close)) {
                return WRONG;
            }
            int start = out.length();
            if (!expandMacro(text.charAt(at + 2), level)) {
                return WRONG;
            }
            if (replaces && !replaceEnds(start, text, behindLetter + 1, equals, close)) {
                return WRONG;
            }
            return close;
        }

        /** The first place of c from a place on, or the length of the text. */
        private static int placeOf(String text, char c, int from) {
            for (int i = Math.max(from, 0); i < text.length(); i++) {
                if (text.charAt(i) == c) {
                    return i;
                }
            }
            return text.length();
        }

        private boolean expandMacro(char letter, int level) {
            if (level < 0 || level >= DEEPEST_LEVEL || !isCapital(letter)) {
                return false;
            }
            int slot = level * LETTERS + letter - 'A';
            int start = out.length();
            if (emptyGrowth[slot] != UNKNOWN) {
                longestYet = Math.max(longestYet, start + emptyGrowth[slot]);
                return start + emptyGrowth[slot] <= LONGEST;
            }
            int longestBefore = longestYet;
            longestYet = start;
            if (!expandText(valueOf(letter), level + 1)) {
                return false;
            }
            if (out.length() == start) {
                emptyGrowth[slot] = longestYet - start;
            }
            longestYet = Math.max(longestYet, longestBefore);
            return true;
        }

        private String valueOf(char letter) {
            int i = letter - 'A';
            if (given[i] != null) {
                return given[i].text;
            }
            return defined[i] != null ? defined[i].text : "";
        }

        /**
         * In every word of the expansion from start on, makes the end that stands in the text from ends up to
         * equals to what stands behind equals up to close.
         */
        private boolean replaceEnds(int start, String text, int ends, int equals, int close) {
            int begin = start;
            for (int left = out.length() - start; left >= 0; left--) {
                int end = out.length() - left;
                if (left > 0 && out.at(end) != ' ') {
                    continue;
                }
                int from = end - (equals - ends);
                if (end > begin && from >= begin && out.holds(from, end, text, ends, equals)) {
                    if (!out.replace(from, end, text, equals + 1, close)) {
                        return false;
                    }
                }
                begin = out.length() - left + 1;
            }
            return true;
        }

        /** Appends what $ with this character stands for in a command of the target. */
        private boolean addAutomatic(char c) {
            if (c == '@' || (c == '<' && target.byDefault)) {
                return out.addPart(target.spelling, 0, Name.LONGEST);
            }
            if (c == '?') {
                return out.addText(newer, 0, newer.length());
            }
            if (c == '<') {
                return target.source == null || out.addPart(target.source.spelling, 0, Name.LONGEST);
            }
            if (c == '*') {
                return target.source == null || out.addPart(target.spelling, 0, target.stem);
            }
            return false;
        }
    }

    /** A command line without its marks; the commands of a rule line have the number of its first one. */
    private static final class Command {
        final String text;
        final int first;
        final boolean forgiven;
        final boolean quiet;
        final boolean always;

        Command(String line, int first) {
            boolean hasMinus = false;
            boolean hasAt = false;
            boolean hasPlus = false;
            int i = 0;
            while (i < line.length() && isMark(line.charAt(i))) {
                hasMinus = hasMinus || line.charAt(i) == '-';
                hasAt = hasAt || line.charAt(i) == '@';
                hasPlus = hasPlus || line.charAt(i) == '+';
                i++;
            }
            text = line.substring(i);
            this.first = first;
            forgiven = hasMinus;
            quiet = hasAt;
            always = hasPlus;
        }

        private static boolean isMark(char c) {
            return c == '-' || c == '@' || c == '+';
        }
    }

    /** What a rule text says, but for its macros and what the names themselves know. */
    private static final class Rules {
        private static final int MOST_SUFFIXES = 6;
        private static final int MOST_ENDINGS = 8;
        private static final int MOST_COMMANDS = 30;
        private static final int MOST_PREREQUISITES = 80;

        final Phrase[] suffixes = new Phrase[MOST_SUFFIXES];
        int suffixCount;

        // An ending rule goes from one suffix to another, or, for one suffix alone, to the empty text.
        private final Phrase[] endingFrom = new Phrase[MOST_ENDINGS];
        private final Phrase[] endingTo = new Phrase[MOST_ENDINGS];
        private final int[] endingCommands = new int[MOST_ENDINGS];
        private int endingCount;

        private final Command[] commands = new Command[MOST_COMMANDS];
        private int commandCount;

        // Each prerequisite stands beside its target, so those of one target keep their order.
        final Name[] targets = new Name[MOST_PREREQUISITES];
        final Name[] prerequisites = new Name[MOST_PREREQUISITES];
        int prerequisiteCount;

        int defaultCommands = NONE;
        Name firstTarget;
        boolean allIgnored;
        boolean allSilent;

        void forget() {
            suffixCount = 0;
            endingCount = 0;
            commandCount = 0;
            prerequisiteCount = 0;
            defaultCommands = NONE;
            firstTarget = null;
            allIgnored = false;
            allSilent = false;
        }

        boolean hasSuffix(String text) {
            for (int i = 0; i < suffixCount; i++) {
                if (suffixes[i].text.equals(text)) {
                    return true;
                }
            }
            return false;
        }

        boolean addSuffix(String text) {
            if (hasSuffix(text)) {
                return true;
            }
            if (suffixCount == MOST_SUFFIXES) {
                return false;
            }
            suffixes[suffixCount] = new Phrase(text);
            suffixCount++;
            return true;
        }

        /** How long the suffix is from which an ending rule of this target goes; 0 when it is not one's. */
        int fromLength(String target) {
            if (hasSuffix(target)) {
                return target.length();
            }
            for (int i = 0; i < suffixCount; i++) {
                String from = suffixes[i].text;
                int length = from.length();
                if (target.length() > length && target.substring(0, length).equals(from)
                        && hasSuffix(target.substring(length))) {
                    return length;
                }
            }
            return 0;
        }

        /** The number of the ending rule, or NONE. */
        private int findEnding(String from, String to) {
            for (int i = 0; i < endingCount; i++) {
                if (endingFrom[i].text.equals(from) && endingTo[i].text.equals(to)) {
                    return i;
                }
            }
            return NONE;
        }

        /** An ending rule without commands, in the place of an earlier one for the same; NONE if it is one too many. */
        int renewEnding(String from, String to) {
            int ending = findEnding(from, to);
            if (ending == NONE && endingCount < MOST_ENDINGS) {
                ending = endingCount;
                endingFrom[ending] = new Phrase(from);
                endingTo[ending] = new Phrase(to);
                endingCount++;
            }
            giveEndingCommands(ending, NONE);
            return ending;
        }

        void giveEndingCommands(int ending, int first) {
            if (ending >= 0 && ending < endingCount) {
                endingCommands[ending] = first;
            }
        }

        /** The commands of an ending rule, or NONE if it has none or there is no such rule. */
        int commandsOfEnding(String from, String to) {
            int ending = findEnding(from, to);
            return ending == NONE ? NONE : endingCommands[ending];
        }

        boolean addPrerequisite(Name target, Name prerequisite) {
            if (prerequisite == null || prerequisiteCount == MOST_PREREQUISITES) {
                return false;
            }
            targets[prerequisiteCount] = target;
            prerequisites[prerequisiteCount] = prerequisite;
            prerequisiteCount++;
            return true;
        }

        int commandCount() {
            return commandCount;
        }

        boolean addCommand(String line, int first) {
            if (commandCount == MOST_COMMANDS) {
                return false;
            }
            commands[commandCount] = new Command(line, first);
            commandCount++;
            return true;
        }

        /** Command i, if it is one of those whose first has the number first, else null. */
        Command commandOf(int first, int i) {
            return i >= 0 && i < commandCount && commands[i].first == first ? commands[i] : null;
        }
    }

    /** Reads a rule text. */
    private static final class Reader {
        private static final int NOTHING = 0;
        private static final int WITHOUT_COMMANDS = 1;
        private static final int OF_NAMES = 2;
        private static final int OF_ENDING = 3;
        private static final int OF_DEFAULT = 4;

        private final Store store;
        private final Rules rules;
        private final Expander expander;
        private final Words words;
        private final Text line = new Text(LONGEST_DRAFT);
        private int latestKind;
        private int latestEnding;
        private int latestCommands;

        Reader(Store store, Rules rules, Expander expander, Words words) {
            this.store = store;
            this.rules = rules;
            this.expander = expander;
            this.words = words;
        }

        /** Answers 0, or minus the number of the first line that is wrong. */
        int read(Text draft) {
            forgetAll();
            int newlines = 0;
            int number = 1;
            line.clear();
            for (int i = 0; i <= draft.length(); i++) {
                if (draft.at(i) == '\\' && draft.at(i + 1) == '\n') {
                    line.add(' ');
                    newlines++;
                    i++;
                } else if (i < draft.length() && draft.at(i) != '\n') {
                    line.add(draft.at(i));
                } else {
                    if (!readLine()) {
                        forgetAll();
                        return -number;
                    }
                    newlines++;
                    number = newlines + 1;
                    line.clear();
                }
            }
            return 0;
        }

        private void forgetAll() {
            rules.forget();
            expander.forgetDefinitions();
            store.forgetRules();
            latestKind = NOTHING;
        }

        private boolean readLine() {
            if (line.at(0) == '\t') {
                return readCommandLine();
            }
            int comment = line.indexOf('#');
            int from = line.behindSpaces(0, comment);
            int to = line.beforeSpaces(from, comment);
            if (from == to) {
                return true;
            }
            if (Expander.isDefinition(line, from, to)) {
                int valueFrom = line.behindSpaces(from + 2, to);
                expander.define(line.at(from), line.cut(valueFrom, to));
                return true;
            }
            return readRuleLine(line.cut(from, to));
        }

        private boolean readCommandLine() {
            if (latestKind == NOTHING || latestKind == WITHOUT_COMMANDS) {
                return false;
            }
            if (latestCommands == NONE) {
                latestCommands = rules.commandCount();
                if (!beginCommands()) {
                    return false;
                }
            }
            return rules.addCommand(line.cut(1, line.length()), latestCommands);
        }

        /** Gives the latest commands to the targets of the latest rule line; false if one had some already. */
        private boolean beginCommands() {
            if (latestKind == OF_DEFAULT) {
                boolean isFirst = rules.defaultCommands == NONE;
                rules.defaultCommands = latestCommands;
                return isFirst;
            }
            if (latestKind == OF_ENDING) {
                rules.giveEndingCommands(latestEnding, latestCommands);
                return true;
            }
            return store.giveToLatestTargets(latestCommands);
        }

        private boolean readRuleLine(String text) {
            if (!expander.expand(text, null)) {
                return false;
            }
            Text out = expander.out;
            int colon = out.indexOf(':');
            words.clear();
            words.addWords(0, colon);
            int targets = words.count();
            if (targets == 0 || !isLastColon(out, colon)) {
                return false;
            }
            words.addWords(colon + 1, out.length());
            latestCommands = NONE;
            String only = targets == 1 ? words.cut(0) : "";
            latestKind = kindOf(only);
            switch (latestKind) {
                case WITHOUT_COMMANDS:
                    if (only.equals(".SUFFIXES")) {
                        return readSuffixes();
                    }
                    return words.meet(store, 1, words.count()) && mark(only);
                case OF_DEFAULT:
                    return words.count() == 1;
                case OF_ENDING:
                    return readEnding(only);
                default:
                    return words.meet(store, 0, words.count()) && addRules(targets);
            }
        }

        private static boolean isLastColon(Text text, int colon) {
            for (int i = colon + 1; i < text.length(); i++) {
                if (text.at(i) == ':') {
                    return false;
                }
            }
            return colon < text.length();
        }

        /** The kind of the rule line that has this only target, empty if there are several. */
        private int kindOf(String only) {
            if (only.equals(".SUFFIXES") || only.equals(".PHONY") || only.equals(".IGNORE") || only.equals(".SILENT")) {
                return WITHOUT_COMMANDS;
            }
            if (only.equals(".DEFAULT")) {
                return OF_DEFAULT;
            }
            return words.count() == 1 && rules.fromLength(only) > 0 ? OF_ENDING : OF_NAMES;
        }

        private boolean readSuffixes() {
            if (words.count() == 1) {
                rules.suffixCount = 0;
            }
            for (int i = 1; i < words.count(); i++) {
                String suffix = words.cut(i);
                boolean fits = words.isName(i) && suffix.length() >= 2 && suffix.charAt(0) == '.';
                if (!fits || !rules.addSuffix(suffix)) {
                    return false;
                }
            }
            return true;
        }

        /** Makes the names behind the target, or all if there is none, what the target says. */
        private boolean mark(String only) {
            boolean isIgnore = only.equals(".IGNORE");
            boolean isSilent = only.equals(".SILENT");
            boolean isPhony = only.equals(".PHONY");
            if (words.count() == 1) {
                rules.allIgnored = rules.allIgnored || isIgnore;
                rules.allSilent = rules.allSilent || isSilent;
            }
            for (int i = 1; i < words.count(); i++) {
                Name name = words.name(i);
                if (name != null) {
                    name.ignored = name.ignored || isIgnore;
                    name.silent = name.silent || isSilent;
                    name.phony = name.phony || isPhony;
                }
            }
            return true;
        }

        private boolean readEnding(String only) {
            int length = rules.fromLength(only);
            latestEnding = rules.renewEnding(only.substring(0, length), only.substring(length));
            return latestEnding != NONE;
        }

        /** Gives rules to the first words, the targets, with the other ones as their prerequisites. */
        private boolean addRules(int targets) {
            store.forgetLatestTargets();
            if (rules.firstTarget == null) {
                rules.firstTarget = words.name(0);
            }
            for (int i = 0; i < targets; i++) {
                Name target = words.name(i);
                if (target == null) {
                    return false;
                }
                target.hasRule = true;
                target.isLatestTarget = true;
                for (int j = targets; j < words.count(); j++) {
                    if (!rules.addPrerequisite(target, words.name(j))) {
                        return false;
                    }
                }
            }
            return true;
        }
    }

    /** Does what commands say, and keeps the print. */
    private static final class Shell {
        private static final int LONGEST_PRINT = 400;

        final Text print = new Text(LONGEST_PRINT);
        private final Store store;
        private final Words words;

        Shell(Store store, Words words) {
            this.store = store;
            this.words = words;
        }

        void printTouch(String name) {
            String touch = "touch ";
            print.addPart(touch, 0, touch.length());
            print.addPart(name, 0, name.length());
            print.add('\n');
        }

        void printLine(Text text) {
            print.addText(text, 0, text.length());
            print.add('\n');
        }

        /** Does a command that is expanded, and tells whether it did not fail. */
        boolean act(Text command) {
            words.clear();
            words.addWords(0, command.length());
            int count = words.count();
            if (count == 0 || words.is(0, "true")) {
                return true;
            }
            if (words.is(0, "echo")) {
                return echo();
            }
            if (words.is(0, "touch")) {
                return count >= 2 && words.meet(store, 1, count) && touch();
            }
            if (words.is(0, "rm")) {
                return count >= 2 && words.meet(store, 1, count) && remove();
            }
            if (words.is(0, "cp")) {
                return count == 3 && words.meet(store, 1, count) && copy();
            }
            if (words.is(0, "cat")) {
                return count >= 4 && words.is(count - 2, ">") && words.meet(store, 1, count - 2)
                        && words.meet(store, count - 1, count) && concatenate();
            }
            return false;
        }

        private boolean echo() {
            for (int i = 1; i < words.count(); i++) {
                if (i > 1) {
                    print.add(' ');
                }
                words.addTo(print, i);
            }
            print.add('\n');
            return true;
        }

        private boolean touch() {
            for (int i = 1; i < words.count(); i++) {
                Name name = words.name(i);
                if (name != null) {
                    store.write(name, name.content);
                }
            }
            return true;
        }

        private boolean remove() {
            for (int i = 1; i < words.count(); i++) {
                Name name = words.name(i);
                if (name != null) {
                    name.remove();
                }
            }
            return true;
        }

        private boolean copy() {
            Name from = words.name(1);
            Name to = words.name(2);
            if (from == null || to == null || !from.isFile()) {
                return false;
            }
            store.write(to, from.content);
            return true;
        }

        private boolean concatenate() {
            int sum = 0;
            for (int i = 1; i < words.count() - 2; i++) {
                Name from = words.name(i);
                if (from == null || !from.isFile()) {
                    return false;
                }
                sum = 31 * sum + from.content + 1;
            }
            Name to = words.name(words.count() - 1);
            if (to == null) {
                return false;
            }
            store.write(to, sum);
            return true;
        }
    }

    /** Carries out builds. */
    private static final class Builder {
        private static final int GO_ON = 1;
        private static final int ONLY_PRINT = 2;
        private static final int TOUCH = 4;
        private static final int ONLY_ASK = 8;
        private static final int FORGIVE = 16;
        private static final int BE_QUIET = 32;

        private final Store store;
        private final Rules rules;
        private final Expander expander;
        private final Shell shell;
        private final Text candidate = new Text(2 * Name.LONGEST);
        private int options;
        private boolean sawOutOfDate;
        int doneCommands;

        Builder(Store store, Rules rules, Expander expander, Shell shell) {
            this.store = store;
            this.rules = rules;
            this.expander = expander;
            this.shell = shell;
        }

        void begin(int chosenOptions) {
            options = chosenOptions;
            sawOutOfDate = false;
            doneCommands = 0;
            shell.print.clear();
            store.forgetFates();
        }

        int answerOfSuccess() {
            return has(ONLY_ASK) && sawOutOfDate ? 1 : 0;
        }

        private boolean has(int option) {
            return (options & option) != 0;
        }

        /** Updates a name, and tells whether it did not fail. */
        boolean update(Name name, int depth) {
            // No more names than there may be can be under way at once.
            if (name.underWay || depth > Store.MOST) {
                return false;
            }
            if (name.fate == Name.UNTOUCHED) {
                name.underWay = true;
                name.fate = fateOf(name, depth);
                name.underWay = false;
            }
            return name.fate != Name.FAILED;
        }

        private int fateOf(Name name, int depth) {
            if (!chooseCommands(name) || !updateNeeded(name, depth)) {
                return Name.FAILED;
            }
            if (!isOutOfDate(name)) {
                return Name.UP_TO_DATE;
            }
            sawOutOfDate = true;
            touchIfAsked(name);
            for (int i = 0; i < rules.commandCount(); i++) {
                Command command = rules.commandOf(name.commands, i);
                if (command != null && !carryOut(command, name)) {
                    return Name.FAILED;
                }
            }
            return Name.REBUILT;
        }

        /** Updates the source and the prerequisites of a name, and tells whether none of them failed. */
        private boolean updateNeeded(Name name, int depth) {
            boolean allRight = name.source == null || update(name.source, depth + 1);
            for (int i = 0; i < rules.prerequisiteCount; i++) {
                if (rules.targets[i] == name && (allRight || has(GO_ON))) {
                    allRight = update(rules.prerequisites[i], depth + 1) && allRight;
                }
            }
            return allRight;
        }

        /** Finds the commands of a name and its source; false when there is nothing to make it from. */
        private boolean chooseCommands(Name name) {
            name.commands = name.ownCommands;
            name.source = null;
            name.byDefault = false;
            if (name.commands != NONE || findEndingRule(name)) {
                return true;
            }
            if (name.hasRule || name.isFile()) {
                return true;
            }
            name.commands = rules.defaultCommands;
            name.byDefault = true;
            return name.commands != NONE;
        }

        private boolean findEndingRule(Name name) {
            int length = name.spelling.length();
            for (int i = 0; i < rules.suffixCount; i++) {
                String to = rules.suffixes[i].text;
                if (to.length() < length && name.endsWith(to) && findSource(name, length - to.length(), to)) {
                    return true;
                }
            }
            return findSource(name, length, "");
        }

        /** Looks for an ending rule to this suffix with a source that begins with the first characters of the name. */
        private boolean findSource(Name name, int stem, String to) {
            for (int i = 0; i < rules.suffixCount; i++) {
                String from = rules.suffixes[i].text;
                int commands = rules.commandsOfEnding(from, to);
                if (commands == NONE) {
                    continue;
                }
                candidate.clear();
                candidate.addPart(name.spelling, 0, stem);
                candidate.addPart(from, 0, from.length());
                Name source = store.find(candidate, 0, candidate.length());
                if (source != null && (source.hasRule || source.isFile())) {
                    name.commands = commands;
                    name.source = source;
                    name.stem = stem;
                    return true;
                }
            }
            return false;
        }

        /** Tells whether a name is out of date, and notes the newer ones for its commands. */
        private boolean isOutOfDate(Name name) {
            expander.newer.clear();
            boolean someNewer = noteIfNewer(name.source, name);
            for (int i = 0; i < rules.prerequisiteCount; i++) {
                if (rules.targets[i] == name) {
                    someNewer = noteIfNewer(rules.prerequisites[i], name) || someNewer;
                }
            }
            return someNewer || name.phony || !name.isFile();
        }

        private boolean noteIfNewer(Name needed, Name name) {
            if (needed == null || (needed.fate != Name.REBUILT && needed.time <= name.time)) {
                return false;
            }
            if (expander.newer.length() > 0) {
                expander.newer.add(' ');
            }
            expander.newer.addPart(needed.spelling, 0, needed.spelling.length());
            return true;
        }

        private void touchIfAsked(Name name) {
            boolean isAsked = has(TOUCH) && !has(ONLY_PRINT) && !has(ONLY_ASK);
            if (!isAsked || name.phony || name.commands == NONE) {
                return;
            }
            if (!isSilent(name)) {
                shell.printTouch(name.spelling);
            }
            store.write(name, name.content);
        }

        private boolean isSilent(Name name) {
            return name.silent || rules.allSilent || has(BE_QUIET);
        }

        /** Carries out a command of a name; false when it fails and is not forgiven. */
        private boolean carryOut(Command command, Name name) {
            if (!command.always && (has(ONLY_ASK) || (has(TOUCH) && !has(ONLY_PRINT)))) {
                return true;
            }
            boolean isForgiven = command.forgiven || name.ignored || rules.allIgnored || has(FORGIVE);
            if (!expander.expand(command.text, name)) {
                return isForgiven;
            }
            boolean isQuiet = (command.quiet || isSilent(name)) && !has(ONLY_PRINT);
            if (!has(ONLY_ASK) && !isQuiet) {
                shell.printLine(expander.out);
            }
            if (!command.always && has(ONLY_PRINT)) {
                return true;
            }
            doneCommands++;
            return shell.act(expander.out) || isForgiven;
        }
    }
}
