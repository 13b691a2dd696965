import java.util.ArrayList;
import java.util.List;
import java.util.Map;
import java.util.Random;
import java.util.regex.Matcher;
import java.util.regex.Pattern;

/**
 * Texts by chance, right ones and ones that are changed in some place: a second reader, which goes by tables
 * and a pile in place of methods that call one another, tells what each must answer and its first wrong byte.
 */
public final class GrammarTest {
    private static final Pattern THING = Pattern.compile("[a-z]+|[0-9]+|[^ ]", Pattern.DOTALL);
    // '?' is ahead of a word that may be left out together with the number behind it.
    private static final Map<String, String> PORT_LINES = Map.of("party", "#999", "ink", "age #AGE ?keeps #99 ?soaks #9",
            "deed", "ink #INK from #PARTY to #OTHER sum #99 ?term #20 ?on #DEED ?but #DEED", "damp", "SEASON #9", "salt", "#9",
            "spray", "#100", "time", "#999");
    private static final List<String> SEASONS = List.of("spring", "summer", "autumn", "winter");
    private static final List<String> FACTS = List.of("deed", "ink", "sum", "ripe", "season", "damp", "salt");
    private static final String[] STRANGE = {"party", "ink", "deed", "damp", "salt", "spray", "time", "age", "keeps", "soaks", "from", "to", "sum",
        "term", "on", "but", "spring", "winter", "ripe", "slow", "cost", "if", "and", "or", "not", "leaning", "barred", "season", "(", ")", "<", ">",
        "+", ";", "-", "0", "1", "5", "6", "9", "10", "20", "21", "40", "41", "99", "100", "101", "999", "0000", "1000", "partys", "part", "A", "\t",
        "\n", "\0", "\u00e9", "\u00ff"};

    private final Random chance;

    private GrammarTest(int seed) {
        chance = new Random(seed);
    }

    public static void main(String[] args) {
        int texts = args.length > 0 ? Integer.parseInt(args[0]) : 12000;
        for (int seed = 0; seed < texts; seed++) {
            GrammarTest test = new GrammarTest(seed);
            test.port();
            test.law();
        }
        Kit.end();
    }

    private int any(int least, int most) {
        return least + chance.nextInt(most - least + 1);
    }

    private boolean once(int in) {
        return chance.nextInt(in) == 0;
    }

    // ---- the second reader ----

    private final List<String> things = new ArrayList<>();
    private final List<Integer> begins = new ArrayList<>();
    private int at;

    /** The last thing is the empty one at the text's length. */
    private void split(String text) {
        things.clear();
        begins.clear();
        Matcher m = THING.matcher(text);
        while (m.find()) {
            things.add(m.group());
            begins.add(m.start());
        }
        things.add("");
        begins.add(text.length());
        at = 0;
    }

    private boolean isNumber(int least, int most) {
        String thing = things.get(at);
        return thing.matches("[0-9]{1,3}") && Integer.parseInt(thing) >= least && Integer.parseInt(thing) <= most;
    }

    /** Counts parties, inks, deeds and on; answers where the text is wrong, or NONE. */
    private int portFault(String text, int[] there) {
        split(text);
        if (things.size() == 1) {
            return -1;
        }
        for (int line = 1; line <= 15; line++) {
            if (line == 15 || !takesPortLine(there)) {
                return begins.get(at);
            }
            if (things.get(at).isEmpty()) {
                return -1;
            }
            if (!things.get(at).equals(";")) {
                return begins.get(at);
            }
            at++;
        }
        return -1;
    }

    private boolean takesPortLine(int[] there) {
        String word = things.get(at);
        int counted = List.of("party", "ink", "deed").indexOf(word);
        boolean tooMany = counted >= 0 && there[counted] == (counted == 2 ? 8 : 6) || word.equals("time") && there[2] > 0;
        if (tooMany || !PORT_LINES.containsKey(word)) {
            return false;
        }
        at++;
        String[] due = PORT_LINES.get(word).split(" ");
        int from = -1;
        for (int i = 0; i < due.length; i++) {
            String thing = things.get(at);
            if (due[i].startsWith("?") && !thing.equals(due[i].substring(1))) {
                i++;
                continue;
            }
            if (!fits(due[i], thing, there, from)) {
                return false;
            }
            from = due[i].equals("#PARTY") ? Integer.parseInt(thing) : from;
            at++;
        }
        if (counted >= 0) {
            there[counted]++;
        }
        return true;
    }

    private boolean fits(String due, String thing, int[] there, int from) {
        switch (due) {
            case "SEASON":
                return SEASONS.contains(thing);
            case "#AGE":
                return isNumber(1, 99);
            case "#PARTY":
                return isNumber(0, there[0] - 1);
            case "#OTHER":
                return isNumber(0, there[0] - 1) && Integer.parseInt(thing) != from;
            case "#INK":
                return isNumber(0, there[1] - 1);
            case "#DEED":
                return isNumber(0, there[2] - 1);
            default:
                return due.startsWith("#") ? isNumber(0, Integer.parseInt(due.substring(1))) : thing.equals(due.replace("?", ""));
        }
    }

    private enum Want { LINE, AMOUNT, IF, ATOM, LEFT, LEFT_ON, RIGHT, RIGHT_ON, ATOM_ON }

    private int lawLines;

    private int lawFault(String text) {
        split(text);
        lawLines = 0;
        if (things.size() == 1) {
            return -1;
        }
        Want want = Want.LINE;
        StringBuilder open = new StringBuilder();
        for (; at < things.size(); at++) {
            String thing = things.get(at);
            if (want == Want.RIGHT_ON && !thing.equals("+")) {
                want = atomEnds(open);
            }
            boolean lineMayEnd = (want == Want.IF || want == Want.ATOM_ON) && open.isEmpty();
            if (thing.isEmpty()) {
                return lineMayEnd ? -1 : begins.get(at);
            }
            want = lineMayEnd && thing.equals(";") ? Want.LINE : next(want, thing, open);
            if (want == null) {
                return begins.get(at);
            }
        }
        return -1;
    }

    private static Want atomEnds(StringBuilder open) {
        while (!open.isEmpty() && open.charAt(open.length() - 1) == '!') {
            open.setLength(open.length() - 1);
        }
        return Want.ATOM_ON;
    }

    private Want next(Want want, String thing, StringBuilder open) {
        boolean isPart = FACTS.contains(thing) || isNumber(0, 999);
        switch (want) {
            case LINE:
                lawLines++;
                return lawLines <= 12 && List.of("ripe", "slow", "cost").contains(thing) ? Want.AMOUNT : null;
            case AMOUNT:
                return isNumber(0, 40) ? Want.IF : null;
            case IF:
                return thing.equals("if") ? Want.ATOM : null;
            case ATOM:
                if (thing.equals("not") || thing.equals("(")) {
                    open.append(thing.equals("(") ? '(' : '!');
                    return open.length() <= 6 ? Want.ATOM : null;
                }
                if (thing.equals("leaning") || thing.equals("barred")) {
                    return atomEnds(open);
                }
                return isPart ? Want.LEFT_ON : null;
            case LEFT:
                return isPart ? Want.LEFT_ON : null;
            case LEFT_ON:
                return thing.equals("+") ? Want.LEFT : thing.equals("<") || thing.equals(">") ? Want.RIGHT : null;
            case RIGHT:
                return isPart ? Want.RIGHT_ON : null;
            case RIGHT_ON:
                return Want.RIGHT;
            default:
                if (thing.equals(")") && !open.isEmpty()) {
                    open.setLength(open.length() - 1);
                    return atomEnds(open);
                }
                return thing.equals("and") || thing.equals("or") ? Want.ATOM : null;
        }
    }

    // ---- texts by chance ----

    /** Blanks where they must be, and often where they may be. */
    private String written(List<String> parts) {
        StringBuilder out = new StringBuilder(once(6) ? " " : "");
        for (int i = 0; i < parts.size(); i++) {
            boolean must = i > 0 && (parts.get(i - 1) + "|" + parts.get(i)).matches("[a-z]+\\|[a-z]+|[0-9]+\\|[0-9]+");
            out.append(must && !once(300) || once(4) ? " " : "").append(once(20) ? "  " : "").append(parts.get(i));
        }
        out.append(once(6) ? "  " : "");
        return out.length() > 400 ? out.substring(0, 400) : out.toString();
    }

    private List<String> changed(List<String> parts) {
        for (int i = once(2) ? any(1, 2) : 0; i > 0 && !parts.isEmpty(); i--) {
            int where = any(0, parts.size() - 1);
            switch (any(0, 4)) {
                case 0:
                    parts.remove(where);
                    break;
                case 1:
                    parts.add(where, STRANGE[any(0, STRANGE.length - 1)]);
                    break;
                case 2:
                    parts.set(where, STRANGE[any(0, STRANGE.length - 1)]);
                    break;
                case 3:
                    parts.add(where, parts.get(any(0, parts.size() - 1)));
                    break;
                default:
                    parts.subList(where, parts.size()).clear();
                    break;
            }
        }
        return parts;
    }

    private static void put(List<String> out, String text) {
        out.addAll(List.of(text.split(" ")));
    }

    private List<String> portParts(int lines) {
        List<String> out = new ArrayList<>();
        for (int i = 0; i < lines; i++) {
            put(out, i == 0 ? portLine() : "; " + portLine());
        }
        return out;
    }

    private String portLine() {
        switch (any(0, 9)) {
            case 0:
                return "party " + any(0, 999);
            case 1:
                return "ink age " + any(1, 99) + (once(2) ? " keeps " + any(0, 99) : "") + (once(2) ? " soaks " + any(0, 9) : "");
            case 2:
                return "damp " + SEASONS.get(any(0, 3)) + " " + any(0, 9);
            case 3:
                return "salt " + any(0, 9);
            case 4:
                return "spray " + any(0, 100);
            case 5:
                return "time " + any(0, 999);
            default:
                return "deed ink " + any(0, 1) + " from " + any(0, 1) + " to " + any(1, 2) + " sum " + any(0, 99)
                        + (once(3) ? " term " + any(0, 20) : "") + (once(4) ? " on " + any(0, 2) : "") + (once(4) ? " but " + any(0, 2) : "");
        }
    }

    private List<String> lawParts(int lines) {
        List<String> out = new ArrayList<>();
        for (int i = 0; i < lines; i++) {
            put(out, (i == 0 ? "" : "; ").concat(List.of("ripe", "slow", "cost").get(any(0, 2))) + " " + any(0, 40));
            if (once(2)) {
                out.add("if");
                condition(out, any(0, 5));
            }
        }
        return out;
    }

    private void condition(List<String> out, int depth) {
        atom(out, depth);
        while (once(3)) {
            out.add(once(2) ? "and" : "or");
            atom(out, depth);
        }
    }

    /** The depth goes one too far now and then. */
    private void atom(List<String> out, int depth) {
        int kind = any(0, depth <= 6 ? 5 : 2);
        if (kind == 0) {
            out.add(once(2) ? "leaning" : "barred");
        } else if (kind <= 2) {
            sum(out);
            out.add(once(2) ? "<" : ">");
            sum(out);
        } else if (kind == 3) {
            out.add("not");
            atom(out, depth + 1);
        } else {
            out.add("(");
            condition(out, depth + 1);
            out.add(")");
        }
    }

    private void sum(List<String> out) {
        do {
            out.add(once(2) ? FACTS.get(any(0, 6)) : "" + any(0, 999));
            if (!once(3)) {
                return;
            }
            out.add("+");
        } while (true);
    }

    // ---- both readers ----

    private void port() {
        int[] there = new int[3];
        LateInks x = new LateInks();
        if (!once(6)) {
            String base = "party 5;party 6;party 7;ink age 4;ink age 5";
            Kit.is("base", Kit.portFault(x, base), portFault(base, there));
        }
        int[] before = there.clone();
        int texts = x.count(3);
        String text = written(changed(portParts(once(5) ? any(11, 17) : any(0, 6))));
        int due = portFault(text, there);
        Kit.is("port '" + text + "'", Kit.portFault(x, text), due);
        Kit.is("texts behind '" + text + "'", x.count(3), due < 0 ? texts + 1 : texts);
        for (int i = 0; i < 3; i++) {
            Kit.is("count " + i + " behind '" + text + "'", x.count(i), due < 0 ? there[i] : before[i]);
        }
    }

    private void law() {
        LateInks x = new LateInks();
        String text = written(changed(lawParts(once(5) ? any(9, 15) : any(0, 4))));
        int due = lawFault(text);
        Kit.is("law '" + text + "'", Kit.lawFault(x, text), due);
        Kit.is("lines of '" + text + "'", x.count(4), due < 0 ? lawLines : -1);
    }
}
