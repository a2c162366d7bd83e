import java.util.ArrayList;
import java.util.HashMap;
import java.util.LinkedHashSet;
import java.util.List;
import java.util.Map;
import java.util.Set;
import java.util.regex.Matcher;
import java.util.regex.Pattern;

/**
 * The document's TEXTS, letter by letter, and Earley's way of telling the first word of a row that no
 * text can have there. Slow, but it takes the rules as they are written.
 */
final class Grammar {
    private static final String TEXTS = ""
            + "text: train { item }      item: statement | input | index | block | loss | out\n"
            + "input: 'input' name shape ';'      index: 'index' name shape 'below' whole ';'      loss: 'loss' sum ';'      out: 'out' sum ';'\n"
            + "block: 'block' name '(' [ name { ',' name } ] [ ';' name { ',' name } ] ')' '{' { statement } give '}'      give: 'give' sum ';'\n"
            + "statement: param | let | repeat      param: 'param' name shape [ '=' fraction | '~' fraction ',' whole ] ';'      let: 'let' name '=' sum ';'      repeat: 'repeat' whole '{' { statement } '}'\n"
            + "train: 'train' 'bits' whole 'rate' fraction { 'until' whole 'rate' fraction } [ 'momentum' fraction ] [ 'decay' fraction ] [ 'clip' fraction ] ';'\n"
            + "fraction: [ '-' ] number [ '/' number ]      shape: '[' [ whole { ',' whole } ] ']'\n"
            + "whole: terms      terms: factors { ( '+' | '-' ) factors }      factors: unit { ( '*' | '/' ) unit }      unit: number | name | side | '(' terms ')'      side: name '.' number\n"
            + "sum: product { ( '+' | '-' ) product }      product: factor { ( '*' | '@' ) factor | '/' number }      factor: negative | number | '(' sum ')' | name | call      negative: '-' factor\n"
            + "call: name '(' [ argument { ',' argument } ] [ ';' whole { ',' whole } ] ')'      argument: sum | shape\n";

    private final Map<String, List<List<String>>> rules = new HashMap<>();
    private final List<String> marks = new ArrayList<>();
    private int at = 0;
    private int helpers = 0;

    Grammar() {
        Matcher matcher = Pattern.compile("'[^']*'|[a-z]+:|[a-z]+|[\\[\\]{}()|]").matcher(TEXTS);
        while (matcher.find()) {
            marks.add(matcher.group());
        }
        while (at < marks.size()) {
            String head = marks.get(at);
            at++;
            rules.put(head.substring(0, head.length() - 1), choices(""));
        }
    }

    /** Reads choices up to a mark of the grammar that ends them, or the next rule's head. */
    private List<List<String>> choices(String ending) {
        List<List<String>> all = new ArrayList<>();
        List<String> row = new ArrayList<>();
        all.add(row);
        while (at < marks.size() && !marks.get(at).equals(ending) && !marks.get(at).endsWith(":")) {
            String mark = marks.get(at);
            at++;
            if (mark.equals("|")) {
                row = new ArrayList<>();
                all.add(row);
            } else {
                row.add("[{(".contains(mark) ? group(mark) : mark);
            }
        }
        return all;
    }

    private String group(String opening) {
        String name = "group" + helpers;
        helpers++;
        List<List<String>> inside = choices(opening.equals("[") ? "]" : opening.equals("{") ? "}" : ")");
        at++;
        List<List<String>> all = new ArrayList<>();
        if (!opening.equals("(")) {
            all.add(new ArrayList<>());
        }
        for (List<String> row : inside) {
            List<String> own = new ArrayList<>(row);
            if (opening.equals("{")) {
                own.add(name);
            }
            all.add(own);
        }
        rules.put(name, all);
        return name;
    }

    private record Item(String head, int choice, int dot, int from) {
    }

    /** The number of the first word that can't come there; the row's length if its end can't; else NONE. */
    int firstWrong(List<String> words) {
        List<Set<Item>> sets = new ArrayList<>();
        Set<Item> first = new LinkedHashSet<>();
        for (int i = 0; i < rules.get("text").size(); i++) {
            first.add(new Item("text", i, 0, 0));
        }
        sets.add(close(first, sets, 0));
        for (int i = 0; i < words.size(); i++) {
            Set<Item> next = new LinkedHashSet<>();
            for (Item item : sets.get(i)) {
                String symbol = symbol(item);
                if (symbol != null && matches(symbol, words.get(i))) {
                    next.add(new Item(item.head, item.choice, item.dot + 1, item.from));
                }
            }
            if (next.isEmpty()) {
                return i;
            }
            sets.add(close(next, sets, i + 1));
        }
        for (Item item : sets.get(words.size())) {
            if (item.head.equals("text") && item.from == 0 && symbol(item) == null) {
                return NetText.NONE;
            }
        }
        return words.size();
    }

    private String symbol(Item item) {
        List<String> row = rules.get(item.head).get(item.choice);
        return item.dot < row.size() ? row.get(item.dot) : null;
    }

    private Set<Item> close(Set<Item> set, List<Set<Item>> before, int here) {
        boolean grown = true;
        while (grown) {
            grown = false;
            for (Item item : new ArrayList<>(set)) {
                grown |= set.addAll(follow(item, set, before, here));
            }
        }
        return set;
    }

    private List<Item> follow(Item item, Set<Item> set, List<Set<Item>> before, int here) {
        List<Item> more = new ArrayList<>();
        String symbol = symbol(item);
        if (symbol == null) {
            for (Item waiting : item.from == here ? set : before.get(item.from)) {
                if (item.head.equals(symbol(waiting))) {
                    more.add(new Item(waiting.head, waiting.choice, waiting.dot + 1, waiting.from));
                }
            }
        } else if (rules.containsKey(symbol)) {
            for (int i = 0; i < rules.get(symbol).size(); i++) {
                more.add(new Item(symbol, i, 0, here));
            }
        }
        return more;
    }

    private boolean matches(String symbol, String word) {
        if (symbol.equals("name")) {
            return (Character.isLetter(word.charAt(0)) || word.charAt(0) == '_') && !TEXTS.contains("'" + word + "'");
        }
        if (symbol.equals("number")) {
            return Character.isDigit(word.charAt(0));
        }
        return symbol.equals("'" + word + "'");
    }
}
