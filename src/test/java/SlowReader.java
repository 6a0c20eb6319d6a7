import java.util.ArrayList;
import java.util.HashMap;
import java.util.HashSet;
import java.util.List;
import java.util.Map;
import java.util.Set;
import java.util.regex.Matcher;
import java.util.regex.Pattern;

/**
 * Collects every error of a text, and then chooses among them: the first token that the grammar does not
 * allow ends the reading, all other errors are noted and passed over.
 */
final class SlowReader {
    private static final Pattern TOKEN = Pattern.compile("[a-z][a-z0-9]*|[0-9]+|[^ \n]", Pattern.DOTALL);
    private static final Set<String> QUOTED = Set.of("loc", "thread", "store", "load", "swap", "fence", "exists", "or", "and", "not");

    private final List<String> tokens = new ArrayList<>();
    private final List<Integer> offsets = new ArrayList<>();
    private final List<Integer> errors = new ArrayList<>();
    private final List<String> names = new ArrayList<>();
    private final List<Set<String>> targets = new ArrayList<>();
    private int at = 0;
    private int instructions = 0;
    private int accesses = 0;
    private int units = 0;

    private static final class Stop extends Exception {
        private static final long serialVersionUID = 1;
    }

    /** What define() is due to return. */
    static int due(String text) {
        SlowReader reader = new SlowReader();
        Matcher matcher = TOKEN.matcher(text);
        while (matcher.find()) {
            reader.tokens.add(matcher.group());
            reader.offsets.add(matcher.start());
        }
        reader.tokens.add("");
        reader.offsets.add(text.length());
        try {
            reader.program();
        } catch (Stop e) {
            // The errors so far are all there are.
        }
        return reader.errors.stream().mapToInt(e -> e).min().orElse(-reader.instructions) * -1;
    }

    private void note(int kind) {
        errors.add(8 * offsets.get(at) + kind);
    }

    private Stop stop() {
        note(1);
        return new Stop();
    }

    private String token() {
        return tokens.get(at);
    }

    private boolean isName() {
        return token().matches("[a-z]{1,8}") && !QUOTED.contains(token());
    }

    private boolean isNumber() {
        return token().matches("[0-9]{1,2}");
    }

    private boolean isRegister() {
        return token().matches("r[01]");
    }

    private void take(String... allowed) throws Stop {
        for (String one : allowed) {
            if (token().equals(one)) {
                at++;
                return;
            }
        }
        throw stop();
    }

    private void value() throws Stop {
        if (!isNumber()) {
            throw stop();
        }
        if (Integer.parseInt(token()) > 3) {
            note(2);
        }
        at++;
    }

    private void program() throws Stop {
        for (int line = 1; token().equals("loc"); line++) {
            if (line == 4) {
                note(5);
            }
            at++;
            if (!isName()) {
                throw stop();
            }
            if (names.contains(token())) {
                note(3);
            }
            names.add(token());
            at++;
            value();
            take(";");
        }
        for (int line = 1; token().equals("thread"); line++) {
            if (line == 5) {
                note(5);
            }
            at++;
            take(";");
            thread();
        }
        if (token().equals("exists")) {
            at++;
            condition(0);
            take(";");
        }
        if (!token().isEmpty()) {
            throw stop();
        }
    }

    private void thread() throws Stop {
        Set<String> own = new HashSet<>();
        targets.add(own);
        int size = 0;
        int ownAccesses = 0;
        Map<String, String> shapes = new HashMap<>();
        shapes.put("store", "nv");
        shapes.put("load", "tn");
        shapes.put("swap", "tnv");
        shapes.put("fence", "");
        while (shapes.containsKey(token())) {
            boolean access = !token().equals("fence");
            size++;
            instructions++;
            ownAccesses += access ? 1 : 0;
            accesses += access ? 1 : 0;
            if (size > 7 || instructions > 10 || access && (ownAccesses > 4 || accesses > 8)) {
                note(5);
            }
            String shape = shapes.get(token());
            at++;
            String target = "";
            for (char part : shape.toCharArray()) {
                if (part == 't') {
                    if (!isRegister()) {
                        throw stop();
                    }
                    if (own.contains(token())) {
                        note(3);
                    }
                    target = token();
                    at++;
                } else if (part == 'n') {
                    if (!isName()) {
                        throw stop();
                    }
                    if (!names.contains(token())) {
                        note(4);
                    }
                    at++;
                } else if (isRegister()) {
                    if (!own.contains(token())) {
                        note(4);
                    }
                    at++;
                } else {
                    value();
                }
            }
            take(";");
            own.add(target);
        }
    }

    private void condition(int around) throws Stop {
        conjunction(around);
        while (token().equals("or")) {
            at++;
            conjunction(around);
        }
    }

    private void conjunction(int around) throws Stop {
        unit(around);
        while (token().equals("and")) {
            at++;
            unit(around);
        }
    }

    private void unit(int around) throws Stop {
        units++;
        if (around > 4 || units > 17 - 1) {
            note(5);
        }
        if (token().equals("not")) {
            at++;
            unit(around + 1);
        } else if (token().equals("(")) {
            at++;
            condition(around + 1);
            take(")");
        } else {
            comparison();
            take("=", "<");
            value();
        }
    }

    private void comparison() throws Stop {
        if (isNumber()) {
            int thread = Integer.parseInt(token());
            if (thread >= targets.size()) {
                note(2);
            }
            at++;
            take(":");
            if (!isRegister()) {
                throw stop();
            }
            if (thread >= targets.size() || !targets.get(thread).contains(token())) {
                note(4);
            }
            at++;
        } else if (isName()) {
            if (!names.contains(token())) {
                note(4);
            }
            at++;
        } else {
            throw stop();
        }
    }
}
