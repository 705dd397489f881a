import java.util.ArrayList;
import java.util.List;
import java.util.regex.Matcher;
import java.util.regex.Pattern;

/** Reads an ORDER for Plain: first all TOKENS, then a tree. */
final class PlainOrder {
    private static final class Fault extends Exception {
        private static final long serialVersionUID = 1L;
        final int code;

        Fault(int code) {
            this.code = code;
        }
    }

    private record Token(String text, int start) {
    }

    private static final Pattern TOKEN = Pattern.compile("[a-z]+|[0-9]+|[()<=+*;-]|[^ \n]");

    private final Plain plain;
    private final List<Token> tokens = new ArrayList<>();
    private int at = 0;
    final List<Plain.Line> lines = new ArrayList<>();

    PlainOrder(Plain plain, String text) {
        this.plain = plain;
        Matcher m = TOKEN.matcher(text);
        while (m.find()) {
            String t = m.group();
            boolean none = t.matches("[a-z]{9,}|[0-9]{5,}");
            tokens.add(new Token(none ? "?" : t, m.start()));
        }
        tokens.add(new Token("", text.length()));
    }

    int read() {
        try {
            while (!peek("")) {
                line();
            }
            return 0;
        } catch (Fault f) {
            return f.code;
        }
    }

    private boolean peek(String t) {
        return tokens.get(at).text.equals(t);
    }

    private String now() {
        return tokens.get(at).text;
    }

    private Fault fault(int kind) {
        return new Fault(kind + 16 * tokens.get(at).start);
    }

    private void want(String t) throws Fault {
        if (!peek(t)) {
            throw fault(1);
        }
        at++;
    }

    private void line() throws Fault {
        String deed = now();
        if (!List.of("out", "hack", "put", "mend").contains(deed)) {
            throw fault(1);
        }
        if (lines.size() == 12) {
            throw fault(5);
        }
        at++;
        if (!now().matches("[0-9]+")) {
            throw fault(1);
        }
        int n = Integer.parseInt(now());
        if (n > 7) {
            throw fault(4);
        }
        if (plain.names[n] == null) {
            throw fault(2);
        }
        at++;
        want("when");
        Plain.Expr e = expr(0);
        want(";");
        lines.add(new Plain.Line(deed, n, e));
    }

    private static int bit(boolean b) {
        return b ? 1 : 0;
    }

    private Plain.Expr expr(int depth) throws Fault {
        Plain.Expr left = test(depth);
        while (peek("and") || peek("or")) {
            boolean and = peek("and");
            at++;
            Plain.Expr l = left;
            Plain.Expr r = test(depth);
            left = (p, i, c) -> {
                boolean a = l.of(p, i, c) != 0;
                boolean b = r.of(p, i, c) != 0;
                return bit(and ? a && b : a || b);
            };
        }
        return left;
    }

    private Plain.Expr test(int depth) throws Fault {
        Plain.Expr l = sum(depth);
        if (peek("<")) {
            at++;
            Plain.Expr r = sum(depth);
            return (p, i, c) -> bit(l.of(p, i, c) < r.of(p, i, c));
        }
        if (peek("=")) {
            at++;
            Plain.Expr r = sum(depth);
            return (p, i, c) -> bit(l.of(p, i, c) == r.of(p, i, c));
        }
        return l;
    }

    private Plain.Expr sum(int depth) throws Fault {
        Plain.Expr left = product(depth);
        while (peek("+") || peek("-")) {
            int sign = peek("+") ? 1 : -1;
            at++;
            Plain.Expr l = left;
            Plain.Expr r = product(depth);
            left = (p, i, c) -> l.of(p, i, c) + sign * r.of(p, i, c);
        }
        return left;
    }

    private Plain.Expr product(int depth) throws Fault {
        Plain.Expr left = part(depth);
        while (peek("*")) {
            at++;
            Plain.Expr l = left;
            Plain.Expr r = part(depth);
            left = (p, i, c) -> l.of(p, i, c) * r.of(p, i, c);
        }
        return left;
    }

    private Plain.Expr part(int depth) throws Fault {
        String t = now();
        boolean number = t.matches("[0-9]+");
        boolean fact = List.of("height", "space", "sort", "width", "place", "cuts", "stands").contains(t);
        if (!number && !fact && !t.equals("not") && !t.equals("(")) {
            throw fault(1);
        }
        if (depth >= 5) {
            throw fault(5);
        }
        at++;
        if (number) {
            int value = Integer.parseInt(t);
            return (p, i, c) -> value;
        }
        if (t.equals("not")) {
            Plain.Expr e = part(depth + 1);
            return (p, i, c) -> bit(e.of(p, i, c) == 0);
        }
        if (t.equals("(")) {
            Plain.Expr e = expr(depth + 1);
            want(")");
            return e;
        }
        return (p, i, c) -> fact(t, p, i, c);
    }

    private static int fact(String t, Plain p, int i, List<Plain.Cut> cuts) {
        int standing = Plain.standing(cuts);
        return switch (t) {
            case "height" -> p.places[i].height();
            case "space" -> p.places[i].space();
            case "sort" -> p.places[i].sort();
            case "width" -> standing == -1 ? 0 : p.names[standing].width();
            case "place" -> i;
            case "cuts" -> cuts.size();
            default -> standing == -1 ? 99 : standing;
        };
    }
}
