import java.util.ArrayList;
import java.util.List;
import java.util.function.ToIntFunction;
import java.util.regex.Matcher;
import java.util.regex.Pattern;

/** Reads a text into functions, a token at a time as it goes along. */
final class ModelReader {
    private static final Pattern TOKEN = Pattern.compile("[a-z]+|[0-9]+|[();+*<=-]");
    private static final List<String> WORDS =
        List.of("goals", "made", "won", "cards", "kind", "late", "win", "draw", "like", "ban", "or", "and", "not");

    private final String all;
    private int place;
    private String token;

    ModelReader(String all) {
        this.all = all;
        next(0);
    }

    private void next(int from) {
        place = from;
        while (place < all.length() && (all.charAt(place) == ' ' || all.charAt(place) == '\n')) place++;
        Matcher m = TOKEN.matcher(all).region(place, all.length());
        token = place == all.length() ? "end" : m.lookingAt() ? m.group() : "fault";
        boolean letters = token.charAt(0) >= 'a' && !token.equals("end") && !token.equals("fault");
        if (letters && !WORDS.contains(token)) token = "fault";
        if (Character.isDigit(token.charAt(0)) && token.length() > 4) token = "fault";
        if (place < all.length() && all.startsWith("end", place)) token = "fault";
    }

    private ModelOffice.Fault fault() {
        return new ModelOffice.Fault(place);
    }

    private String step() {
        String was = token;
        next(place + was.length());
        return was;
    }

    private boolean at(String... tokens) {
        return List.of(tokens).contains(token);
    }

    private void skip(String wanted) {
        if (!at(wanted)) throw fault();
        step();
    }

    ModelOffice.Text read() {
        List<ToIntFunction<ModelOffice.Asked>> parts = new ArrayList<>();
        for (String key : List.of("win", "draw", "like", "ban")) {
            skip(key);
            parts.add(e(0));
            skip(";");
        }
        if (!at("end")) throw fault();
        return new ModelOffice.Text(parts);
    }

    private ToIntFunction<ModelOffice.Asked> e(int open) {
        ToIntFunction<ModelOffice.Asked> left = and(open);
        while (at("or")) {
            step();
            ToIntFunction<ModelOffice.Asked> a = left, b = and(open);
            left = x -> a.applyAsInt(x) != 0 | b.applyAsInt(x) != 0 ? 1 : 0;
        }
        return left;
    }

    private ToIntFunction<ModelOffice.Asked> and(int open) {
        ToIntFunction<ModelOffice.Asked> left = not(open);
        while (at("and")) {
            step();
            ToIntFunction<ModelOffice.Asked> a = left, b = not(open);
            left = x -> a.applyAsInt(x) != 0 & b.applyAsInt(x) != 0 ? 1 : 0;
        }
        return left;
    }

    private ToIntFunction<ModelOffice.Asked> not(int open) {
        if (at("not")) {
            if (open == 5) throw fault();
            step();
            ToIntFunction<ModelOffice.Asked> a = not(open + 1);
            return x -> a.applyAsInt(x) == 0 ? 1 : 0;
        }
        ToIntFunction<ModelOffice.Asked> a = sum(open);
        if (!at("<", "=")) return a;
        boolean less = step().equals("<");
        ToIntFunction<ModelOffice.Asked> b = sum(open);
        return less ? x -> a.applyAsInt(x) < b.applyAsInt(x) ? 1 : 0 : x -> a.applyAsInt(x) == b.applyAsInt(x) ? 1 : 0;
    }

    private ToIntFunction<ModelOffice.Asked> sum(int open) {
        ToIntFunction<ModelOffice.Asked> left = term(open);
        while (at("+", "-")) {
            int sign = step().equals("+") ? 1 : -1;
            ToIntFunction<ModelOffice.Asked> a = left, b = term(open);
            left = x -> a.applyAsInt(x) + sign * b.applyAsInt(x);
        }
        return left;
    }

    private ToIntFunction<ModelOffice.Asked> term(int open) {
        ToIntFunction<ModelOffice.Asked> left = one(open);
        while (at("*")) {
            step();
            ToIntFunction<ModelOffice.Asked> a = left, b = one(open);
            left = x -> a.applyAsInt(x) * b.applyAsInt(x);
        }
        return left;
    }

    private ToIntFunction<ModelOffice.Asked> one(int open) {
        if (Character.isDigit(token.charAt(0))) {
            int v = Integer.parseInt(step());
            return x -> v;
        }
        if (at("(")) {
            if (open == 5) throw fault();
            step();
            ToIntFunction<ModelOffice.Asked> a = e(open + 1);
            skip(")");
            return a;
        }
        if (at("-")) {
            if (open == 5) throw fault();
            step();
            ToIntFunction<ModelOffice.Asked> a = one(open + 1);
            return x -> -a.applyAsInt(x);
        }
        if (WORDS.indexOf(token) < 0 || WORDS.indexOf(token) > 5) throw fault();
        switch (step()) {
            case "goals": return ModelOffice.Asked::goals;
            case "made": return ModelOffice.Asked::made;
            case "won": return ModelOffice.Asked::won;
            case "cards": return ModelOffice.Asked::cards;
            case "kind": return ModelOffice.Asked::kind;
            default: return ModelOffice.Asked::late;
        }
    }
}
