import java.util.ArrayList;
import java.util.List;
import java.util.Map;
import java.util.regex.Matcher;
import java.util.regex.Pattern;

/** Reads a TEXT by a table of its LINES; what stands there is cut into TOKENS ahead. */
final class TextReader {
    private static final Pattern TOKEN = Pattern.compile("[a-z]+|[0-9]+|;|[^ \n]");
    private static final Map<String, String> LINES = Map.of("sounds", "W", "open", "W", "like", "W W",
            "word", "W use N kind N", "never", "N N", "last", "N", "shape", "W");

    int faultKind = 0;
    int faultPlace = -1;
    private final Model.Told told = new Model.Told();
    private final List<String> tokens = new ArrayList<>();
    private final List<Integer> places = new ArrayList<>();

    TextReader(String text) {
        Matcher m = TOKEN.matcher(text);
        while (m.find()) {
            tokens.add(m.group());
            places.add(m.start());
        }
        tokens.add("");
        places.add(text.length());
    }

    /** THE TONGUE, or null with a FAULT. */
    Model.Told read() {
        int at = 0;
        while (!tokens.get(at).isEmpty()) {
            String name = tokens.get(at);
            if (fails(at, faultOfName(name))) {
                return null;
            }
            String[] parts = LINES.get(name).split(" ");
            List<String> got = new ArrayList<>();
            for (String part : parts) {
                at++;
                if (fails(at, faultOfPart(part, name, got, tokens.get(at)))) {
                    return null;
                }
                got.add(tokens.get(at));
            }
            at++;
            String sign = tokens.get(at);
            if (fails(at, isNoToken(sign) ? 1 : sign.equals(";") ? 0 : 2)) {
                return null;
            }
            tell(name, got);
            told.lines++;
            at++;
        }
        return told;
    }

    private boolean fails(int at, int kind) {
        if (kind != 0) {
            faultKind = kind;
            faultPlace = places.get(at);
        }
        return kind != 0;
    }

    private static boolean isNoToken(String token) {
        return !token.isEmpty() && !token.matches("[a-z]+|[0-9]{1,3}|;");
    }

    private int faultOfName(String name) {
        if (isNoToken(name)) {
            return 1;
        }
        boolean needsSounds = List.of("open", "like", "word", "shape").contains(name);
        if (!LINES.containsKey(name) || needsSounds && told.o.sounds == 0) {
            return 2;
        }
        boolean oneMore = name.equals("sounds") && told.o.sounds > 0 || name.equals("word") && told.o.words.size() == 12
                || name.equals("shape") && told.o.shapes.size() == 6;
        return oneMore ? 4 : 0;
    }

    private int faultOfPart(String part, String name, List<String> got, String token) {
        if (isNoToken(token)) {
            return 1;
        }
        String form = part.equals("W") ? "[a-z]+" : part.equals("N") ? "[0-9]+" : part;
        if (!token.matches(form)) {
            return 2;
        }
        boolean can = true;
        if (part.equals("N")) {
            can = Integer.parseInt(token) <= (name.equals("word") && got.size() == 2 ? 99 : 3);
        } else if (part.equals("W")) {
            can = canBe(name, got, token);
        }
        return can ? 0 : 3;
    }

    private boolean canBe(String name, List<String> got, String w) {
        boolean noneTwice = w.chars().distinct().count() == w.length();
        boolean ofSounds = w.chars().allMatch(c -> told.letters.indexOf(c) >= 0);
        switch (name) {
            case "sounds": return w.length() >= 2 && w.length() <= 8 && noneTwice;
            case "open": return ofSounds && noneTwice;
            case "like": return w.length() == 1 && ofSounds && !got.contains(w);
            case "word": return w.length() <= 6 && ofSounds && told.o.find(spelt(w)) < 0;
            default: return w.matches("[os]{1,6}");
        }
    }

    private int[] spelt(String w) {
        return w.chars().map(told.letters::indexOf).toArray();
    }

    private void tell(String name, List<String> got) {
        Oracle o = told.o;
        switch (name) {
            case "sounds":
                told.letters = got.get(0);
                o.sounds = told.letters.length();
                break;
            case "open":
                for (int s = 0; s < o.sounds; s++) {
                    o.open[s] = got.get(0).indexOf(told.letters.charAt(s)) >= 0;
                }
                break;
            case "like":
                int a = told.letters.indexOf(got.get(0));
                int b = told.letters.indexOf(got.get(1));
                o.like[a][b] = true;
                o.like[b][a] = true;
                break;
            case "word":
                o.words.add(spelt(got.get(0)));
                o.uses.add(Integer.parseInt(got.get(2)));
                o.kinds.add(Integer.parseInt(got.get(4)));
                break;
            case "never":
                o.never[Integer.parseInt(got.get(0))][Integer.parseInt(got.get(1))] = true;
                break;
            case "last":
                o.notLast[Integer.parseInt(got.get(0))] = true;
                break;
            default:
                boolean[] shape = new boolean[got.get(0).length()];
                for (int i = 0; i < shape.length; i++) {
                    shape[i] = got.get(0).charAt(i) == 'o';
                }
                o.shapes.add(shape);
                break;
        }
    }
}
