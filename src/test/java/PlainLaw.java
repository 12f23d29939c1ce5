import java.util.ArrayList;
import java.util.List;

/** The law by cutting texts at their signs: slow, and unlike the class's own way of reading. */
final class PlainLaw {
    static final int MOST_OPEN = 6;

    private PlainLaw() { }

    /** The fault of a text, or -1: a prefix goes on if some operand and some ')' end it well. */
    static int fault(String text) {
        for (int length = 1; length <= text.length(); length++) {
            if (!goesOn(text.substring(0, length))) {
                return length - 1;
            }
        }
        return isText(text) ? -1 : text.length();
    }

    static boolean goesOn(String prefix) {
        StringBuilder closing = new StringBuilder();
        for (int k = 0; k <= MOST_OPEN; k++) {
            if (isText(prefix + closing) || isText(prefix + "a" + closing)) {
                return true;
            }
            closing.append(')');
        }
        return false;
    }

    static boolean isText(String text) {
        for (String line : cut(text, ";")) {
            List<String> parts = cut(line, "?");
            if (parts.size() > 2) {
                return false;
            }
            for (String part : parts) {
                if (!isE(part, 0)) {
                    return false;
                }
            }
        }
        return true;
    }

    static boolean isE(String text, int open) {
        for (String a : cut(text, "|")) {
            for (String b : cut(a, "&")) {
                List<String> sides = cut(b, "<=>");
                if (sides.size() > 2) {
                    return false;
                }
                for (String s : sides) {
                    for (String p : cut(s, "+-")) {
                        for (String o : cut(p, "*/%")) {
                            if (!isO(o, open)) {
                                return false;
                            }
                        }
                    }
                }
            }
        }
        return true;
    }

    static boolean isO(String text, int open) {
        if (text.matches("[0-9]{1,4}|[adfwin]")) {
            return true;
        }
        if (text.isEmpty() || open >= MOST_OPEN) {
            return false;
        }
        if (text.charAt(0) == '!' || text.charAt(0) == '-') {
            return isO(text.substring(1), open + 1);
        }
        return text.charAt(0) == '(' && closesAtEnd(text) && isE(text.substring(1, text.length() - 1), open + 1);
    }

    static boolean closesAtEnd(String text) {
        int depth = 0;
        for (int i = 0; i < text.length(); i++) {
            depth += text.charAt(i) == '(' ? 1 : text.charAt(i) == ')' ? -1 : 0;
            if (depth == 0) {
                return i == text.length() - 1;
            }
        }
        return false;
    }

    /** The places of the signs outside brackets; a '-' joins only behind the end of an operand. */
    static List<Integer> placesOf(String text, String signs) {
        List<Integer> places = new ArrayList<>();
        int depth = 0;
        for (int i = 0; i < text.length(); i++) {
            char c = text.charAt(i);
            depth += c == '(' ? 1 : c == ')' ? -1 : 0;
            boolean behindOperand = i > 0 && "0123456789adfwin)".indexOf(text.charAt(i - 1)) >= 0;
            if (depth == 0 && signs.indexOf(c) >= 0 && (c != '-' || behindOperand)) {
                places.add(i);
            }
        }
        return places;
    }

    static List<String> cut(String text, String signs) {
        List<String> parts = new ArrayList<>();
        int from = 0;
        for (int at : placesOf(text, signs)) {
            parts.add(text.substring(from, at));
            from = at + 1;
        }
        parts.add(text.substring(from));
        return parts;
    }

    /** Of a text without a fault, by the values of the letters a d f w i n. */
    static int value(String text, int[] letters) {
        for (String line : cut(text, ";")) {
            List<String> parts = cut(line, "?");
            if (parts.size() == 1) {
                return valueOfE(parts.get(0), letters);
            }
            if (valueOfE(parts.get(0), letters) != 0) {
                return valueOfE(parts.get(1), letters);
            }
        }
        return 0;
    }

    static int valueOfE(String text, int[] letters) {
        for (String signs : new String[] {"|", "&", "<=>", "+-", "*/%"}) {
            List<Integer> places = placesOf(text, signs);
            if (!places.isEmpty()) {
                int at = places.get(places.size() - 1);
                int left = valueOfE(text.substring(0, at), letters);
                int right = valueOfE(text.substring(at + 1), letters);
                return joined(text.charAt(at), left, right);
            }
        }
        char first = text.charAt(0);
        if (first == '!') {
            return valueOfE(text.substring(1), letters) == 0 ? 1 : 0;
        }
        if (first == '-') {
            return -valueOfE(text.substring(1), letters);
        }
        if (first == '(') {
            return valueOfE(text.substring(1, text.length() - 1), letters);
        }
        int letter = "adfwin".indexOf(first);
        return letter >= 0 ? letters[letter] : Integer.parseInt(text);
    }

    static int joined(char sign, int left, int right) {
        switch (sign) {
            case '|': return left != 0 | right != 0 ? 1 : 0;
            case '&': return left != 0 & right != 0 ? 1 : 0;
            case '<': return left < right ? 1 : 0;
            case '=': return left == right ? 1 : 0;
            case '>': return left > right ? 1 : 0;
            case '+': return left + right;
            case '-': return left - right;
            case '*': return left * right;
            case '/': return right == 0 ? 0 : (int) ((long) left / right);
            default: return right == 0 ? 0 : (int) ((long) left % right);
        }
    }
}
