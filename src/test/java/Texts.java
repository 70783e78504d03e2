import java.util.Random;

/** TEXTS: told to an object, and made by chance. */
final class Texts {
    private final Random chance;

    Texts(Random chance) {
        this.chance = chance;
    }

    /** The five numbers of the twenty bytes from the i-th on, blanks behind the end. */
    static int[] twenty(String text, int from) {
        int[] numbers = new int[5];
        for (int i = 0; i < 20; i++) {
            int sign = from + i < text.length() ? text.charAt(from + i) : ' ';
            numbers[i / 4] = numbers[i / 4] << 8 | sign;
        }
        return numbers;
    }

    /** Puts the text on the TAPE and has it read. */
    static int tell(MoveUp x, int k, String text) {
        put(x, text);
        return x.text(k);
    }

    static void put(MoveUp x, String text) {
        x.end(0);
        for (int i = 0; i < text.length(); i += 20) {
            int[] n = twenty(text, i);
            x.feed(n[0], n[1], n[2], n[3], n[4]);
        }
        x.end(text.length());
    }

    String text(int k) {
        String text = k == 2 ? day() : law(k);
        if (chance.nextInt(4) == 0) {
            text = marred(text);
        }
        return text.length() > 400 ? text.substring(0, 400) : text;
    }

    private String marred(String text) {
        StringBuilder s = new StringBuilder(text);
        String signs = ";+-*/()<=>.%?\n\t aAzZ09\u00e9\u0000{";
        for (int n = chance.nextInt(2); n >= 0 && s.length() > 0; n--) {
            int at = chance.nextInt(s.length());
            switch (chance.nextInt(5)) {
                case 0: s.deleteCharAt(at); break;
                case 1: s.insert(at, signs.charAt(chance.nextInt(signs.length()))); break;
                case 2: s.setCharAt(at, signs.charAt(chance.nextInt(signs.length()))); break;
                case 3: s.setLength(at); break;
                default: s.insert(at, word(chance.nextInt(3)) + " ");
            }
        }
        return s.toString();
    }

    private String word(int k) {
        String[] words = {"sit", "cost", "when", "or", "and", "not", "come", "go", "beg", "at", "moved", "left", "si",
            "sits", "12345", "1000", "0", "/0", "/ 00", "(", "not(", "hour", "Wide"};
        return words[chance.nextInt(words.length)];
    }

    private String gap() {
        int n = chance.nextInt(12);
        return n == 0 ? "\n" : n == 1 ? "  " : " ";
    }

    private String tight() {
        return chance.nextInt(6) == 0 ? gap() : "";
    }

    String law(int k) {
        StringBuilder s = new StringBuilder();
        int lines = chance.nextInt(12) == 0 ? 14 + chance.nextInt(5) : 1 + chance.nextInt(4);
        boolean brief = lines > 10;
        for (int i = 0; i < lines; i++) {
            s.append(k == 0 ? "sit" : "cost").append(gap()).append(brief ? unit(k) : sum(k));
            if (brief || i < lines - 1 ? chance.nextInt(8) > 0 : chance.nextInt(3) == 0) {
                s.append(gap()).append("when").append(gap());
                s.append(brief ? unit(k) + "=" + unit(k) : claims(k, 0));
            }
            s.append(tight()).append(";").append(tight());
        }
        return s.toString();
    }

    private String claims(int k, int deep) {
        StringBuilder s = new StringBuilder(claim(k, deep));
        while (chance.nextInt(3) == 0) {
            s.append(gap()).append(chance.nextBoolean() ? "or" : "and").append(gap()).append(claim(k, deep));
        }
        return s.toString();
    }

    private String claim(int k, int deep) {
        int kind = chance.nextInt(deep > 9 ? 3 : 6);
        if (kind == 4) {
            return "not " + claim(k, deep + 1);
        }
        if (kind == 5) {
            return "(" + tight() + claims(k, deep + 1) + tight() + ")";
        }
        String sign = "<=>".substring(chance.nextInt(3)).substring(0, 1);
        return sum(k) + tight() + sign + tight() + sum(k);
    }

    private String sum(int k) {
        StringBuilder s = new StringBuilder(product(k));
        while (chance.nextInt(3) == 0) {
            s.append(tight()).append(chance.nextBoolean() ? "+" : "-").append(tight()).append(product(k));
        }
        return s.toString();
    }

    private String product(int k) {
        StringBuilder s = new StringBuilder(unit(k));
        while (chance.nextInt(4) == 0) {
            if (chance.nextBoolean()) {
                s.append(tight()).append("*").append(tight()).append(unit(k));
            } else {
                s.append(tight()).append("/").append(tight()).append(1 + chance.nextInt(9));
            }
        }
        return s.toString();
    }

    private String unit(int k) {
        String[] sits = {"wide", "keep", "bag", "group", "hour", "at", "left", "right", "warm", "friends", "sitting"};
        String[] moves = {"wide", "keep", "bag", "group", "hour", "moved"};
        if (chance.nextInt(3) == 0) {
            int n = chance.nextInt(8);
            return Integer.toString(n == 0 ? chance.nextInt(10000) : n < 3 ? chance.nextInt(60) : chance.nextInt(8));
        }
        String[] words = k == 0 ? sits : moves;
        return k == 1 && chance.nextInt(3) == 0 ? "moved" : words[chance.nextInt(words.length)];
    }

    String day() {
        StringBuilder s = new StringBuilder();
        int lines = chance.nextInt(5) == 0 ? 20 + chance.nextInt(6) : 1 + chance.nextInt(8);
        int late = chance.nextInt(3) == 0 ? 1000 : 12;
        for (int i = 0; i < lines; i++) {
            s.append(new String[] {"come", "go", "beg"}[chance.nextInt(3)]).append(gap());
            s.append(chance.nextInt(40) == 0 ? chance.nextInt(12) : chance.nextInt(5)).append(gap()).append("at").append(gap());
            s.append(chance.nextInt(60) == 0 ? 995 + chance.nextInt(8) : chance.nextInt(late));
            s.append(tight()).append(";").append(tight());
        }
        return s.toString();
    }
}
