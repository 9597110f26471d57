import java.util.Random;

/** Random runs of up to 512 calls, each answer compared with the model's. */
public final class ModelTest {
    private static final Check CHECK = new Check("ModelTest");
    private static final String[] NAMES =
        {"hour", "pitch", "farm", "ear", "own", "far", "yoked", "ox", "strength", "weaker", "soil"};

    private final Random random;
    private final OxenHome home = new OxenHome();
    private final Model model = new Model();
    private final int shy;
    private int calls;

    private ModelTest(long seed) {
        random = new Random(seed);
        // How rarely an argument is out of its range.
        shy = random.nextInt(60) + 3;
    }

    public static void main(String[] args) {
        int runs = args.length > 0 ? Integer.parseInt(args[0]) : 600;
        for (int seed = 0; seed < runs; seed++) {
            new ModelTest(seed).run(seed);
        }
        CHECK.close();
    }

    private void run(int seed) {
        int farms = random.nextInt(6);
        int fields = random.nextInt(5);
        int oxen = random.nextInt(9);
        for (int i = 0; i < farms; i++) {
            farm();
        }
        for (int i = 0; i < fields; i++) {
            field();
        }
        for (int i = 0; i < oxen; i++) {
            ox();
        }
        if (random.nextBoolean()) {
            tellText();
            same("by 0", home.by(0), model.by(0));
        }
        int heavy = 6;
        while (calls < 480) {
            int kind = random.nextInt(100);
            if (kind < 60) {
                step();
            } else if (kind < 70) {
                tell();
            } else if (kind < 75) {
                tellText();
            } else if (kind < 95) {
                ask();
            } else if (heavy > 0) {
                heavy--;
                apart();
            }
        }
    }

    private int number(int low, int high) {
        if (random.nextInt(shy) == 0) {
            int[] odd = {low - 1, high + 1, low - 2, high + 2, -1, 0, Integer.MIN_VALUE, Integer.MAX_VALUE,
                random.nextInt()};
            return odd[random.nextInt(odd.length)];
        }
        return high < low ? low : low + random.nextInt(high - low + 1);
    }

    private int oxNumber() {
        return number(0, Math.max(0, model.now.oxen.size() - 1));
    }

    private int farmNumber() {
        return number(0, Math.max(0, model.now.farms.size() - 1));
    }

    private int fieldNumber() {
        return number(0, Math.max(0, model.now.fields.size() - 1));
    }

    private void same(String what, long got, long due) {
        calls++;
        CHECK.due(what, got, due);
    }

    private void same(String what, boolean got, boolean due) {
        same(what, got ? 1 : 0, due ? 1 : 0);
    }

    private void farm() {
        int x = number(0, 19);
        int y = number(0, 19);
        int pitch = number(0, 9);
        same("farm", home.farm(x, y, pitch), model.farm(x, y, pitch));
    }

    private void field() {
        int x = number(0, 19);
        int y = number(0, 19);
        int soil = number(0, 9);
        int furrows = number(0, 99);
        same("field", home.field(x, y, soil, furrows), model.field(x, y, soil, furrows));
    }

    private void ox() {
        int farm = farmNumber();
        int second = random.nextInt(3) == 0 ? -1 : farmNumber();
        int strength = number(1, 9);
        int ear = number(0, 9);
        same("ox", home.ox(farm, second, strength, ear), model.ox(farm, second, strength, ear));
    }

    private void tell() {
        switch (random.nextInt(9)) {
            case 0 -> farm();
            case 1 -> field();
            case 2 -> ox();
            case 3, 4, 5 -> {
                int hour = number(0, 23);
                int farm = farmNumber();
                same("call", home.call(hour, farm), model.call(hour, farm));
            }
            case 6 -> {
                if (random.nextInt(3) == 0) {
                    same("hush", home.hush(), model.hush());
                }
            }
            case 7 -> same("image", home.image(), model.image());
            default -> {
                if (random.nextInt(2) == 0) {
                    same("back", home.back(), model.back());
                }
            }
        }
    }

    private void step() {
        int ox = oxNumber();
        int farm = farmNumber();
        switch (random.nextInt(12)) {
            case 0, 1, 2, 3 -> {
                int other = oxNumber();
                int field = fieldNumber();
                same("yoke", home.yoke(ox, other, field), model.yoke(ox, other, field));
            }
            case 4 -> same("loose", home.loose(ox), model.loose(ox));
            case 5 -> same("drive", home.drive(ox, farm), model.drive(ox, farm));
            case 6 -> same("sell", home.sell(ox, farm), model.sell(ox, farm));
            case 7, 8 -> same("whistle", home.whistle(farm), model.whistle(farm));
            case 9 -> same("plough", home.plough(), model.plough());
            case 10 -> same("night", home.night(), model.night());
            default -> {
                for (int i = random.nextInt(6) == 0 ? 21 : random.nextInt(3); i > 0; i--) {
                    same("undo", home.undo(), model.undo());
                }
            }
        }
    }

    private void ask() {
        int ox = oxNumber();
        int field = fieldNumber();
        int farm = farmNumber();
        int n = number(1, 24);
        switch (random.nextInt(12)) {
            case 0, 1 -> {
                int what = number(0, 7);
                same("of", home.of(ox, what), model.of(ox, what));
            }
            case 2, 3 -> {
                int what = number(0, 24);
                same("about", home.about(what), model.about(what));
            }
            case 4 -> {
                int pitch = number(0, 9);
                boolean yoked = random.nextBoolean();
                same("heeds", home.heeds(ox, farm, pitch, field, yoked), model.heeds(ox, farm, pitch, field, yoked));
            }
            case 5, 6 -> {
                int other = oxNumber();
                boolean done = random.nextBoolean();
                same("stay", home.stay(ox, other, field, n, done), model.stay(ox, other, field, n, done));
            }
            case 7 -> {
                same("plan", home.plan(n, -1), model.plan(n, -1));
                for (int i = -2; i < 5; i++) {
                    same("plan " + i, home.plan(n, i), model.plan(n, i));
                }
            }
            case 8 -> same("longest", home.longest(field, n), model.longest(field, n));
            case 9, 10 -> dark(field, farm);
            default -> {
                int seed = number(0, 9999);
                int times = number(1, 99);
                same("thunder", home.thunder(seed, times), model.thunder(seed, times));
            }
        }
    }

    private void dark(int field, int farm) {
        int hour = number(0, 23);
        int set = number(0, (1 << model.now.oxen.size()) - 1);
        int went = random.nextInt(shy) == 0 ? number(-5, 260) : set & random.nextInt(256);
        for (int what = 0; what <= 1; what++) {
            same("dark", home.dark(field, hour, set, went, farm, what),
                model.dark(field, hour, set, went, farm, what));
        }
        int what = number(0, 1);
        same("dark", home.dark(field, hour, set, went, farm, what), model.dark(field, hour, set, went, farm, what));
    }

    private void apart() {
        int d = number(0, 9);
        int field = fieldNumber();
        int farm = farmNumber();
        same("apart", home.apart(d, field, -1), model.apart(d, field, -1));
        same("apart of", home.apart(d, field, farm), model.apart(d, field, farm));
    }

    private void tellText() {
        String text = randomText();
        if (random.nextInt(3) == 0) {
            text = spoiled(text);
        }
        byte[] bytes = new byte[Math.min(300, text.length())];
        for (int i = 0; i < bytes.length; i++) {
            bytes[i] = (byte) text.charAt(i);
        }
        same("end", home.end(0), model.end(0));
        for (int from = 0; from < bytes.length; from += 20) {
            int[] words = new int[5];
            for (int i = 0; i < 20 && from + i < bytes.length; i++) {
                words[i / 4] |= (bytes[from + i] & 255) << 8 * (3 - i % 4);
            }
            same("feed", home.feed(words[0], words[1], words[2], words[3], words[4]), model.feed(words));
        }
        int length = random.nextInt(10) == 0 ? number(0, 300) : bytes.length;
        same("end", home.end(length), model.end(length));
        same("text " + text, home.text(), model.text());
        for (int what = -1; what <= 2; what++) {
            same("fault of " + text, home.fault(what), model.fault(what));
        }
        int ruling = number(-1, model.now.texts.size() - 1);
        same("by", home.by(ruling), model.by(ruling));
    }

    private String spoiled(String text) {
        StringBuilder made = new StringBuilder(text);
        String signs = "()-*/+<>=#; \nnot or 0123456789heeds!\u00ff\tA";
        for (int i = random.nextInt(3); i >= 0 && made.length() > 0; i--) {
            int at = random.nextInt(made.length());
            switch (random.nextInt(3)) {
                case 0 -> made.deleteCharAt(at);
                case 1 -> made.insert(at, signs.charAt(random.nextInt(signs.length())));
                default -> made.setCharAt(at, signs.charAt(random.nextInt(signs.length())));
            }
        }
        return made.toString();
    }

    private String randomText() {
        String[] clauses = {"heeds", "second", "slip", "calls", "work"};
        StringBuilder text = new StringBuilder();
        for (int i = random.nextInt(6); i > 0; i--) {
            int clause = random.nextInt(5);
            int budget = random.nextInt(4) + 1;
            text.append(clauses[clause]).append(random.nextInt(9) == 0 ? "\n" : " ");
            text.append(clause < 2 ? either(clause, budget) : sum(clause, budget)).append(';');
        }
        return text.toString();
    }

    private String either(int clause, int budget) {
        StringBuilder made = new StringBuilder();
        for (int i = random.nextInt(3); i >= 0; i--) {
            for (int j = random.nextInt(5) == 0 ? random.nextInt(9) : 0; j > 0; j--) {
                made.append("not ");
            }
            String[] how = {"<", "<=", ">", ">=", "=", "#"};
            made.append(sum(clause, budget)).append(how[random.nextInt(6)]).append(sum(clause, budget));
            made.append(i > 0 ? random.nextBoolean() ? " or " : " and " : "");
        }
        return made.toString();
    }

    private String sum(int clause, int budget) {
        String[] signs = {"+", "-", "*", "/"};
        StringBuilder made = new StringBuilder(one(clause, budget - 1));
        for (int i = random.nextInt(budget + 1); i > 0; i--) {
            made.append(signs[random.nextInt(4)]).append(one(clause, budget - 1));
        }
        return made.toString();
    }

    private String one(int clause, int budget) {
        int kind = random.nextInt(12);
        if (kind == 0 && budget > 0) {
            return "(" + sum(clause, budget) + ")";
        }
        if (kind == 1) {
            return "-".repeat(random.nextInt(20) == 0 ? random.nextInt(9) + 1 : 1) + one(clause, budget);
        }
        if (kind < 6) {
            return String.valueOf(random.nextInt(random.nextInt(6) == 0 ? 10010 : 12));
        }
        if (random.nextInt(60) == 0) {
            return NAMES[random.nextInt(NAMES.length)];
        }
        int[] mine = clause < 3 ? new int[] {0, 1, 2, 3, 4, 5, 6, 7, 8}
            : clause == 3 ? new int[] {0, 1, 2} : new int[] {0, 8, 9, 10};
        return NAMES[mine[random.nextInt(mine.length)]];
    }
}
