import java.util.Random;

/** Random descriptions: most of them right, some with something broken. */
final class Texts {
    private Texts() {
    }

    static String random(Random r) {
        String text = right(r);
        int broken = r.nextInt(10);
        if (broken == 0) {
            text = text.substring(0, r.nextInt(text.length() + 1));
        } else if (broken == 1) {
            int at = r.nextInt(text.length());
            text = text.substring(0, at) + glyph(r) + text.substring(at + r.nextInt(2));
        } else if (broken == 2) {
            text = wild(r);
        }
        return text;
    }

    private static String glyph(Random r) {
        String[] glyphs = {";", " ", "x", "9", "0", "00", "product ", "order ", "-", "A", "\u00e9",
            ";;", "99999999999", ";rope 5", ";auto 2", ";setup 9 1", ";stations 1 0", "\n", ";product"};
        return glyphs[r.nextInt(glyphs.length)];
    }

    /** A list of statements that knows nothing of limits. */
    private static String wild(Random r) {
        StringBuilder b = new StringBuilder("stations " + (1 + r.nextInt(7)) + " " + r.nextInt(3));
        String[] words = {"order", "product", "rope", "buffers", "rule", "auto", "setup", "stations"};
        int count = r.nextInt(40);
        for (int i = 0; i < count; i++) {
            b.append(";").append(words[r.nextInt(r.nextInt(3) == 0 ? 8 : 2)]);
            int numbers = r.nextInt(10) == 0 ? r.nextInt(16) : 2 * r.nextInt(3) + 1;
            for (int k = 0; k < numbers; k++) {
                b.append(" ").append(r.nextInt(r.nextInt(4) == 0 ? 60 : 3));
            }
        }
        return b.length() > 720 ? b.substring(0, 720) : b.toString();
    }

    private static String right(Random r) {
        int stations = 1 + r.nextInt(6);
        int drum = r.nextInt(stations);
        StringBuilder b = new StringBuilder("stations " + stations + " " + drum);
        if (r.nextInt(4) > 0) {
            int most = r.nextInt(4) == 0 ? 500 : 40;
            b.append(";buffers ").append(1 + r.nextInt(most)).append(" ").append(1 + r.nextInt(most));
        }
        int rope = r.nextInt(3) == 0 ? 5000 : 40 + r.nextInt(200);
        b.append(";rope ").append(rope).append(";rule ").append(r.nextInt(4));
        b.append(r.nextBoolean() ? ";auto " + r.nextInt(2) : "");
        int setups = r.nextInt(3);
        for (int i = 0; i < setups; i++) {
            b.append(";setup ").append(r.nextInt(stations)).append(" ").append(r.nextInt(9));
        }
        int products = r.nextInt(12) == 0 ? 0 : 1 + r.nextInt(6);
        for (int i = 0; i < products; i++) {
            b.append(product(r, stations, drum));
        }
        int orders = products == 0 ? 0 : r.nextInt(r.nextInt(4) == 0 ? 25 : 9);
        for (int i = 0; i < orders && b.length() < 680; i++) {
            int due = r.nextInt(r.nextInt(4) == 0 ? 3000 : 300);
            int quantity = 1 + r.nextInt(rope == 5000 ? 50 : 8);
            b.append(";order ").append(r.nextInt(products)).append(" ").append(quantity);
            b.append(" ").append(due);
        }
        return b.toString();
    }

    private static String product(Random r, int stations, int drum) {
        int steps = 1 + r.nextInt(6);
        int atDrum = r.nextInt(steps);
        StringBuilder b = new StringBuilder(";product");
        for (int k = 0; k < steps; k++) {
            int station = k == atDrum || stations == 1 ? drum : (drum + 1 + r.nextInt(stations - 1)) % stations;
            if (k == atDrum || stations > 1) {
                b.append(" ").append(station).append(" ").append(1 + r.nextInt(r.nextInt(4) == 0 ? 20 : 5));
            }
        }
        return b.toString();
    }
}
