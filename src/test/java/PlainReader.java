import java.math.BigInteger;
import java.util.ArrayList;
import java.util.List;

/** The oracle's reader of descriptions: the text is cut into tokens first. */
final class PlainReader {
    private record Token(String text, int at, int statement) {
        boolean isNumber() {
            return !text.isEmpty() && Character.isDigit(text.charAt(0)) && text.charAt(0) < 128;
        }
    }

    private static final class Fault extends Exception {
        private static final long serialVersionUID = 1;
        final int kind;
        final int at;
        final int statement;

        Fault(int kind, Token token) {
            this(kind, token.at, token.statement);
        }

        Fault(int kind, int at, int statement) {
            this.kind = kind;
            this.at = at;
            this.statement = statement;
        }
    }

    final PlainShop.World world = new PlainShop.World();
    int error = 0;
    int errorAt = 0;
    int errorStatement = -1;

    private final List<Token> tokens = new ArrayList<>();
    private int next = 0;

    PlainReader(String text) {
        cut(text);
        try {
            read(text.length());
        } catch (Fault f) {
            error = f.kind;
            errorAt = f.at;
            errorStatement = f.statement;
        }
    }

    /** Words, numbers, and all other bytes but spaces one by one; an empty token ends the list. */
    private void cut(String text) {
        int statement = 0;
        int i = 0;
        while (i < text.length()) {
            int end = i + 1;
            for (String kind : new String[] {"[a-z]", "[0-9]"}) {
                while (text.substring(i, i + 1).matches(kind) && end < text.length()
                        && text.substring(end, end + 1).matches(kind)) {
                    end++;
                }
            }
            if (text.charAt(i) != ' ') {
                tokens.add(new Token(text.substring(i, end), i, statement));
            }
            if (text.charAt(i) == ';') {
                statement++;
            }
            i = end;
        }
        tokens.add(new Token("", text.length(), statement));
    }

    private Token peek() {
        return tokens.get(next);
    }

    private int number(int low, int high) throws Fault {
        Token token = peek();
        if (!token.isNumber()) {
            throw new Fault(1, token);
        }
        BigInteger value = new BigInteger(token.text);
        if (value.compareTo(BigInteger.valueOf(low)) < 0
                || value.compareTo(BigInteger.valueOf(high)) > 0) {
            throw new Fault(2, token);
        }
        next++;
        return value.intValue();
    }

    private void read(int length) throws Fault {
        List<Integer> statements = new ArrayList<>();
        if (!peek().text.equals("stations")) {
            throw new Fault(1, peek());
        }
        next++;
        world.stations = number(1, 6);
        world.drum = number(0, world.stations - 1);
        while (!peek().text.isEmpty()) {
            if (!peek().text.equals(";")) {
                throw new Fault(1, peek());
            }
            next++;
            statement(statements);
        }
        for (int i = 0; i < world.orders.size(); i++) {
            if (world.drumWork(world.orders.get(i)) > world.rope) {
                throw new Fault(5, length, statements.get(i));
            }
        }
    }

    private void statement(List<Integer> statements) throws Fault {
        Token word = peek();
        next++;
        if (word.text.equals("buffers")) {
            world.buffer = number(1, 500);
            world.shipping = number(1, 500);
        } else if (word.text.equals("rope")) {
            world.rope = number(1, 5000);
        } else if (word.text.equals("rule")) {
            world.rule = number(0, 3);
        } else if (word.text.equals("auto")) {
            world.auto = number(0, 1);
        } else if (word.text.equals("setup")) {
            int station = number(0, world.stations - 1);
            world.setup[station] = number(0, 50);
        } else if (word.text.equals("product")) {
            product(word);
        } else if (word.text.equals("order")) {
            if (world.orders.size() == 24) {
                throw new Fault(4, word);
            }
            PlainShop.Order o = new PlainShop.Order();
            o.product = number(0, world.products.size() - 1);
            o.quantity = number(1, 50);
            o.due = number(0, 30000);
            world.orders.add(o);
            statements.add(word.statement);
        } else {
            throw new Fault(1, word);
        }
    }

    private void product(Token word) throws Fault {
        if (world.products.size() == 6) {
            throw new Fault(4, word);
        }
        List<Integer> list = new ArrayList<>();
        boolean hasDrum = false;
        do {
            Token first = peek();
            int station = number(0, world.stations - 1);
            if (station == world.drum && hasDrum) {
                throw new Fault(3, first);
            }
            if (list.size() == 12) {
                throw new Fault(4, first);
            }
            hasDrum |= station == world.drum;
            list.add(station);
            list.add(number(1, 20));
        } while (peek().isNumber());
        if (!hasDrum) {
            throw new Fault(3, peek());
        }
        world.products.add(list.stream().mapToInt(i -> i).toArray());
    }
}
