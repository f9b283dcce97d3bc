import java.util.List;
import java.util.Random;

/** An expression of a rule: its text and its value; and how to make one at random. */
interface Expression {
    String text();

    int value(int here, int stroke, int place, int dogs);

    record Number(int number) implements Expression {
        public String text() {
            return "" + number;
        }

        public int value(int here, int stroke, int place, int dogs) {
            return number;
        }
    }

    record Named(int which) implements Expression {
        public String text() {
            return List.of("here", "stroke", "place", "dogs").get(which);
        }

        public int value(int here, int stroke, int place, int dogs) {
            return which == 0 ? here : which == 1 ? stroke : which == 2 ? place : dogs;
        }
    }

    record Not(Expression part) implements Expression {
        public String text() {
            return "not " + part.text();
        }

        public int value(int here, int stroke, int place, int dogs) {
            return part.value(here, stroke, place, dogs) == 0 ? 1 : 0;
        }
    }

    record Both(String sign, Expression left, Expression right) implements Expression {
        public String text() {
            return left.text() + " " + sign + " " + right.text();
        }

        public int value(int here, int stroke, int place, int dogs) {
            int a = left.value(here, stroke, place, dogs);
            int b = right.value(here, stroke, place, dogs);
            return switch (sign) {
                case "or" -> a != 0 || b != 0 ? 1 : 0;
                case "and" -> a != 0 && b != 0 ? 1 : 0;
                case "<" -> a < b ? 1 : 0;
                case ">" -> a > b ? 1 : 0;
                case "=" -> a == b ? 1 : 0;
                case "+" -> a + b;
                case "-" -> a - b;
                case "*" -> a * b;
                default -> b == 0 ? 0 : a / b;
            };
        }
    }

    record Wrapped(Expression part) implements Expression {
        public String text() {
            return "(" + part.text() + ")";
        }

        public int value(int here, int stroke, int place, int dogs) {
            return part.value(here, stroke, place, dogs);
        }
    }

    static Expression rule(Random random) {
        Expression rule;
        do {
            rule = either(random, 2);
        } while (rule.text().split("[0-9]+|here|stroke|place|dogs|[(]", -1).length - 1 > 40
                || rule.text().contains("not not not"));
        return rule;
    }

    private static Expression either(Random random, int depth) {
        Expression all = both(random, depth);
        for (int n = random.nextInt(2); n > 0; n--) {
            all = new Both("or", all, both(random, depth));
        }
        return all;
    }

    private static Expression both(Random random, int depth) {
        Expression all = one(random, depth);
        for (int n = random.nextInt(2); n > 0; n--) {
            all = new Both("and", all, one(random, depth));
        }
        return all;
    }

    private static Expression one(Random random, int depth) {
        if (random.nextInt(5) == 0) {
            return new Not(one(random, depth));
        }
        Expression left = sum(random, depth);
        return random.nextInt(3) == 0 ? left
                : new Both(List.of("<", ">", "=").get(random.nextInt(3)), left, sum(random, depth));
    }

    private static Expression sum(Random random, int depth) {
        Expression all = term(random, depth);
        for (int n = random.nextInt(3) / 2; n > 0; n--) {
            all = new Both(random.nextBoolean() ? "+" : "-", all, term(random, depth));
        }
        return all;
    }

    private static Expression term(Random random, int depth) {
        Expression all = unit(random, depth);
        for (int n = random.nextInt(4) / 2; n > 0; n--) {
            all = new Both(random.nextBoolean() ? "*" : "/", all, unit(random, depth));
        }
        return all;
    }

    private static Expression unit(Random random, int depth) {
        int kind = random.nextInt(depth > 0 ? 9 : 8);
        if (kind == 8) {
            return new Wrapped(either(random, depth - 1));
        }
        return kind < 5 ? new Named(kind < 3 ? 0 : kind - 2) : kind < 7 ? new Number(random.nextInt(5))
                : new Named(3);
    }
}
