/**
 * Writes programs from short texts: f2 forward, t1 turn, pu and pd pen, s0=5 set, a0=-1 add, r4 repeat,
 * w0 own word, c0 call, e end; n in front of a value makes it a name: fn1, s0=n2.
 */
final class Script {
    private Script() {
    }

    /** Adds the orders; the answer of the last call. */
    static int draft(TurtleChalk x, String text) {
        int last = TurtleChalk.NONE;
        for (String order : text.trim().split("\\s+")) {
            if (!order.isEmpty()) {
                last = one(x, order);
            }
        }
        return last;
    }

    /** Adds the orders and writes the program; its number. */
    static int write(TurtleChalk x, int pupil, String text) {
        draft(x, text);
        return x.write(pupil);
    }

    /** The order, count times, with blanks between. */
    static String times(int count, String order) {
        return (order + " ").repeat(count).trim();
    }

    private static int one(TurtleChalk x, String order) {
        String rest = order.substring(1);
        switch (order.charAt(0)) {
            case 'f': return x.forward(number(rest), isName(rest));
            case 't': return x.turn(number(rest), isName(rest));
            case 'p': return x.pen(rest.equals("d"));
            case 's': return x.set(rest.charAt(0) - '0', number(value(rest)), isName(value(rest)));
            case 'a': return x.add(rest.charAt(0) - '0', number(value(rest)), isName(value(rest)));
            case 'r': return x.repeat(number(rest), isName(rest));
            case 'w': return x.word(number(rest));
            case 'c': return x.call(number(rest));
            case 'e': return x.end();
            default: throw new AssertionError("no order: " + order);
        }
    }

    private static String value(String rest) {
        return rest.substring(2);
    }

    private static boolean isName(String value) {
        return value.startsWith("n");
    }

    private static int number(String value) {
        return Integer.parseInt(isName(value) ? value.substring(1) : value);
    }
}
