/** Texts that several tests make. */
final class Texts {
    private Texts() {
    }

    /** One tell so many times; # is a letter of its own in each. */
    static String many(String tell, int times) {
        StringBuilder s = new StringBuilder();
        for (int i = 0; i < times; i++) {
            s.append(tell.replace('#', (char) ('a' + i)));
        }
        return s.toString();
    }

    /** Men who never leave the TIME at which they begin. */
    static String standing(int parts, int... times) {
        return "parts " + parts + "; law fix = own;" + men("fix", times);
    }

    /** Men a, b, c and on, who all row by one LAW. */
    static String men(String law, int... times) {
        StringBuilder s = new StringBuilder();
        for (int i = 0; i < times.length; i++) {
            s.append("man ").append((char) ('a' + i)).append(' ').append(law).append(' ').append(times[i]).append(';');
        }
        return s.toString();
    }
}
