/** ROWS as texts of figures and CHANGES worked out PLACE by PLACE: the document's words, and nothing of the class. */
final class ByHand {
    private ByHand() {
    }

    static String rounds(int bells) {
        return "123456".substring(0, bells);
    }

    /** 's' for a PLACE that stays, 'x' for another: each run of x is of an even number. */
    static boolean isChange(int set, int places) {
        StringBuilder s = new StringBuilder();
        for (int p = 0; p < places; p++) {
            s.append((set & (1 << p)) != 0 ? 's' : 'x');
        }
        for (String run : s.toString().split("s")) {
            if (run.length() % 2 != 0) {
                return false;
            }
        }
        return true;
    }

    static String changed(String row, int set) {
        char[] c = row.toCharArray();
        int p = 0;
        while (p < c.length) {
            if ((set & (1 << p)) != 0) {
                p++;
            } else {
                char k = c[p];
                c[p] = c[p + 1];
                c[p + 1] = k;
                p += 2;
            }
        }
        return new String(c);
    }

    /** The ROW as it is heard with this BELL late. */
    static String heardWith(String row, int bell) {
        int p = row.indexOf((char) ('1' + bell));
        if (p == row.length() - 1) {
            return row;
        }
        return row.substring(0, p) + row.charAt(p + 1) + row.charAt(p) + row.substring(p + 2);
    }

    static int asNumber(String row) {
        return row.isEmpty() ? 0 : Integer.parseInt(row);
    }

    /** The clause of so many BELLS of WEIGHT 1. */
    static String bells(int bells) {
        return "b1" + ",1".repeat(bells - 1) + ";";
    }

    static long nextSeed(long seed) {
        return (seed * 1103515245L + 12345L) % 2147483648L;
    }

    static int drawOf(long seed, int n) {
        return (int) (seed / 65536 % n);
    }
}
