/** Brings texts to the TAPE. */
final class Tell {
    static final int COAST = 0;
    static final int LAW = 1;

    private Tell() {
    }

    /** Feeds the text's bytes, twenty a call; the last call's answer. */
    static int feed(SmokedSecrets x, String text) {
        int answer = x.count(4);
        for (int at = 0; at < text.length(); at += 20) {
            int[] five = new int[5];
            for (int i = 0; i < 20; i++) {
                int one = at + i < text.length() ? text.charAt(at + i) : 0;
                five[i / 4] = five[i / 4] << 8 | one;
            }
            answer = x.feed(five[0], five[1], five[2], five[3], five[4]);
        }
        return answer;
    }

    static int text(SmokedSecrets x, int sort, String text) {
        x.end(0);
        feed(x, text);
        return x.text(sort);
    }

    static int fault(SmokedSecrets x, int sort, String text) {
        x.end(0);
        feed(x, text);
        return x.fault(sort);
    }

    static SmokedSecrets coast(String text) {
        SmokedSecrets x = new SmokedSecrets();
        if (text(x, COAST, text) < 0) {
            throw new IllegalArgumentException(text);
        }
        return x;
    }

    /** A LAW told and holding. */
    static void obey(SmokedSecrets x, String law) {
        int number = text(x, LAW, law);
        if (number < 0 || !x.law(number)) {
            throw new IllegalArgumentException(law);
        }
    }

    static int person(SmokedSecrets x, int person, int what) {
        try {
            return x.person(person, what);
        } catch (java.util.NoSuchElementException e) {
            return -77;
        }
    }
}
