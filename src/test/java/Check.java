/** What the tests share: counts wrong answers, writes an OFFICE into a TEXT. */
final class Check {
    private final String test;
    private int asked = 0;
    private int wrong = 0;

    Check(String test) {
        this.test = test;
    }

    void due(String call, long got, long want) {
        asked++;
        if (got != want) {
            wrong++;
            if (wrong <= 40) {
                System.out.println(test + ": " + call + " answered " + got + ", due is " + want);
            }
        }
    }

    /** A call that answers 1 and tells by asked(). */
    void tells(EnvelopeCard x, String call, int answer, int told) {
        due(call, answer, 1);
        due(call + ", asked()", x.asked(), told);
    }

    /** A call that answers a number and tells another by asked(). */
    void both(EnvelopeCard x, String call, int answer, int due, int told) {
        due(call, answer, due);
        due(call + ", asked()", x.asked(), told);
    }

    /** A call that answers a number and tells a fraction. */
    void odds(EnvelopeCard x, String call, int answer, int due, long upper, long lower) {
        due(call, answer, due);
        due(call + ", upper()", x.upper(), upper);
        due(call + ", lower()", x.lower(), lower);
    }

    /** A call that is refused by a FINDING. */
    void finds(EnvelopeCard x, String call, int answer, int finding) {
        due(call, answer, EnvelopeCard.FINDING);
        due(call + ", finding()", x.finding(), finding);
    }

    void end() {
        System.out.println(test + ": " + asked + " answers, " + wrong + " not as due");
        if (asked == 0 || wrong != 0) {
            System.exit(1);
        }
    }

    static void write(EnvelopeCard x, int t, String signs) {
        x.text(t, signs.length());
        for (int i = 0; i < signs.length(); i++) {
            x.put(t, i, signs.charAt(i));
        }
    }

    /** A new object with AN OFFICE written in TEXT 3. */
    static EnvelopeCard office(String signs) {
        EnvelopeCard x = new EnvelopeCard();
        write(x, 3, signs);
        x.office(3);
        return x;
    }

    static void fill(EnvelopeCard x, int r, int... numbers) {
        x.row(r, numbers.length);
        for (int i = 0; i < numbers.length; i++) {
            x.lay(r, i, numbers[i]);
        }
    }
}
