/** Counts the answers that are not as due, and knows how to feed a text. */
final class Tally {
    static final int LEAST = Integer.MIN_VALUE;
    static final int MOST = Integer.MAX_VALUE;

    private final String name;
    private int asked;
    private int wrong;

    Tally(String name) {
        this.name = name;
    }

    void due(String call, long got, long want) {
        asked++;
        if (got != want) {
            wrong++;
            if (wrong <= 50) {
                System.out.println(name + ": " + call + " answered " + got + ", due is " + want);
            }
        }
    }

    void due(String call, boolean got, boolean want) {
        due(call, got ? 1 : 0, want ? 1 : 0);
    }

    void due(String call, String got, String want) {
        due(call + " told as " + want, got.equals(want), true);
    }

    boolean isSound() {
        return wrong == 0;
    }

    void finish() {
        System.out.println(name + ": " + asked + " answers, " + wrong + " not as due");
        if (wrong != 0) {
            System.exit(1);
        }
    }

    /** A caret stands before the byte where the FAULT is due; without a caret there is none. */
    void faults(String... texts) {
        for (String marked : texts) {
            int place = marked.indexOf('^');
            String text = place < 0 ? marked : marked.substring(0, place) + marked.substring(place + 1);
            SharesComing x = new SharesComing();
            tell(x, text);
            due("bytes of '" + marked + "'", x.count(8), text.length());
            due("fault of '" + marked + "'", x.fault(), place);
            due("matter of '" + marked + "'", x.matter() == SharesComing.NONE, place >= 0);
            due("bytes behind '" + marked + "'", x.count(8), place < 0 ? 0 : text.length());
        }
    }

    /** The object's text is this one alone then; it must have at most 400 characters. */
    static void tell(SharesComing x, String text) {
        x.end(0);
        int start = 0;
        while (start < text.length()) {
            x.feed(number(text, start), number(text, start + 4), number(text, start + 8),
                number(text, start + 12), number(text, start + 16));
            start += 20;
        }
        x.end(text.length());
    }

    static SharesComing of(String text) {
        SharesComing x = new SharesComing();
        tell(x, text);
        x.matter();
        return x;
    }

    private static int number(String text, int at) {
        int number = 0;
        for (int place = at; place < at + 4; place++) {
            number = number << 8 | (place < text.length() ? text.charAt(place) & 255 : ' ');
        }
        return number;
    }
}
