/** All that an object answers, as one text, so that two of them can be held against one another. */
final class Picture {
    private final SharesComing x;
    private final StringBuilder told = new StringBuilder();

    private Picture(SharesComing x) {
        this.x = x;
    }

    /** Nothing of the object is changed by this. */
    static String ofNow(SharesComing x) {
        Picture picture = new Picture(x);
        picture.state();
        picture.looks();
        return picture.told.toString();
    }

    /** The images and the bytes of the text can't be seen without using the object up. */
    static String ofAll(SharesComing x) {
        Picture picture = new Picture(x);
        picture.state();
        picture.looks();
        picture.text();
        picture.images();
        return picture.told.toString();
    }

    private void add(String call, Object answer) {
        told.append(call).append(' ').append(answer).append('\n');
    }

    private void state() {
        add("fault", x.fault());
        for (int what = 0; what <= 8; what++) {
            add("count " + what, x.count(what));
        }
        for (int heir = 0; heir < 3; heir++) {
            for (int what = 0; what <= 7; what++) {
                add("heir " + heir + " " + what, x.heir(heir, what));
            }
        }
    }

    private void looks() {
        for (int day = 0; day < 6; day++) {
            for (int alt = 0; alt < 3; alt++) {
                for (int what = 0; what < 3; what++) {
                    add("alt " + day + " " + alt + " " + what, x.alt(day, alt, what));
                }
            }
        }
        for (int goal = 0; goal < 3; goal++) {
            looksBy(goal);
        }
        for (int place = 0; place < 9; place++) {
            add("paper " + place, x.paper(place / 3, place % 3));
        }
    }

    private void looksBy(int goal) {
        add("reached", x.reached(goal));
        add("sure", x.sure(goal, false));
        add("mean", x.sure(goal, true));
        add("best", x.best(goal, false));
        add("best by mean", x.best(goal, true));
        add("cost", x.cost(goal));
        add("keeping", x.mended(goal, 0));
        add("mending", x.mended(goal, 1));
        for (int k = 0; k < 6; k++) {
            add("proof " + k, x.proof(goal, k));
            add("known " + k, x.known(goal, k));
            add("judge " + k, x.judge(k, 4 * k));
            add("judged " + k, x.judged(goal, k, 4 * k));
        }
        for (int way = 0; way < 5; way++) {
            add("fare " + way, x.fare(way, goal, false));
            add("mean fare " + way, x.fare(way, goal, true));
        }
    }

    private void text() {
        for (int bytes = x.count(8); bytes >= 0; bytes--) {
            add("end " + bytes, x.end(bytes));
            add("fault", x.fault());
        }
    }

    private void images() {
        for (int k = 0; k < 4; k++) {
            add("on " + k, x.on(k));
            state();
        }
    }
}
