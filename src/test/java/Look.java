/** All that can be seen of an object, as a text: what two objects that are alike have alike. */
final class Look {
    private Look() {
    }

    /** Section 2 alone, which undo() and goBack() bring back. Some 95 calls; nothing changes by it. */
    static String gentry(SkittleGentry x) {
        StringBuilder t = new StringBuilder("told");
        for (int what : new int[] {0, 1, 3, 4, 5, 11}) {
            t.append(' ').append(x.told(what));
        }
        t.append(", plates");
        for (int p = 0; p < 9; p++) {
            t.append(' ').append(x.plate(p));
        }
        for (int s = 0; s < x.told(1); s++) {
            t.append(", ").append(s).append(':');
            for (int what = 0; what <= 8; what++) {
                t.append(' ').append(x.skittle(s, what));
            }
        }
        return t.toString();
    }

    /** What is tried from now, the letters, THE BOOK and what can be undone too. Some 115 calls. */
    static String now(SkittleGentry x) {
        StringBuilder t = new StringBuilder(gentry(x)).append(", more");
        for (int what : new int[] {2, 6, 7, 8, 9, 10, 12, 13}) {
            t.append(' ').append(x.told(what));
        }
        return t.append(", fault ").append(x.fault()).append(", judge ").append(x.judge())
            .append(", all down ").append(x.allDown(0)).append(' ').append(x.allDown(1)).toString();
    }

    /** What cannot be seen without changing it: THE SEED, THE PAST, IMAGES, the letters. The object is used up by it. */
    static String hidden(SkittleGentry x) {
        StringBuilder t = new StringBuilder("seed ").append(x.seed(1)).append(", undone");
        for (int i = 0; i <= 16; i++) {
            t.append(' ').append(x.undo()).append(' ').append(x.told(3)).append(' ').append(x.told(4));
            for (int p = 0; p < 9; p++) {
                t.append(' ').append(x.plate(p));
            }
        }
        for (int i = 0; i < 2; i++) {
            t.append(", image ").append(x.goBack(i)).append(' ').append(x.told(3)).append(' ').append(x.seed(2));
        }
        t.append(", book ").append(x.tear());
        t.append(", text ").append(x.feed(';')).append(' ').append(x.county()).append(' ').append(x.fault());
        return t.append(' ').append(x.told(0)).toString();
    }
}
