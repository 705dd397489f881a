/** Texts as feed wants them. */
final class Signs {
    private Signs() {
    }

    /** Eight signs from a place on; 0 behind the text's end, which feed leaves out. */
    static long pack(String s, int from) {
        long all = 0;
        for (int i = from; i < from + 8; i++) {
            all = all << 8 | (i < s.length() ? s.charAt(i) & 255 : 0);
        }
        return all;
    }

    /** Feeds a whole text; the answer of the last call, or of an empty one. */
    static int feed(NamesUnder x, String s) {
        int answer = x.feed(0, 0, 0);
        for (int i = 0; i < s.length(); i += 24) {
            answer = x.feed(pack(s, i), pack(s, i + 8), pack(s, i + 16));
        }
        return answer;
    }
}
