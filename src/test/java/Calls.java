/**
 * The calls of the face that may be drawn or crossed, each with the kinds of its arguments: b book, w view, k key, v value,
 * i whether, r by of raise(), s by of sift(), p place, a digit: what, from 0 to that digit.
 */
final class Calls {

    static final String[] TOLD = {
        "put bkv", "putAbsent bkv", "replace bkv", "swap bkvv", "strike bk", "strikePair bkv", "merge bkv", "grow bk",
        "halve bk", "twice bk", "poll bi", "raise br", "sift bs", "strikeValue bv", "clear b", "pour bb", "copy bb", "thin bbi",
        "head bki", "tail bki", "sub bkiki", "part wkiki", "shut w", "viewPut wkv", "viewStrike wk", "viewMerge wkv",
        "viewPoll wi", "viewClear w", "walk b", "viewWalk w", "step ", "write v", "drop ", "keep bi", "brand v", "knock ",
        "get bk", "getOr bkv", "has bk", "hasValue bv", "ofBook b8", "near bk7", "place bk", "at bp", "row b", "same bb",
        "viewGet wk", "ofView w8", "viewNear wk3", "viewRow w", "ledger 6", "isSound ",
    };

    private Calls() {
    }

    static String name(String told) {
        return told.substring(0, told.indexOf(' '));
    }

    static String kinds(String told) {
        return told.substring(told.indexOf(' ') + 1);
    }

    /** A call as a line of Runs has it: "sub(0, 5, true, 9, false)". */
    static String line(String told, int[] arguments) {
        StringBuilder line = new StringBuilder(name(told)).append('(');
        for (int i = 0; i < arguments.length; i++) {
            line.append(i == 0 ? "" : ", ");
            if (kinds(told).charAt(i) == 'i') {
                line.append(arguments[i] == 1);
            } else {
                line.append(arguments[i]);
            }
        }
        return line.append(')').toString();
    }
}
