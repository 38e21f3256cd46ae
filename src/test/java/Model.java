import java.util.ArrayList;
import java.util.HashMap;
import java.util.LinkedHashSet;
import java.util.List;
import java.util.Map;
import java.util.Set;

/** The document once more, word by word and slowly: arrangements are texts, the group is a set of them. */
public final class Model {
    private String row = "01234";
    private final List<String> moves = new ArrayList<>();
    private int allowed = 0;
    private String input = "";
    private final Map<String, Map<String, Integer>> known = new HashMap<>();
    private final Map<String, Set<String>> groups = new HashMap<>();

    private static void need(boolean holds, RuntimeException otherwise) {
        if (!holds) {
            throw otherwise;
        }
    }

    private static IndexOutOfBoundsException index() {
        return new IndexOutOfBoundsException();
    }

    private static IllegalArgumentException argument() {
        return new IllegalArgumentException();
    }

    private static IllegalStateException state() {
        return new IllegalStateException();
    }

    private int places() {
        return row.length();
    }

    private boolean isPlace(int place) {
        return place >= 0 && place < places();
    }

    private boolean isMove(int move) {
        return move >= 0 && move < moves.size();
    }

    private boolean isAllowed(int move, int mask) {
        return (mask >> move & 1) == 1;
    }

    private String solved() {
        return "01234567".substring(0, places());
    }

    private static String moved(String sources, String row) {
        StringBuilder to = new StringBuilder();
        for (char from : sources.toCharArray()) {
            to.append(row.charAt(from - '0'));
        }
        return to.toString();
    }

    private static String inverse(String sources) {
        StringBuilder inverse = new StringBuilder();
        for (int place = 0; place < sources.length(); place++) {
            inverse.append(sources.indexOf((char) ('0' + place)));
        }
        return inverse.toString();
    }

    private void add(String sources) {
        allowed |= 3 << moves.size();
        moves.add(sources);
        moves.add(inverse(sources));
    }

    public int begin(int places) {
        need(places >= 3 && places <= 8, argument());
        int before = places();
        row = "01234567".substring(0, places);
        moves.clear();
        allowed = 0;
        return before;
    }

    public int addTurn(int kind, int first, int last) {
        need(isPlace(first) && isPlace(last), index());
        need(kind >= 0 && kind <= 2 && last > first, argument());
        need(moves.size() < 12, state());
        String solved = solved();
        String part = solved.substring(first, last + 1);
        String turned;
        if (kind == 0) {
            turned = new StringBuilder(part).reverse().toString();
        } else if (kind == 1) {
            turned = solved.charAt(last) + solved.substring(first, last);
        } else {
            turned = solved.charAt(last) + solved.substring(first + 1, last) + solved.charAt(first);
        }
        add(solved.substring(0, first) + turned + solved.substring(last + 1));
        return moves.size() / 2 - 1;
    }

    public int dropTurn() {
        need(!moves.isEmpty(), state());
        for (int i = 0; i < 2; i++) {
            moves.remove(moves.size() - 1);
            allowed &= ~(1 << moves.size());
        }
        return moves.size() / 2;
    }

    public int allow(int mask) {
        need(mask >= 0 && mask < 1 << moves.size(), argument());
        int before = allowed;
        allowed = mask;
        return before;
    }

    public int exchange(int one, int other) {
        need(isPlace(one) && isPlace(other), index());
        char[] tiles = row.toCharArray();
        tiles[one] = row.charAt(other);
        tiles[other] = row.charAt(one);
        row = new String(tiles);
        return row.charAt(one) - '0';
    }

    public int make(int move) {
        need(isMove(move), index());
        need(isAllowed(move, allowed), state());
        String before = row;
        row = moved(moves.get(move), row);
        int elsewhere = 0;
        for (char tile : row.toCharArray()) {
            elsewhere += row.indexOf(tile) == before.indexOf(tile) ? 0 : 1;
        }
        return elsewhere;
    }

    public int solve() {
        List<Integer> word = firstWord(row, goal(), allowed);
        if (word == null) {
            return -1;
        }
        for (int move : word) {
            row = moved(moves.get(move), row);
        }
        return word.size();
    }

    public int append(int code) {
        need(code >= 32 && code <= 126, argument());
        need(input.length() < 60, state());
        input += (char) code;
        return input.length();
    }

    public int clearInput() {
        int had = input.length();
        input = "";
        return had;
    }

    /** The text can be read on to a text of turns, so far as it goes. */
    private boolean startsTurns(String text) {
        String[] parts = text.split(";", -1);
        if (!text.isEmpty() && moves.size() / 2 + parts.length > 6) {
            return false;
        }
        for (int i = 0; i < parts.length; i++) {
            boolean whole = parts[i].length() == places();
            if (parts[i].length() > places() || i < parts.length - 1 && !whole) {
                return false;
            }
            if (parts[i].chars().distinct().count() < parts[i].length()) {
                return false;
            }
            if (!parts[i].chars().allMatch(digit -> digit >= '0' && digit < '0' + places())) {
                return false;
            }
        }
        return true;
    }

    private int moveOf(char letter) {
        int count = moves.size() / 2;
        int forwards = "abcdef".substring(0, count).indexOf(letter);
        int backwards = "ABCDEF".substring(0, count).indexOf(letter);
        return forwards >= 0 ? 2 * forwards : backwards >= 0 ? 2 * backwards + 1 : -1;
    }

    public int firstError(boolean word) {
        for (int i = 0; i < input.length(); i++) {
            if (word ? moveOf(input.charAt(i)) < 0 : !startsTurns(input.substring(0, i + 1))) {
                return i;
            }
        }
        return input.length();
    }

    public int load() {
        String[] parts = input.split(";", -1);
        need(firstError(false) == input.length() && parts[parts.length - 1].length() == places(), argument());
        for (String part : parts) {
            add(part);
        }
        input = "";
        return moves.size() / 2;
    }

    private void needWord() {
        need(!input.isEmpty() && firstError(true) == input.length(), argument());
    }

    private String carriedOut(String from) {
        String to = from;
        for (char letter : input.toCharArray()) {
            to = moved(moves.get(moveOf(letter)), to);
        }
        return to;
    }

    public int run() {
        needWord();
        for (char letter : input.toCharArray()) {
            need(isAllowed(moveOf(letter), allowed), state());
        }
        row = carriedOut(row);
        return clearInput();
    }

    public int order() {
        needWord();
        String now = carriedOut(solved());
        int times = 1;
        while (!now.equals(solved())) {
            now = carriedOut(now);
            times++;
        }
        return times;
    }

    private Set<String> goal() {
        return Set.of(solved());
    }

    /** All arrangements to which words of the moves take the solved row. */
    private Set<String> members(int mask) {
        return groups.computeIfAbsent(places() + " " + moves + " " + mask, key -> reached(solved(), mask));
    }

    private Set<String> reached(String start, int mask) {
        List<String> list = new ArrayList<>(List.of(start));
        Set<String> set = new LinkedHashSet<>(list);
        for (int i = 0; i < list.size(); i++) {
            for (int move = 0; move < moves.size(); move++) {
                String next = moved(moves.get(move), list.get(i));
                if (isAllowed(move, mask) && set.add(next)) {
                    list.add(next);
                }
            }
        }
        return set;
    }

    /** Round by round: who comes by one move to an arrangement of the round before. */
    private Map<String, Integer> lengths(String start, Set<String> goals, int mask) {
        String key = start.length() + " " + moves + " " + mask + " " + (goals.size() == 1 ? "" : goals.hashCode() + "/" + goals.size())
            + (goals.contains(solved()) && members(mask).contains(start) ? "" : start);
        Map<String, Integer> lengths = known.get(key);
        if (lengths != null) {
            return lengths;
        }
        lengths = new HashMap<>();
        List<String> left = new ArrayList<>();
        for (String one : reached(start, mask)) {
            if (goals.contains(one)) {
                lengths.put(one, 0);
            } else {
                left.add(one);
            }
        }
        boolean grows = true;
        for (int length = 1; grows; length++) {
            grows = false;
            List<String> still = new ArrayList<>();
            for (String one : left) {
                boolean now = false;
                for (int move = 0; move < moves.size() && !now; move++) {
                    Integer before = isAllowed(move, mask) ? lengths.get(moved(moves.get(move), one)) : null;
                    now = before != null && before == length - 1;
                }
                if (now) {
                    lengths.put(one, length);
                    grows = true;
                } else {
                    still.add(one);
                }
            }
            left = still;
        }
        known.put(key, lengths);
        return lengths;
    }

    private List<Integer> firstWord(String start, Set<String> goals, int mask) {
        Map<String, Integer> lengths = lengths(start, goals, mask);
        if (!lengths.containsKey(start)) {
            return null;
        }
        List<Integer> word = new ArrayList<>();
        String now = start;
        while (!goals.contains(now)) {
            int move = 0;
            while (!isAllowed(move, mask)
                    || !Integer.valueOf(lengths.get(now) - 1).equals(lengths.get(moved(moves.get(move), now)))) {
                move++;
            }
            word.add(move);
            now = moved(moves.get(move), now);
        }
        return word;
    }

    private Map<String, Integer> groupLengths(int mask) {
        return lengths(solved(), goal(), mask);
    }

    private static boolean even(String row) {
        int pairs = 0;
        for (int low = 0; low < row.length(); low++) {
            for (int high = low + 1; high < row.length(); high++) {
                pairs += row.charAt(low) > row.charAt(high) ? 1 : 0;
            }
        }
        return pairs % 2 == 0;
    }

    private int orbits() {
        Set<Set<Integer>> orbits = new LinkedHashSet<>();
        for (int place = 0; place < places(); place++) {
            Set<Integer> orbit = new LinkedHashSet<>();
            for (String one : members(allowed)) {
                orbit.add(one.indexOf((char) ('0' + place)));
            }
            orbits.add(orbit);
        }
        return orbits.size();
    }

    public int group(int what) {
        need(what >= 0 && what <= 3, argument());
        if (what == 0) {
            return members(allowed).size();
        }
        if (what == 1) {
            return orbits();
        }
        if (what == 2) {
            return groupLengths(allowed).values().stream().max(Integer::compare).get();
        }
        return (int) members(allowed).stream().filter(Model::even).count();
    }

    public int basicOrbit(int place) {
        need(isPlace(place), index());
        int mask = 0;
        for (String one : members(allowed)) {
            if (one.startsWith(solved().substring(0, place))) {
                mask |= 1 << one.indexOf((char) ('0' + place));
            }
        }
        return mask;
    }

    public int layer(int length) {
        return (int) groupLengths(allowed).values().stream().filter(one -> one == length).count();
    }

    public int length() {
        return groupLengths(allowed).getOrDefault(row, -1);
    }

    public int wordMove(int place) {
        List<Integer> word = firstWord(row, goal(), allowed);
        return word == null || place < 0 || place >= word.size() ? -1 : word.get(place);
    }

    public long words() {
        Map<String, Integer> lengths = groupLengths(allowed);
        return lengths.containsKey(row) ? wordsFrom(row, lengths, new HashMap<>()) : 0;
    }

    private long wordsFrom(String one, Map<String, Integer> lengths, Map<String, Long> done) {
        if (one.equals(solved())) {
            return 1;
        }
        if (!done.containsKey(one)) {
            long sum = 0;
            for (int move = 0; move < moves.size(); move++) {
                String next = moved(moves.get(move), one);
                if (isAllowed(move, allowed) && lengths.get(next) == lengths.get(one) - 1) {
                    sum += wordsFrom(next, lengths, done);
                }
            }
            done.put(one, sum);
        }
        return done.get(one);
    }

    public int phase(int mask, int what) {
        need(mask >= 0 && (mask | allowed) == allowed && what >= 0 && what <= 2, argument());
        if (!groupLengths(allowed).containsKey(row)) {
            return -1;
        }
        List<Integer> first = firstWord(row, members(mask), allowed);
        String then = row;
        for (int move : first) {
            then = moved(moves.get(move), then);
        }
        int second = groupLengths(mask).get(then);
        return what == 0 ? first.size() : what == 1 ? second : first.size() + second;
    }

    public int ifForbidden(int move, int what) {
        need(isMove(move), index());
        need(what == 0 || what == 1, argument());
        need(isAllowed(move, allowed), state());
        int before = allow(allowed - (1 << move));
        int answer = what == 0 ? group(0) : length();
        allowed = before;
        return answer;
    }

    public int tile(int place) {
        need(isPlace(place), index());
        return row.charAt(place) - '0';
    }

    public int source(int move, int place) {
        need(isMove(move) && isPlace(place), index());
        return moves.get(move).charAt(place) - '0';
    }

    public boolean commute(int one, int other) {
        need(isMove(one) && isMove(other), index());
        return moved(moves.get(one), moves.get(other)).equals(moved(moves.get(other), moves.get(one)));
    }

    public int count(int what) {
        need(what >= 0 && what <= 4, argument());
        int home = 0;
        for (int place = 0; place < places(); place++) {
            home += tile(place) == place ? 1 : 0;
        }
        return List.of(places(), moves.size() / 2, allowed, home, even(row) ? 1 : 0).get(what);
    }

    public double meanLength() {
        long sum = groupLengths(allowed).values().stream().mapToLong(one -> one).sum();
        return (double) sum / members(allowed).size();
    }

    public long digest() {
        List<Long> values = new ArrayList<>();
        for (int what = 0; what <= 4; what++) {
            values.add((long) count(what));
        }
        row.chars().forEach(tile -> values.add((long) tile - '0'));
        for (String sources : moves) {
            sources.chars().forEach(place -> values.add((long) place - '0'));
        }
        for (int what = 0; what <= 3; what++) {
            values.add((long) group(what));
        }
        for (int place = 0; place < places(); place++) {
            values.add((long) basicOrbit(place));
        }
        for (int length = 0; length <= 9; length++) {
            values.add((long) layer(length));
        }
        values.add((long) length());
        values.add(words());
        List<Integer> word = firstWord(row, goal(), allowed);
        if (word != null) {
            word.forEach(move -> values.add((long) move));
        }
        values.add(Double.doubleToLongBits(meanLength()));
        values.add((long) input.length());
        input.chars().forEach(code -> values.add((long) code));
        long hash = 2011;
        for (long value : values) {
            hash = 31 * hash + value;
        }
        return hash;
    }
}
