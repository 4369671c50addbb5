import java.util.ArrayList;
import java.util.List;
import java.util.regex.Pattern;

/** The document once more, in the slowest and plainest way, with none of the class's own code: to compare with. */
final class PlainSacks {
    static final int NONE = -1, UNKNOWN = -101, OUTSIDE = -102, STATE = -103, FULL = -104;

    private static class Parcel {
        final int kind;
        final int town;
        boolean harmed;

        Parcel(int kind, int town) {
            this.kind = kind;
            this.town = town;
        }

        int grip() {
            return 0;
        }
    }

    private static class Soft extends Parcel {
        Soft(int town) {
            super(1, town);
        }

        @Override
        int grip() {
            return 1;
        }
    }

    private static class Heavy extends Parcel {
        Heavy(int kind, int town) {
            super(kind, town);
        }

        @Override
        int grip() {
            return -2;
        }
    }

    private static class Glass extends Parcel {
        Glass(int town) {
            super(3, town);
        }

        @Override
        int grip() {
            return -1;
        }
    }

    private static final class Tin extends Heavy {
        Tin(int town) {
            super(4, town);
        }
    }

    private static final class Sack {
        final int town;
        List<Parcel> in = new ArrayList<>();

        Sack(int town) {
            this.town = town;
        }

        int wrong() {
            int wrong = 0;
            for (Parcel p : in) {
                wrong += p.town == town ? 0 : 1;
            }
            return wrong;
        }
    }

    private String page = "";
    private String text = "";
    private int hooks;
    private int read;
    private List<Sack> sacks = new ArrayList<>();
    private List<Parcel> belt = new ArrayList<>();
    private List<int[]> found = new ArrayList<>();
    private int seconds;
    private int harmed;
    private PlainSacks kept;

    private static Parcel make(int kind, int town) {
        switch (kind) {
            case 0: return new Parcel(0, town);
            case 1: return new Soft(town);
            case 2: return new Heavy(2, town);
            case 3: return new Glass(town);
            default: return new Tin(town);
        }
    }

    private static Parcel copy(Parcel p) {
        Parcel made = make(p.kind, p.town);
        made.harmed = p.harmed;
        return made;
    }

    private static List<Parcel> copy(List<Parcel> all) {
        List<Parcel> made = new ArrayList<>();
        for (Parcel p : all) {
            made.add(copy(p));
        }
        return made;
    }

    private void takeOver(PlainSacks other) {
        sacks = new ArrayList<>();
        for (Sack s : other.sacks) {
            Sack made = new Sack(s.town);
            made.in = copy(s.in);
            sacks.add(made);
        }
        belt = copy(other.belt);
        found = new ArrayList<>(other.found);
        seconds = other.seconds;
        harmed = other.harmed;
    }

    int letter(int code) {
        if (code < 32 || code > 126) return OUTSIDE;
        if (page.length() == 24) return FULL;
        page += (char) code;
        return page.length();
    }

    int blank() {
        int had = page.length();
        page = "";
        return had;
    }

    /** A text is the beginning of a FLOOR, if something behind it makes it one. */
    private static boolean begins(String start) {
        for (int n = 3; n <= 6; n++) {
            StringBuilder floor = new StringBuilder("11");
            for (int i = 1; i < n; i++) {
                floor.append(",11");
            }
            floor.append(';');
            for (int i = 0; i < n; i++) {
                floor.append('1');
            }
            if (start.length() <= floor.length() && isFloor(start + floor.substring(start.length()))) return true;
        }
        return false;
    }

    private static boolean isFloor(String s) {
        for (int n = 3; n <= 6; n++) {
            if (Pattern.matches("[1-8][1-9](,[1-8][1-9]){" + (n - 1) + "};[0-9]{" + n + "}", s)) return true;
        }
        return false;
    }

    int fault() {
        int place = 0;
        while (place < page.length() && begins(page.substring(0, place + 1))) {
            place++;
        }
        return place;
    }

    int floor() {
        if (!isFloor(page)) return STATE;
        text = page;
        page = "";
        hooks = text.length() / 4;
        read++;
        sacks.clear();
        for (int i = 0; i < hooks; i++) {
            sacks.add(new Sack(i));
        }
        belt.clear();
        found.clear();
        seconds = 0;
        harmed = 0;
        kept = null;
        return hooks;
    }

    private int yards(int hook) {
        return text.charAt(3 * hook) - '0';
    }

    private int room(int hook) {
        return text.charAt(3 * hook + 1) - '0';
    }

    private int often(int town) {
        return text.charAt(text.indexOf(';') + 1 + town) - '0';
    }

    private boolean known(int hook) {
        return 0 <= hook && hook < hooks;
    }

    private boolean full(int hook) {
        return sacks.get(hook).in.size() == room(hook);
    }

    private int next(int hook) {
        return hook == hooks - 1 ? hook - 1 : hook + 1;
    }

    int hook(int hook, int what) {
        if (!known(hook)) return UNKNOWN;
        if (what < 0 || what > 6) return OUTSIDE;
        Sack s = sacks.get(hook);
        int glass = 0;
        for (Parcel p : s.in) {
            glass += p instanceof Glass ? 1 : 0;
        }
        return new int[] {yards(hook), room(hook), s.town, s.in.size(), s.wrong(), glass, often(s.town)}[what];
    }

    int parcel(int kind, int town) {
        if (kind < 0 || kind > 4) return OUTSIDE;
        if (!known(town)) return UNKNOWN;
        if (belt.size() == 8) return FULL;
        belt.add(make(kind, town));
        return belt.size();
    }

    int belt(int place, int what) {
        if (place < 0 || place >= belt.size()) return UNKNOWN;
        if (what < 0 || what > 2) return OUTSIDE;
        Parcel p = belt.get(place);
        return what == 0 ? p.kind : what == 1 ? p.town : p.grip();
    }

    int as(int place, int kind) {
        if (place < 0 || place >= belt.size()) return UNKNOWN;
        if (kind < 0 || kind > 4) return OUTSIDE;
        Parcel p = belt.get(place);
        try {
            switch (kind) {
                case 0: return p.town;
                case 1: return ((Soft) p).town;
                case 2: return ((Heavy) p).town;
                case 3: return ((Glass) p).town;
                default: return ((Tin) p).town;
            }
        } catch (ClassCastException e) {
            return NONE;
        }
    }

    private int[] tenths(Parcel p, int yards, boolean nextFull) {
        int in = Math.min(10, Math.max(0, 10 + p.grip() - yards));
        int next = nextFull ? 0 : (10 - in) / 3;
        return new int[] {in, next, 10 - in - next};
    }

    private void comes(int hook) {
        Parcel p = belt.remove(0);
        if (p instanceof Tin) {
            for (Parcel other : sacks.get(hook).in) {
                harm(other);
            }
        }
        sacks.get(hook).in.add(p);
    }

    private void harm(Parcel p) {
        if (p instanceof Glass && !p.harmed) {
            p.harmed = true;
            harmed++;
        }
    }

    int toss(int hook, int how) {
        if (!known(hook)) return UNKNOWN;
        if (how < 0 || how > 2) return OUTSIDE;
        if (belt.isEmpty() || full(hook)) return STATE;
        if (tenths(belt.get(0), yards(hook), full(next(hook)))[how] == 0) return STATE;
        seconds += 2;
        if (how == 2) {
            seconds += 2 * yards(hook) + 3;
            comes(hook);
            return hook;
        }
        int end = how == 0 ? hook : next(hook);
        harm(belt.get(0));
        comes(end);
        return end;
    }

    int carry(int hook) {
        if (!known(hook)) return UNKNOWN;
        if (belt.isEmpty() || full(hook)) return STATE;
        seconds += 2 * yards(hook) + 3;
        comes(hook);
        return seconds;
    }

    int change(int hook) {
        if (!known(hook)) return UNKNOWN;
        int had = sacks.get(hook).in.size();
        sacks.get(hook).in.clear();
        seconds += 40;
        return had;
    }

    int exchange(int a, int b) {
        if (!known(a) || !known(b) || a == b) return UNKNOWN;
        if (sacks.get(a).in.size() > room(b) || sacks.get(b).in.size() > room(a)) return STATE;
        Sack s = sacks.get(a);
        sacks.set(a, sacks.get(b));
        sacks.set(b, s);
        seconds += 10;
        return seconds;
    }

    /** In hundredths of a tenth, so that no chance of ten is lost. */
    private int cost(Parcel p, int yards, boolean nextFull) {
        int[] t = tenths(p, yards, nextFull);
        int hundredths = 10 * 20 + 600 * t[1] + 10 * (2 * yards + 3) * t[2];
        if (p instanceof Glass) {
            hundredths += 90 * t[0] + 90 * t[1];
        }
        if (hundredths % 10 != 0) throw new IllegalStateException("a COST that is no whole number");
        return hundredths / 10;
    }

    int odds(int kind, int hook, int what) {
        if (kind < 0 || kind > 4) return OUTSIDE;
        if (!known(hook)) return UNKNOWN;
        if (what < 0 || what > 5) return OUTSIDE;
        Parcel p = make(kind, 0);
        if (what < 3) return tenths(p, yards(hook), full(next(hook)))[what];
        int cost = cost(p, yards(hook), full(next(hook)));
        int carrying = 10 * (2 * yards(hook) + 3);
        return what == 3 ? cost : what == 4 ? carrying : cost < carrying ? 1 : 0;
    }

    /** All hangings (TOWN by HOOK), the first by numbers first. */
    private static List<int[]> hangings(int hooks) {
        List<int[]> all = new ArrayList<>();
        int most = 1;
        for (int i = 0; i < hooks; i++) {
            most *= hooks;
        }
        for (int number = 0; number < most; number++) {
            int[] towns = new int[hooks];
            int left = number;
            int seen = 0;
            for (int hook = hooks - 1; hook >= 0; hook--) {
                towns[hook] = left % hooks;
                left /= hooks;
                seen |= 1 << towns[hook];
            }
            if (seen == (1 << hooks) - 1) {
                all.add(towns);
            }
        }
        return all;
    }

    private static final List<List<int[]>> HANGINGS = List.of(List.of(), List.of(), List.of(),
        hangings(3), hangings(4), hangings(5), hangings(6));

    private int together(int[] towns) {
        int sum = 0;
        for (int hook = 0; hook < hooks; hook++) {
            int cost = cost(make(0, 0), yards(hook), false);
            int carrying = 10 * (2 * yards(hook) + 3);
            sum += often(towns[hook]) * Math.min(cost, carrying);
        }
        return sum;
    }

    private int[] best() {
        int[] best = null;
        for (int[] towns : HANGINGS.get(hooks)) {
            if (best == null || together(towns) < together(best)) {
                best = towns;
            }
        }
        return best;
    }

    private static String key(int[] towns) {
        StringBuilder s = new StringBuilder();
        for (int t : towns) {
            s.append(t);
        }
        return s.toString();
    }

    /** By trying all EXCHANGES, level by level. */
    private int exchanges(int[] to) {
        int[] start = new int[hooks];
        for (int i = 0; i < hooks; i++) {
            start[i] = sacks.get(i).town;
        }
        List<int[]> level = new ArrayList<>();
        java.util.Set<String> seen = new java.util.HashSet<>();
        level.add(start);
        seen.add(key(start));
        for (int many = 0; ; many++) {
            List<int[]> after = new ArrayList<>();
            for (int[] towns : level) {
                if (key(towns).equals(key(to))) return many;
                for (int a = 0; a < hooks; a++) {
                    for (int b = a + 1; b < hooks; b++) {
                        int[] swapped = towns.clone();
                        swapped[a] = towns[b];
                        swapped[b] = towns[a];
                        if (seen.add(key(swapped))) {
                            after.add(swapped);
                        }
                    }
                }
            }
            level = after;
        }
    }

    int hanging(int what) {
        if (what != 0 && what != 1 && (what < 10 || what > 15)) return OUTSIDE;
        if (hooks == 0) return STATE;
        int[] best = best();
        if (what == 0) return together(best);
        if (what == 1) return exchanges(best);
        return what - 10 < hooks ? best[what - 10] : NONE;
    }

    int found(int town, int in) {
        if (!known(town) || !known(in) || town == in) return UNKNOWN;
        if (found.size() == 8) return FULL;
        found.add(new int[] {town, in});
        return found.size();
    }

    int forget() {
        int had = found.size();
        found.clear();
        return had;
    }

    private List<int[]> possible() {
        List<int[]> all = new ArrayList<>();
        for (int[] towns : HANGINGS.get(hooks)) {
            boolean can = true;
            for (int[] f : found) {
                for (int hook = 0; hook < hooks; hook++) {
                    can &= towns[hook] != f[0] || towns[next(hook)] == f[1];
                }
            }
            if (can) {
                all.add(towns);
            }
        }
        return all;
    }

    int hung() {
        return hooks == 0 ? STATE : possible().size();
    }

    int where(int town) {
        if (!known(town)) return UNKNOWN;
        int bits = 0;
        for (int[] towns : possible()) {
            for (int hook = 0; hook < hooks; hook++) {
                bits |= towns[hook] == town ? 1 << hook : 0;
            }
        }
        return bits;
    }

    int shifts(int parcels, int seed, int what) {
        if (parcels < 1 || parcels > 60 || seed < 0 || what < 0 || what > 2) return OUTSIDE;
        if (hooks == 0) return STATE;
        java.math.BigInteger s = java.math.BigInteger.valueOf(seed);
        int[] in = new int[hooks];
        int[] counts = new int[3];
        for (int i = 0; i < parcels; i++) {
            s = after(s);
            int town = s.intValueExact() / 65536 % hooks;
            int at = 0;
            for (int hook = 0; hook < hooks; hook++) {
                at = sacks.get(hook).town == town ? hook : at;
            }
            if (in[at] == room(at)) {
                in[at] = 0;
            }
            s = after(s);
            int drawn = s.intValueExact() / 65536 % 10;
            int[] t = tenths(make(0, town), yards(at), false);
            int how = drawn < t[0] ? 0 : drawn < t[0] + t[1] && in[next(at)] < room(next(at)) ? 1 : 2;
            in[how == 1 ? next(at) : at]++;
            counts[how]++;
        }
        return what == 2 ? s.intValueExact() : counts[what + 1];
    }

    private static java.math.BigInteger after(java.math.BigInteger seed) {
        java.math.BigInteger product = seed.multiply(java.math.BigInteger.valueOf(1103515245L));
        return product.add(java.math.BigInteger.valueOf(12345)).mod(java.math.BigInteger.ONE.shiftLeft(31));
    }

    int image() {
        if (hooks == 0) return STATE;
        kept = new PlainSacks();
        kept.takeOver(this);
        return seconds;
    }

    int restore() {
        if (kept == null) return STATE;
        takeOver(kept);
        return seconds;
    }

    int count(int what) {
        if (what < 0 || what > 8) return OUTSIDE;
        int in = 0;
        int wrong = 0;
        for (Sack s : sacks) {
            in += s.in.size();
            wrong += s.wrong();
        }
        return new int[] {hooks, belt.size(), in, wrong, seconds, harmed, found.size(), page.length(), read}[what];
    }

    long digest() {
        List<Integer> numbers = new ArrayList<>();
        for (int hook = 0; hook < hooks; hook++) {
            for (int what = 0; what <= 6; what++) numbers.add(hook(hook, what));
            for (int what = 0; what <= 5; what++) numbers.add(odds(0, hook, what));
            numbers.add(odds(3, hook, 3));
        }
        for (int place = 0; place < belt.size(); place++) {
            for (int what = 0; what <= 2; what++) numbers.add(belt(place, what));
        }
        if (hooks > 0) {
            for (int what = 0; what <= 1; what++) numbers.add(hanging(what));
            for (int what = 10; what <= 15; what++) numbers.add(hanging(what));
            numbers.add(hung());
            for (int town = 0; town < hooks; town++) numbers.add(where(town));
        }
        for (char c : page.toCharArray()) numbers.add((int) c);
        for (int what = 0; what <= 8; what++) numbers.add(count(what));
        long h = 827;
        for (int number : numbers) {
            h = 31 * h + number;
        }
        return h;
    }
}
