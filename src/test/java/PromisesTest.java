/** For each promise of ../shared/DOC.md: ordinary calls, the edges it names, and wrong ones. */
final class PromisesTest {
    private static final int UNKNOWN = -101, OUTSIDE = -102, STATE = -103, FULL = -104;
    private static final int PARCEL = 0, SOFT = 1, HEAVY = 2, GLASS = 3, TIN = 4;
    private static final int LOW = Integer.MIN_VALUE, HIGH = Integer.MAX_VALUE;
    private static final Checks CHECKS = new Checks();
    private static String promise = "";

    public static void main(String[] args) {
        newObject();
        letter();
        blank();
        fault();
        floor();
        floorForgetsAll();
        hook();
        parcel();
        belt();
        as();
        toss();
        tossNext();
        tossHarms();
        carry();
        change();
        exchange();
        odds();
        hanging();
        hangingOfLikeOnes();
        found();
        forget();
        hung();
        where();
        shifts();
        image();
        restore();
        restoreFound();
        count();
        digest();
        CHECKS.end();
    }

    private static void due(String call, long got, long want) {
        CHECKS.due(promise + ": " + call, got, want);
    }

    private static ThrownSacks paged(String text) {
        ThrownSacks x = new ThrownSacks();
        write(x, text);
        return x;
    }

    private static void write(ThrownSacks x, String text) {
        for (int i = 0; i < text.length(); i++) {
            x.letter(text.charAt(i));
        }
    }

    private static ThrownSacks floored(String text) {
        ThrownSacks x = paged(text);
        due("floor() of " + text, x.floor(), text.length() / 4);
        return x;
    }

    private static void bring(ThrownSacks x, int... kindsAndTowns) {
        for (int i = 0; i + 1 < kindsAndTowns.length; i += 2) {
            x.parcel(kindsAndTowns[i], kindsAndTowns[i + 1]);
        }
    }

    private static void carryAll(ThrownSacks x, int hook, int... kindsAndTowns) {
        for (int i = 0; i + 1 < kindsAndTowns.length; i += 2) {
            x.parcel(kindsAndTowns[i], kindsAndTowns[i + 1]);
            x.carry(hook);
        }
    }

    private static void newObject() {
        promise = "promise 1";
        due("NONE", ThrownSacks.NONE, -1);
        due("UNKNOWN", ThrownSacks.UNKNOWN, UNKNOWN);
        due("OUTSIDE", ThrownSacks.OUTSIDE, OUTSIDE);
        due("STATE", ThrownSacks.STATE, STATE);
        due("FULL", ThrownSacks.FULL, FULL);
        ThrownSacks x = new ThrownSacks();
        for (int what = 0; what <= 8; what++) {
            due("count", x.count(what), 0);
        }
        due("hook", x.hook(0, 0), UNKNOWN);
        due("hook", x.hook(0, 9), UNKNOWN);
        due("parcel", x.parcel(0, 0), UNKNOWN);
        due("parcel", x.parcel(5, 0), OUTSIDE);
        due("belt", x.belt(0, 0), UNKNOWN);
        due("as", x.as(0, 0), UNKNOWN);
        due("toss", x.toss(0, 0), UNKNOWN);
        due("carry", x.carry(0), UNKNOWN);
        due("change", x.change(0), UNKNOWN);
        due("exchange", x.exchange(0, 1), UNKNOWN);
        due("odds", x.odds(0, 0, 0), UNKNOWN);
        due("hanging", x.hanging(0), STATE);
        due("found", x.found(0, 1), UNKNOWN);
        due("forget", x.forget(), 0);
        due("hung", x.hung(), STATE);
        due("where", x.where(0), UNKNOWN);
        due("shifts", x.shifts(1, 1, 0), STATE);
        due("image", x.image(), STATE);
        due("restore", x.restore(), STATE);
        due("fault", x.fault(), 0);
        due("blank", x.blank(), 0);
        due("floor", x.floor(), STATE);
        long h = 827;
        for (int i = 0; i < 9; i++) {
            h *= 31;
        }
        due("digest", x.digest(), h);
    }

    private static void letter() {
        promise = "promise 2";
        ThrownSacks x = new ThrownSacks();
        due("letter(31)", x.letter(31), OUTSIDE);
        due("letter(127)", x.letter(127), OUTSIDE);
        due("letter(LOW)", x.letter(LOW), OUTSIDE);
        due("letter(HIGH)", x.letter(HIGH), OUTSIDE);
        due("count(7)", x.count(7), 0);
        due("letter(32)", x.letter(32), 1);
        due("letter(126)", x.letter(126), 2);
        for (int size = 3; size <= 24; size++) {
            due("letter(65)", x.letter(65), size);
        }
        due("letter(65) above 24", x.letter(65), FULL);
        due("letter(127) above 24", x.letter(127), OUTSIDE);
        due("count(7)", x.count(7), 24);
    }

    private static void blank() {
        promise = "promise 3";
        ThrownSacks x = paged("11,2");
        due("blank()", x.blank(), 4);
        due("count(7)", x.count(7), 0);
        due("blank() again", x.blank(), 0);
        due("letter", x.letter('8'), 1);
        due("fault", x.fault(), 1);
    }

    private static void fault() {
        promise = "promise 4";
        String[] texts = {"", "0", "9", "8", "80", "89", "8a", "89,", "89;", "89.", "89,11;", "89,11,", "89,11,22,", "89,11,22;",
            "11,22,33;0", "11,22,33;012", "11,22,33;0123", "11,22,33;01,", "11,22,33;/", "11,22,33;:", "11,22,33,4", "11,22,33,44;0123",
            "11,22,33,44,55;01234", "11,22,33,44,55;012345", "11,22,33,44,55,66,", "11,22,33,44,55,66;01234", "11,22,33,44,55,66;012345",
            "11,22,33,44,55,66;0123x5", ",", ";", "1,", "11,,", "11,22,33,;", "11,9", "11,20", "x1,22", "1 ", "11,22,33;0 2"};
        int[] places = {0, 0, 0, 1, 1, 2, 1, 3, 2, 2, 5, 6, 9, 9,
            10, 12, 12, 11, 9, 9, 10, 16,
            20, 20, 17, 23, 24,
            22, 0, 0, 1, 3, 9, 3, 4, 0, 1, 10};
        due("as many places as texts", places.length, texts.length);
        for (int i = 0; i < texts.length; i++) {
            due("fault() of " + texts[i], paged(texts[i]).fault(), places[i]);
        }
    }

    private static void floor() {
        promise = "promise 5";
        String[] none = {"", "11,22;12", "11,22,33", "11,22,33;", "11,22,33;12", "11,22,33;1234", "11,22,33,44;123",
            "11,22,93;123", "10,22,33;123", "11,22,33;12a", "11,22,33,", "11,22,33,44,55,66,"};
        for (String text : none) {
            ThrownSacks x = paged(text);
            due("floor() of " + text, x.floor(), STATE);
            due("count(7) of " + text, x.count(7), text.length());
            due("count(8) of " + text, x.count(8), 0);
            due("count(0) of " + text, x.count(0), 0);
        }
        String[] floors = {"11,89,22;059", "11,22,33,44;1234", "11,22,33,44,55;12345", "11,22,33,44,55,66;123456"};
        for (String text : floors) {
            ThrownSacks x = floored(text);
            int hooks = text.length() / 4;
            due("count(0)", x.count(0), hooks);
            due("count(7)", x.count(7), 0);
            due("count(8)", x.count(8), 1);
            due("hook(last)", x.hook(hooks - 1, 2), hooks - 1);
            due("hook(behind)", x.hook(hooks, 2), UNKNOWN);
            due("floor() of nothing", x.floor(), STATE);
            due("count(0) still", x.count(0), hooks);
        }
    }

    private static void floorForgetsAll() {
        promise = "promise 5, another floor";
        ThrownSacks x = floored("23,23,23,23;1234");
        bring(x, TIN, 1, GLASS, 2, GLASS, 0, PARCEL, 1);
        x.carry(0);
        x.toss(1, 0);
        x.exchange(0, 3);
        x.found(0, 1);
        x.image();
        due("hung() of four HOOKS", x.hung(), 8);
        write(x, "31,41,52;907");
        due("floor()", x.floor(), 3);
        int[] counts = {3, 0, 0, 0, 0, 0, 0, 0, 2};
        for (int what = 0; what < counts.length; what++) {
            due("count(" + what + ")", x.count(what), counts[what]);
        }
        for (int hook = 0; hook < 3; hook++) {
            due("hook(" + hook + ", 2)", x.hook(hook, 2), hook);
            due("hook(" + hook + ", 3)", x.hook(hook, 3), 0);
        }
        due("hook(3, 2)", x.hook(3, 2), UNKNOWN);
        due("belt(0, 0)", x.belt(0, 0), UNKNOWN);
        due("hung()", x.hung(), 6);
        due("restore()", x.restore(), STATE);
        due("hanging(0)", x.hanging(0), 9 * 90 + 7 * 110);
    }

    private static void hook() {
        promise = "promise 6";
        ThrownSacks x = floored("14,83,29;507");
        int[][] told = {{1, 4, 0, 0, 0, 0, 5}, {8, 3, 1, 0, 0, 0, 0}, {2, 9, 2, 0, 0, 0, 7}};
        for (int hook = 0; hook < 3; hook++) {
            for (int what = 0; what <= 6; what++) {
                due("hook(" + hook + ", " + what + ")", x.hook(hook, what), told[hook][what]);
            }
        }
        carryAll(x, 1, GLASS, 1, TIN, 0, GLASS, 2);
        int[] full = {8, 3, 1, 3, 2, 2, 0};
        for (int what = 0; what <= 6; what++) {
            due("hook(1, " + what + ")", x.hook(1, what), full[what]);
        }
        x.exchange(1, 2);
        int[] moved = {2, 9, 1, 3, 2, 2, 0};
        for (int what = 0; what <= 6; what++) {
            due("hook(2, " + what + ")", x.hook(2, what), moved[what]);
        }
        due("hook(1, 6)", x.hook(1, 6), 7);
        due("hook(0, 7)", x.hook(0, 7), OUTSIDE);
        due("hook(0, -1)", x.hook(0, -1), OUTSIDE);
        due("hook(0, LOW)", x.hook(0, LOW), OUTSIDE);
        due("hook(3, 7)", x.hook(3, 7), UNKNOWN);
        due("hook(-1, 0)", x.hook(-1, 0), UNKNOWN);
        due("hook(HIGH, 0)", x.hook(HIGH, 0), UNKNOWN);
        due("hook(LOW, HIGH)", x.hook(LOW, HIGH), UNKNOWN);
    }

    private static void parcel() {
        promise = "promise 7";
        ThrownSacks x = floored("11,11,11;111");
        due("parcel(-1, 9)", x.parcel(-1, 9), OUTSIDE);
        due("parcel(5, 0)", x.parcel(5, 0), OUTSIDE);
        due("parcel(HIGH, LOW)", x.parcel(HIGH, LOW), OUTSIDE);
        due("parcel(0, 3)", x.parcel(0, 3), UNKNOWN);
        due("parcel(0, -1)", x.parcel(0, -1), UNKNOWN);
        for (int lie = 1; lie <= 8; lie++) {
            due("parcel", x.parcel(lie % 5, lie % 3), lie);
        }
        due("parcel(0, 0) of nine", x.parcel(0, 0), FULL);
        due("parcel(0, 3) of nine", x.parcel(0, 3), UNKNOWN);
        due("parcel(5, 0) of nine", x.parcel(5, 0), OUTSIDE);
        due("count(1)", x.count(1), 8);
        x.carry(0);
        due("parcel after one went", x.parcel(4, 2), 8);
    }

    private static void belt() {
        promise = "promise 8";
        ThrownSacks x = floored("12,12,12;111");
        bring(x, PARCEL, 2, SOFT, 1, HEAVY, 0, GLASS, 2, TIN, 1);
        int[] towns = {2, 1, 0, 2, 1};
        int[] grips = {0, 1, -2, -1, -2};
        for (int place = 0; place < 5; place++) {
            due("belt(" + place + ", 0)", x.belt(place, 0), place);
            due("belt(" + place + ", 1)", x.belt(place, 1), towns[place]);
            due("belt(" + place + ", 2)", x.belt(place, 2), grips[place]);
        }
        due("belt(5, 0)", x.belt(5, 0), UNKNOWN);
        due("belt(5, 3)", x.belt(5, 3), UNKNOWN);
        due("belt(-1, 0)", x.belt(-1, 0), UNKNOWN);
        due("belt(HIGH, 0)", x.belt(HIGH, 0), UNKNOWN);
        due("belt(0, 3)", x.belt(0, 3), OUTSIDE);
        due("belt(0, -1)", x.belt(0, -1), OUTSIDE);
        x.carry(0);
        for (int place = 0; place < 4; place++) {
            due("the first went: belt(" + place + ", 0)", x.belt(place, 0), place + 1);
            due("the first went: belt(" + place + ", 1)", x.belt(place, 1), towns[place + 1]);
            due("the first went: belt(" + place + ", 2)", x.belt(place, 2), grips[place + 1]);
        }
        due("the first went: belt(4, 1)", x.belt(4, 1), UNKNOWN);
        due("it is in the sack", x.hook(0, 4), 1);
    }

    private static void as() {
        promise = "promise 9";
        ThrownSacks x = floored("11,11,11;111");
        bring(x, PARCEL, 2, SOFT, 1, HEAVY, 0, GLASS, 2, TIN, 1);
        int[] towns = {2, 1, 0, 2, 1};
        for (int place = 0; place < 5; place++) {
            for (int kind = 0; kind < 5; kind++) {
                boolean is = kind == PARCEL || kind == place || place == TIN && kind == HEAVY;
                due("as(" + place + ", " + kind + ")", x.as(place, kind), is ? towns[place] : -1);
            }
        }
        due("as(5, 0)", x.as(5, 0), UNKNOWN);
        due("as(5, 5)", x.as(5, 5), UNKNOWN);
        due("as(-1, -1)", x.as(-1, -1), UNKNOWN);
        due("as(0, 5)", x.as(0, 5), OUTSIDE);
        due("as(0, -1)", x.as(0, -1), OUTSIDE);
    }

    private static void toss() {
        promise = "promise 10";
        ThrownSacks x = floored("32,19,89;111");
        due("of no parcel", x.toss(0, 0), STATE);
        due("toss(3, 3)", x.toss(3, 3), UNKNOWN);
        due("toss(-1, 0)", x.toss(-1, 0), UNKNOWN);
        due("toss(0, 3)", x.toss(0, 3), OUTSIDE);
        due("toss(0, -1)", x.toss(0, -1), OUTSIDE);
        bring(x, PARCEL, 0, PARCEL, 0);
        due("IN", x.toss(0, 0), 0);
        due("SECONDS", x.count(4), 2);
        due("BESIDE", x.toss(0, 2), 0);
        due("SECONDS", x.count(4), 2 + 2 + 9);
        due("both are in it", x.hook(0, 3), 2);
        bring(x, SOFT, 1, HEAVY, 1, PARCEL, 1);
        due("a full one", x.toss(0, 0), STATE);
        due("a full one, NEXT", x.toss(0, 1), STATE);
        due("a full one, BESIDE", x.toss(0, 2), STATE);
        due("SOFT of one yard is never NEXT", x.toss(1, 1), STATE);
        due("SOFT of one yard is never BESIDE", x.toss(1, 2), STATE);
        due("SOFT of one yard", x.toss(1, 0), 1);
        due("HEAVY of eight yards is never IN", x.toss(2, 0), STATE);
        due("HEAVY of eight yards may lie BESIDE", x.toss(2, 2), 2);
        due("SECONDS", x.count(4), 13 + 2 + 2 + 19);
        due("one yard is never NEXT", x.toss(1, 1), STATE);
        due("one yard may lie BESIDE", x.toss(1, 2), 1);
        due("SECONDS", x.count(4), 36 + 2 + 5);
        due("count(1)", x.count(1), 0);
        due("count(2)", x.count(2), 5);
    }

    private static void tossNext() {
        promise = "promise 10, NEXT";
        ThrownSacks x = floored("41,42,41;111");
        bring(x, PARCEL, 0, PARCEL, 2, PARCEL, 1, TIN, 0, PARCEL, 1);
        due("the next of the first", x.toss(0, 1), 1);
        due("SECONDS", x.count(4), 2);
        due("WRONG", x.count(3), 1);
        due("the next of the last", x.toss(2, 1), 1);
        due("count(1)", x.count(1), 3);
        due("a full next, behind", x.toss(2, 1), STATE);
        due("a full next, ahead", x.toss(0, 1), STATE);
        due("nothing changed", x.count(1), 3);
        due("nothing changed", x.count(4), 4);
        x.change(1);
        due("the next of the middle", x.toss(1, 1), 2);
        due("HEAVY flies NEXT, too", x.toss(0, 1), 1);
        due("SOFT of eight yards", x.parcel(SOFT, 1), 2);
        due("IN", x.toss(1, 0), 1);
        due("the next is full, so BESIDE", x.toss(0, 2), 0);
    }

    private static void tossHarms() {
        promise = "promise 10, HARMED";
        ThrownSacks x = floored("49,49,49;111");
        bring(x, GLASS, 0, GLASS, 0, GLASS, 0);
        x.toss(0, 0);
        due("IN", x.count(5), 1);
        x.toss(0, 1);
        due("NEXT", x.count(5), 2);
        x.toss(0, 2);
        due("BESIDE is carried", x.count(5), 2);
        bring(x, TIN, 0, TIN, 0, TIN, 0, GLASS, 0, HEAVY, 0);
        x.toss(2, 1);
        due("the GLASS there was HARMED when it was thrown", x.count(5), 2);
        x.toss(0, 2);
        due("a TIN BESIDE comes into the sack", x.count(5), 3);
        x.toss(0, 0);
        due("each is HARMED once", x.count(5), 3);
        x.carry(0);
        due("a GLASS behind a TIN", x.count(5), 3);
        x.toss(0, 0);
        due("HEAVY is no TIN", x.count(5), 3);
        bring(x, GLASS, 1, TIN, 0, GLASS, 1, TIN, 1);
        x.carry(1);
        x.toss(0, 1);
        due("a TIN that comes NEXT", x.count(5), 4);
        x.carry(2);
        x.toss(2, 0);
        due("a TIN that is IN", x.count(5), 5);
        bring(x, GLASS, 1);
        x.carry(2);
        x.exchange(1, 2);
        due("not by EXCHANGED", x.count(5), 5);
        x.change(1);
        due("those of CHANGED sacks, too", x.count(5), 5);
    }

    private static void carry() {
        promise = "promise 11";
        ThrownSacks x = floored("12,81,33;111");
        due("of no parcel", x.carry(0), STATE);
        due("carry(3)", x.carry(3), UNKNOWN);
        due("carry(-1)", x.carry(-1), UNKNOWN);
        bring(x, GLASS, 0, TIN, 0, HEAVY, 2, SOFT, 1);
        due("one yard", x.carry(0), 5);
        due("GLASS is not HARMED", x.count(5), 0);
        due("one yard", x.carry(0), 10);
        due("but by a TIN", x.count(5), 1);
        due("a full one", x.carry(0), STATE);
        due("eight yards", x.carry(1), 29);
        due("a full one", x.carry(1), STATE);
        due("three yards", x.carry(2), 38);
        due("count(1)", x.count(1), 0);
        due("WRONG", x.count(3), 2);
        due("an empty belt and a full sack", x.carry(0), STATE);
    }

    private static void change() {
        promise = "promise 12";
        ThrownSacks x = floored("12,22,32;111");
        due("change(3)", x.change(3), UNKNOWN);
        due("change(-1)", x.change(-1), UNKNOWN);
        due("of an empty one", x.change(0), 0);
        due("count(4)", x.count(4), 40);
        carryAll(x, 0, GLASS, 0, TIN, 1);
        due("of a full one", x.change(0), 2);
        due("count(4)", x.count(4), 90);
        due("count(2)", x.count(2), 0);
        due("count(3)", x.count(3), 0);
        due("hook(0, 5)", x.hook(0, 5), 0);
        due("it hangs there", x.hook(0, 2), 0);
        due("count(5)", x.count(5), 1);
        carryAll(x, 0, TIN, 1);
        due("no GLASS is left in it", x.count(5), 1);
    }

    private static void exchange() {
        promise = "promise 13";
        ThrownSacks x = floored("13,22,31;369");
        due("exchange(0, 0)", x.exchange(0, 0), UNKNOWN);
        due("exchange(0, 3)", x.exchange(0, 3), UNKNOWN);
        due("exchange(3, 0)", x.exchange(3, 0), UNKNOWN);
        due("exchange(-1, 0)", x.exchange(-1, 0), UNKNOWN);
        due("exchange(0, LOW)", x.exchange(0, LOW), UNKNOWN);
        due("empty ones", x.exchange(0, 2), 10);
        due("hook(0, 2)", x.hook(0, 2), 2);
        due("hook(2, 2)", x.hook(2, 2), 0);
        due("YARDS are the HOOK's", x.hook(0, 0), 1);
        due("ROOM is the HOOK's", x.hook(0, 1), 3);
        due("OFTEN is the TOWN's", x.hook(0, 6), 9);
        carryAll(x, 0, GLASS, 2, PARCEL, 1);
        due("SECONDS", x.count(4), 20);
        due("two where one goes", x.exchange(0, 2), STATE);
        due("the other way round", x.exchange(2, 0), STATE);
        due("nothing changed", x.count(4), 20);
        due("just as many as go", x.exchange(0, 1), 30);
        due("hook(1, 3)", x.hook(1, 3), 2);
        due("hook(1, 4)", x.hook(1, 4), 1);
        due("hook(1, 5)", x.hook(1, 5), 1);
        due("hook(0, 3)", x.hook(0, 3), 0);
        due("hook(0, 2)", x.hook(0, 2), 1);
        carryAll(x, 0, PARCEL, 0, PARCEL, 0, PARCEL, 0);
        due("three where two go", x.exchange(0, 1), STATE);
        due("three where two go", x.exchange(1, 0), STATE);
        due("WRONG", x.count(3), 4);
    }

    private static void odds() {
        promise = "promise 14";
        ThrownSacks x = floored("11,41,81;111");
        int[][] parcels = {{9, 0, 1, 25, 50, 1}, {6, 1, 3, 20 + 60 + 33, 110, 0}, {2, 2, 6, 20 + 120 + 114, 190, 0}};
        int[][] soft = {{10, 0, 0, 20, 50, 1}, {7, 1, 2, 20 + 60 + 22, 110, 1}, {3, 2, 5, 20 + 120 + 95, 190, 0}};
        int[][] heavy = {{7, 1, 2, 20 + 60 + 10, 50, 0}, {4, 2, 4, 20 + 120 + 44, 110, 0}, {0, 3, 7, 20 + 180 + 133, 190, 0}};
        int[][] glass = {{8, 0, 2, 20 + 10 + 72, 50, 0}, {5, 1, 4, 20 + 60 + 44 + 54, 110, 0}, {1, 3, 6, 20 + 180 + 114 + 36, 190, 0}};
        int[][][] told = {parcels, soft, heavy, glass, heavy};
        allOdds(x, told);
        carryAll(x, 1, PARCEL, 1);
        int[][] behind = {{9, 0, 1, 25, 50, 1}, {6, 1, 3, 113, 110, 0}, {2, 0, 8, 20 + 152, 190, 1}};
        allOdds(x, new int[][][] {behind});
        due("GLASS, the next full", x.odds(GLASS, 2, 3), 20 + 171 + 9);
        due("TIN, the next full", x.odds(TIN, 0, 2), 3);
        due("odds(-1, 9, 9)", x.odds(-1, 9, 9), OUTSIDE);
        due("odds(5, 0, 0)", x.odds(5, 0, 0), OUTSIDE);
        due("odds(0, 3, 9)", x.odds(0, 3, 9), UNKNOWN);
        due("odds(0, -1, 0)", x.odds(0, -1, 0), UNKNOWN);
        due("odds(0, 0, 6)", x.odds(0, 0, 6), OUTSIDE);
        due("odds(0, 0, -1)", x.odds(0, 0, -1), OUTSIDE);
    }

    private static void allOdds(ThrownSacks x, int[][][] told) {
        for (int kind = 0; kind < told.length; kind++) {
            for (int hook = 0; hook < told[kind].length; hook++) {
                for (int what = 0; what <= 5; what++) {
                    due("odds(" + kind + ", " + hook + ", " + what + ")", x.odds(kind, hook, what), told[kind][hook][what]);
                }
            }
        }
    }

    private static void hanging() {
        promise = "promise 15";
        // the less of COST and of CARRYING, by YARDS 1, 4, 8: 25, 110, 190
        ThrownSacks x = floored("81,41,11;519");
        due("hanging(0)", x.hanging(0), 9 * 25 + 5 * 110 + 190);
        int[] towns = {1, 0, 2, -1, -1, -1};
        for (int hook = 0; hook < 6; hook++) {
            due("hanging(" + (10 + hook) + ")", x.hanging(10 + hook), towns[hook]);
        }
        due("hanging(1)", x.hanging(1), 1);
        carryAll(x, 1, PARCEL, 1);
        carryAll(x, 0, PARCEL, 1);
        due("full sacks are none of it", x.hanging(0), 9 * 25 + 5 * 110 + 190);
        due("exchange(0, 1)", x.exchange(0, 1) > 0 ? 1 : 0, 1);
        due("hanging(1)", x.hanging(1), 0);
        x.exchange(0, 2);
        due("hanging(1)", x.hanging(1), 1);
        x.exchange(1, 2);
        due("hanging(1)", x.hanging(1), 2);
        int[] outside = {-1, 2, 9, 16, LOW, HIGH};
        for (int what : outside) {
            due("hanging(" + what + ")", x.hanging(what), OUTSIDE);
            due("hanging(" + what + ") without a floor", new ThrownSacks().hanging(what), OUTSIDE);
        }
        due("hanging(15) without a floor", new ThrownSacks().hanging(15), STATE);
        due("hanging(1) without a floor", new ThrownSacks().hanging(1), STATE);
    }

    private static void hangingOfLikeOnes() {
        promise = "promise 15, like ones";
        ThrownSacks x = floored("81,41,11,41;2222");
        due("hanging(0)", x.hanging(0), 2 * (190 + 110 + 25 + 110));
        for (int hook = 0; hook < 4; hook++) {
            due("the first by numbers", x.hanging(10 + hook), hook);
        }
        ThrownSacks y = floored("41,11,41,41;1919");
        int[] towns = {0, 1, 2, 3};
        for (int hook = 0; hook < 4; hook++) {
            due("y's hanging(" + (10 + hook) + ")", y.hanging(10 + hook), towns[hook]);
        }
        ThrownSacks z = floored("41,41,81,11,11,81;900900");
        int[] others = {1, 2, 4, 0, 3, 5};
        for (int hook = 0; hook < 6; hook++) {
            due("z's hanging(" + (10 + hook) + ")", z.hanging(10 + hook), others[hook]);
        }
        due("z's hanging(0)", z.hanging(0), 450);
        due("z's hanging(1)", z.hanging(1), 4);
    }

    private static void found() {
        promise = "promise 16";
        ThrownSacks x = floored("11,11,11;111");
        due("found(0, 0)", x.found(0, 0), UNKNOWN);
        due("found(0, 3)", x.found(0, 3), UNKNOWN);
        due("found(3, 0)", x.found(3, 0), UNKNOWN);
        due("found(-1, 0)", x.found(-1, 0), UNKNOWN);
        due("found(0, HIGH)", x.found(0, HIGH), UNKNOWN);
        for (int much = 1; much <= 8; much++) {
            due("found", x.found(much % 2, 2), much);
        }
        due("found of nine", x.found(0, 1), FULL);
        due("found(1, 1) of nine", x.found(1, 1), UNKNOWN);
        due("count(6)", x.count(6), 8);
    }

    private static void forget() {
        promise = "promise 17";
        ThrownSacks x = floored("11,11,11;111");
        due("forget()", x.forget(), 0);
        x.found(0, 1);
        x.found(1, 0);
        due("hung()", x.hung(), 2);
        due("forget()", x.forget(), 2);
        due("count(6)", x.count(6), 0);
        due("hung()", x.hung(), 6);
        due("where(2)", x.where(2), 7);
        due("forget() again", x.forget(), 0);
        due("found", x.found(0, 1), 1);
    }

    private static void hung() {
        promise = "promise 18";
        int[] all = {6, 24, 120, 720};
        String[] floors = {"11,11,11;111", "11,11,11,11;1111", "11,11,11,11,11;11111", "11,11,11,11,11,11;111111"};
        for (int i = 0; i < 4; i++) {
            due("hung()", floored(floors[i]).hung(), all[i]);
        }
        ThrownSacks x = floored(floors[1]);
        x.exchange(0, 3);
        x.found(0, 1);
        due("0 just ahead of 1, or at the end behind it", x.hung(), 6 + 2);
        x.found(0, 1);
        due("the same again", x.hung(), 8);
        x.found(1, 0);
        due("only the last two are NEXT to one another", x.hung(), 4);
        x.found(2, 3);
        due("2 ahead of 3", x.hung(), 2);
        x.found(2, 1);
        due("two sacks on one HOOK", x.hung(), 0);
        for (int town = 0; town < 4; town++) {
            due("where", x.where(town), 0);
        }
    }

    private static void where() {
        promise = "promise 19";
        ThrownSacks x = floored("11,11,11,11;1111");
        due("where(0)", x.where(0), 15);
        due("where(3)", x.where(3), 15);
        due("where(4)", x.where(4), UNKNOWN);
        due("where(-1)", x.where(-1), UNKNOWN);
        due("where(LOW)", x.where(LOW), UNKNOWN);
        x.found(0, 1);
        due("where(0)", x.where(0), 15);
        due("where(1)", x.where(1), 14);
        due("where(2)", x.where(2), 15);
        x.found(1, 2);
        due("0 1 2 3, or 3 0 1 2; not 1 2 behind one another at the end: where(0)", x.where(0), 3);
        due("where(1)", x.where(1), 6);
        due("where(2)", x.where(2), 12);
        due("where(3)", x.where(3), 9);
    }

    private static void shifts() {
        promise = "promise 20";
        ThrownSacks x = floored("89,89,89;111");
        int[] outside = {0, 61, -1, LOW, HIGH};
        for (int parcels : outside) {
            due("shifts(" + parcels + ", 0, 0)", x.shifts(parcels, 0, 0), OUTSIDE);
            due("shifts(" + parcels + ", 0, 0)", new ThrownSacks().shifts(parcels, 0, 0), OUTSIDE);
        }
        due("shifts(1, -1, 0)", x.shifts(1, -1, 0), OUTSIDE);
        due("shifts(1, 0, 3)", x.shifts(1, 0, 3), OUTSIDE);
        due("shifts(1, 0, -1)", x.shifts(1, 0, -1), OUTSIDE);
        due("shifts(60, HIGH, 2) without a floor", new ThrownSacks().shifts(60, HIGH, 2), STATE);
        // SEED 0: 12345, then 1103515245 * 12345 + 12345 by 2 to the 31: its rest is 1406932606; that by 65536 is 21468, so 8: BESIDE
        due("shifts(1, 0, 2)", x.shifts(1, 0, 2), 1406932606);
        due("shifts(1, 0, 1)", x.shifts(1, 0, 1), 1);
        due("shifts(1, 0, 0)", x.shifts(1, 0, 0), 0);
        for (int parcels = 1; parcels <= 60; parcels++) {
            asCounted(x, "89,89,89;111", parcels, 1000 * parcels + 7);
        }
        ThrownSacks y = floored("42,81,53,21;1111");
        carryAll(y, 1, PARCEL, 0);
        y.exchange(0, 3);
        y.exchange(1, 2);
        for (int parcels = 1; parcels <= 60; parcels++) {
            asCounted(y, "42,81,53,21;1111", parcels, HIGH - 999 * parcels);
        }
        due("nothing changed", y.count(2), 1);
        due("nothing changed", y.count(4), 19 + 20);
    }

    private static void asCounted(ThrownSacks x, String text, int parcels, int seed) {
        int hooks = text.length() / 4;
        int[] in = new int[hooks];
        long s = seed;
        int next = 0;
        int beside = 0;
        for (int i = 0; i < parcels; i++) {
            s = (1103515245L * s + 12345L) % (1L << 31);
            int town = (int) (s / 65536 % hooks);
            int at = 0;
            while (x.hook(at, 2) != town) {
                at++;
            }
            if (in[at] == text.charAt(3 * at + 1) - '0') {
                in[at] = 0;
            }
            int after = at == hooks - 1 ? at - 1 : at + 1;
            int tenths = 10 - (text.charAt(3 * at) - '0');
            s = (1103515245L * s + 12345L) % (1L << 31);
            int drawn = (int) (s / 65536 % 10);
            if (drawn < tenths) {
                in[at]++;
            } else if (drawn < tenths + (10 - tenths) / 3 && in[after] < text.charAt(3 * after + 1) - '0') {
                in[after]++;
                next++;
            } else {
                in[at]++;
                beside++;
            }
        }
        due("shifts(" + parcels + ", " + seed + ", 0)", x.shifts(parcels, seed, 0), next);
        due("shifts(" + parcels + ", " + seed + ", 1)", x.shifts(parcels, seed, 1), beside);
        due("shifts(" + parcels + ", " + seed + ", 2)", x.shifts(parcels, seed, 2), s);
    }

    private static void image() {
        promise = "promise 21";
        ThrownSacks x = floored("19,29,39;111");
        due("image()", x.image(), 0);
        carryAll(x, 0, PARCEL, 0);
        due("image() of later", x.image(), 5);
        x.change(0);
        due("the latest", x.restore(), 5);
        due("the latest", x.hook(0, 3), 1);
    }

    private static void restore() {
        promise = "promise 22";
        ThrownSacks x = floored("19,29,39;111");
        due("none was kept", x.restore(), STATE);
        bring(x, GLASS, 0, GLASS, 1, GLASS, 2, TIN, 0, SOFT, 1);
        x.carry(0);
        x.toss(0, 0);
        x.exchange(0, 2);
        x.found(0, 1);
        write(x, "1");
        due("image()", x.image(), 17);
        long digest = x.digest();
        x.carry(2);
        x.carry(2);
        due("HARMED by the TIN", x.count(5), 3);
        x.exchange(1, 2);
        x.change(1);
        x.found(1, 2);
        x.parcel(HEAVY, 2);
        due("restore()", x.restore(), 17);
        due("all is as it was", x.digest(), digest);
        x.carry(2);
        x.carry(2);
        due("HARMED anew", x.count(5), 3);
        x.forget();
        due("restore() again", x.restore(), 17);
        due("all is as it was", x.digest(), digest);
        write(x, "2");
        due("restore()", x.restore(), 17);
        due("THE PAGE is not of it", x.count(7), 2);
        x.blank();
        write(x, "19,29,39;11");
        due("no floor", x.floor(), STATE);
        due("restore()", x.restore(), 17);
        write(x, "1");
        due("the same floor", x.floor(), 3);
        due("restore()", x.restore(), STATE);
        due("image()", x.image(), 0);
        due("restore()", x.restore(), 0);
        due("count(8)", x.count(8), 2);
    }

    private static void restoreFound() {
        promise = "promise 22, FOUND";
        ThrownSacks x = floored("19,29,39,49;1111");
        x.found(0, 1);
        x.found(2, 3);
        x.image();
        due("hung()", x.hung(), 4);
        due("where(3)", x.where(3), 14);
        x.forget();
        x.found(3, 0);
        due("hung()", x.hung(), 8);
        due("restore()", x.restore(), 0);
        due("hung() as it was", x.hung(), 4);
        due("where(3) as it was", x.where(3), 14);
        due("count(6)", x.count(6), 2);
    }

    private static void count() {
        promise = "promise 23";
        ThrownSacks x = floored("29,29,29,29;1234");
        bring(x, GLASS, 0, GLASS, 3, TIN, 1, PARCEL, 2);
        x.toss(0, 0);
        x.toss(3, 0);
        x.carry(0);
        x.found(0, 1);
        x.found(0, 2);
        write(x, "abc");
        int[] counts = {4, 1, 3, 1, 2 + 2 + 7, 2, 2, 3, 1};
        for (int what = 0; what < counts.length; what++) {
            due("count(" + what + ")", x.count(what), counts[what]);
        }
        due("count(-1)", x.count(-1), OUTSIDE);
        due("count(9)", x.count(9), OUTSIDE);
        due("count(LOW)", x.count(LOW), OUTSIDE);
        due("count(HIGH)", x.count(HIGH), OUTSIDE);
    }

    private static void digest() {
        promise = "promise 24";
        ThrownSacks x = paged("a~");
        due("of letters alone", x.digest(), told(x, "a~"));
        x.blank();
        write(x, "42,81,53,21;9137");
        x.floor();
        due("of a floor", x.digest(), told(x, ""));
        bring(x, GLASS, 0, TIN, 1, SOFT, 2, GLASS, 3);
        x.carry(1);
        x.toss(2, 0);
        x.exchange(0, 3);
        x.found(2, 1);
        write(x, "42,81 z");
        due("of all", x.digest(), told(x, "42,81 z"));
        due("of the same again", x.digest(), told(x, "42,81 z"));
    }

    /** The digest, by what the other calls tell. */
    private static long told(ThrownSacks x, String page) {
        long h = 827;
        int hooks = x.count(0);
        for (int hook = 0; hook < hooks; hook++) {
            for (int what = 0; what <= 6; what++) {
                h = h * 31 + x.hook(hook, what);
            }
            for (int what = 0; what <= 5; what++) {
                h = h * 31 + x.odds(0, hook, what);
            }
            h = h * 31 + x.odds(3, hook, 3);
        }
        for (int place = 0; place < x.count(1); place++) {
            for (int what = 0; what <= 2; what++) {
                h = h * 31 + x.belt(place, what);
            }
        }
        if (hooks > 0) {
            int[] whats = {0, 1, 10, 11, 12, 13, 14, 15};
            for (int what : whats) {
                h = h * 31 + x.hanging(what);
            }
            h = h * 31 + x.hung();
            for (int town = 0; town < hooks; town++) {
                h = h * 31 + x.where(town);
            }
        }
        for (int i = 0; i < page.length(); i++) {
            h = h * 31 + page.charAt(i);
        }
        for (int what = 0; what <= 8; what++) {
            h = h * 31 + x.count(what);
        }
        return h;
    }
}
