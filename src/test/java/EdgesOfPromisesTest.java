import java.math.BigInteger;
import java.util.ArrayList;
import java.util.List;

/** For each promise of ../shared/DOC.md: the last taken and the first refused, the empty and the full, the order of refusals. */
final class EdgesOfPromisesTest {
    private static final String THREE = "read 19,29,39;507", SIX = "read 11,22,33,44,55,66;123456";
    private static final Checks CHECKS = new Checks();

    public static void main(String[] args) {
        newObject();
        letter();
        blank();
        fault();
        floor();
        floorReadAgain();
        hook();
        parcel();
        belt();
        as();
        toss();
        tossThatCannotBeSo();
        carry();
        change();
        exchange();
        odds();
        hanging();
        found();
        forget();
        hung();
        where();
        shifts();
        image();
        restore();
        count();
        digest();
        lastCall();
        CHECKS.end();
    }

    private static void told(String sentence, String... lines) {
        Script.run(CHECKS, "promise " + sentence, lines);
    }

    private static void newObject() {
        told("1: no FLOOR", "count 0 = 0 | count 1 = 0 | count 2 = 0 | count 3 = 0 | count 4 = 0 | count 5 = 0 | count 6 = 0",
            "count 7 = 0 | count 8 = 0",
            "fault = 0 | blank = 0 | floor = STATE | hook 0 0 = UNKNOWN | parcel PARCEL 0 = UNKNOWN | belt 0 0 = UNKNOWN",
            "as 0 PARCEL = UNKNOWN",
            "toss 0 IN = UNKNOWN | carry 0 = UNKNOWN | change 0 = UNKNOWN | exchange 0 1 = UNKNOWN | odds PARCEL 0 0 = UNKNOWN",
            "hanging 0 = STATE",
            "hanging 1 = STATE | hanging 10 = STATE | hanging 15 = STATE | found 0 1 = UNKNOWN | forget = 0 | hung = STATE",
            "where 0 = UNKNOWN",
            "shifts 1 0 0 = STATE | image = STATE | restore = STATE | letter 49 = 1 | count 7 = 1");
        told("1: of more than one object each has its own", THREE, "parcel PARCEL 0 = 1");
        told("1: of more than one object each has its own", "count 0 = 0 | count 1 = 0 | count 8 = 0");
    }

    private static void letter() {
        told("2: code (32 to 126)", "letter 31 = OUTSIDE | letter 32 = 1 | letter 33 = 2 | letter 125 = 3 | letter 126 = 4",
            "letter 127 = OUTSIDE",
            "letter -1 = OUTSIDE | letter 0 = OUTSIDE | letter LOW = OUTSIDE | letter HIGH = OUTSIDE | letter 305 = OUTSIDE",
            "letter 128 = OUTSIDE | count 7 = 4");
        told("2: FULL: above 24", "23 times letter 49 = 23 | letter 126 = 24 | letter 32 = FULL | letter 126 = FULL | letter 49 = FULL",
            "count 7 = 24",
            "letter 31 = OUTSIDE | letter 127 = OUTSIDE | letter HIGH = OUTSIDE | blank = 24 | letter 49 = 1");
        told("2: behind THE PAGE", "write 18 | letter 44 = 3 | fault = 3 | letter 57 = 4 | fault = 3", "blank", SIX, "letter 49 = 1");
    }

    private static void blank() {
        told("3: how many letters it had", "blank = 0 | letter 65 = 1 | blank = 1 | blank = 0 | 24 times letter 65 = 24 | blank = 24",
            "count 7 = 0 | blank = 0 | letter 65 = 1");
        told("3: THE PAGE alone is empty then", THREE, "parcel TIN 1 | found 0 1 | image | write 11,22 | blank = 5 | count 0 = 3",
            "count 1 = 1 | count 6 = 1 | restore = 0 | floor = STATE");
        told("3: nothing of it is left", "write 11,22,33;12 | blank = 11 | write 1 | fault = 1 | floor = STATE | write 1,22,33;12",
            "fault = 11 | floor = STATE | write 3 | floor = 3");
    }

    private static void fault() {
        told("4: how many letters it has, if there is none", "fault = 0 | write 8 | fault = 1 | write 9 | fault = 2 | write , | fault = 3",
            "write 11,22 | fault = 8 | write ; | fault = 9",
            "write 12 | fault = 11 | write 3 | fault = 12 | floor = 3 | fault = 0");
        told("4: of a full PAGE", "write 11,22,33,44,55,66;123456 | fault = 24 | letter 49 = FULL | fault = 24", "floor = 6",
            "write 11,22,33,44,55,66;12345x | fault = 23 | floor = STATE");
        told("4: the first letter that no FLOOR has there", "write 9 | fault = 0 | write 9 | fault = 0 | blank | write 1x | fault = 1",
            "write y | fault = 1");
        told("4: behind those ahead of it", "write 11,22,33;123 | letter 52 = 13 | fault = 12 | blank", "write 11,22,33,44;123",
            "fault = 15 | write 4 | fault = 16 | write 5 | fault = 16");
        told("4: it changes nothing", "write 11x | fault = 2 | fault = 2 | count 7 = 3 | blank = 3");
    }

    private static void floor() {
        told("5: how many HOOKS; THE PAGE is empty then", "write 11,22,33;123 | floor = 3 | count 7 = 0 | count 0 = 3 | count 8 = 1",
            "floor = STATE | count 0 = 3 | count 8 = 1");
        String[] none = {"1", "11", "11,", "11,22,33", "11,22,33;", "11,22,33;12", "11,22,33;1234", "11,22,33,44;123",
            "11,22;12", "01,22,33;123", "10,22,33;123", "91,22,33;123", "11,22,33;12x",
            "11,22,33,44,55,66;12345", "11,22,33;123 ", " 11,22,33;123"};
        for (String text : none) {
            told("5: STATE: it is none", "write " + text, "floor = STATE | count 0 = 0 | count 8 = 0 | blank = " + text.length());
            told("5: STATE: it is none, and THE FLOOR stands", THREE, "parcel TIN 1 | carry 0 | image", "write " + text,
                "floor = STATE | count 0 = 3 | count 2 = 1 | restore = 5 | blank = " + text.length());
        }
        told("5: the empty PAGE is none", "floor = STATE", THREE, "floor = STATE | count 0 = 3");
    }

    private static void floorReadAgain() {
        String all = "parcel GLASS 1 | parcel GLASS 0 | parcel TIN 0 | parcel SOFT 2 | toss 0 IN | toss 1 NEXT | carry 0"
            + " | exchange 0 2 | found 0 1 | found 1 2 | image | change 1";
        String gone = "count 1 = 0 | count 2 = 0 | count 3 = 0 | count 4 = 0 | count 5 = 0 | count 6 = 0 | count 7 = 0"
            + " | belt 0 0 = UNKNOWN | restore = STATE"
            + " | hook 0 2 = 0 | hook 1 2 = 1 | hook 2 2 = 2 | hook 0 3 = 0 | hook 1 3 = 0 | hook 2 3 = 0 | forget = 0";
        told("5: another one is gone, with all that was: of the same text", "read 49,49,49;123", all, "read 49,49,49;123", gone,
            "count 0 = 3 | count 8 = 2 | hung = 6 | where 0 = 7 | hanging 0 = 660");
        told("5: another one is gone: of more HOOKS", "read 49,49,49;123", all, "hung = 1 | where 0 = 1", "read 11,22,33,44,55,66;123456",
            gone,
            "count 0 = 6 | hung = 720 | where 5 = 63 | hook 5 0 = 6 | hook 5 6 = 6 | hanging 10 = 5 | parcel PARCEL 5 = 1 | found 5 0 = 1");
        told("5: another one is gone: of fewer HOOKS", "read 49,49,49,49,49,49;123456", all, "parcel TIN 5 | carry 5 | carry 5",
            "hook 5 3 = 2 | hung = 24", "read 81,71,61;100", gone,
            "count 0 = 3 | hung = 6 | hook 3 0 = UNKNOWN | parcel PARCEL 3 = UNKNOWN | found 0 3 = UNKNOWN | where 3 = UNKNOWN",
            "hanging 13 = NONE | hanging 0 = 150",
            "read 49,49,49,49,49,49;123456", "count 2 = 0 | hook 5 2 = 5 | hook 5 3 = 0 | count 8 = 3");
        told("5: GLASS that was HARMED there is gone", "read 19,19,19;111", "parcel GLASS 0 | toss 0 IN | count 5 = 1", "read 19,19,19;111",
            "parcel GLASS 0 | parcel TIN 0 | 2 times carry 0 | count 5 = 1");
    }

    private static void hook() {
        told("6: UNKNOWN", THREE, "hook LOW 0 = UNKNOWN | hook -1 0 = UNKNOWN | hook 0 0 = 1 | hook 2 0 = 3 | hook 3 0 = UNKNOWN",
            "hook HIGH 0 = UNKNOWN", SIX, "hook 5 0 = 6 | hook 6 0 = UNKNOWN");
        told("6: OUTSIDE", THREE, "hook 0 LOW = OUTSIDE | hook 0 -1 = OUTSIDE | hook 0 0 = 1 | hook 0 6 = 5 | hook 0 7 = OUTSIDE",
            "hook 0 HIGH = OUTSIDE");
        told("6: UNKNOWN ahead of OUTSIDE", "hook 0 7 = UNKNOWN", THREE, "hook 3 7 = UNKNOWN | hook -1 -1 = UNKNOWN | hook 3 -1 = UNKNOWN");
        told("6: of an empty sack and a full one", "read 13,29,39;507", "hook 0 3 = 0 | hook 0 4 = 0 | hook 0 5 = 0 | parcel GLASS 1",
            "parcel GLASS 0 | parcel GLASS 2 | carry 0 | carry 0 | carry 0",
            "hook 0 3 = 3 | hook 0 4 = 2 | hook 0 5 = 3 | change 0 = 3 | hook 0 3 = 0 | hook 0 4 = 0 | hook 0 5 = 0");
    }

    private static void parcel() {
        told("7: OUTSIDE: kind", THREE, "parcel LOW 0 = OUTSIDE | parcel -1 0 = OUTSIDE | parcel 0 0 = 1 | parcel 4 0 = 2",
            "parcel 5 0 = OUTSIDE | parcel HIGH 0 = OUTSIDE");
        told("7: UNKNOWN: town", THREE, "parcel 0 LOW = UNKNOWN | parcel 0 -1 = UNKNOWN | parcel 0 0 = 1 | parcel 0 2 = 2",
            "parcel 0 3 = UNKNOWN | parcel 0 HIGH = UNKNOWN", SIX, "parcel 0 5 = 1 | parcel 0 6 = UNKNOWN");
        told("7: FULL", THREE, "parcel 0 0 = 1 | 7 times parcel 0 0 = 8 | parcel 0 0 = FULL | carry 0 | parcel 1 1 = 8 | belt 7 0 = 1",
            "parcel 0 0 = FULL");
        told("7: OUTSIDE ahead of UNKNOWN, that ahead of FULL", "parcel 5 0 = OUTSIDE | parcel 0 0 = UNKNOWN", THREE,
            "parcel 5 3 = OUTSIDE | parcel -1 -1 = OUTSIDE",
            "8 times parcel 0 0 = 8 | parcel 5 3 = OUTSIDE | parcel 5 0 = OUTSIDE | parcel 0 3 = UNKNOWN | parcel 0 -1 = UNKNOWN",
            "parcel 0 0 = FULL");
    }

    private static void belt() {
        told("8: UNKNOWN", "belt 0 0 = UNKNOWN", THREE, "belt 0 0 = UNKNOWN | parcel TIN 1 | belt -1 0 = UNKNOWN | belt 0 0 = 4",
            "belt 1 0 = UNKNOWN | belt LOW 0 = UNKNOWN | belt HIGH 0 = UNKNOWN",
            "7 times parcel SOFT 2 | belt 7 0 = 1 | belt 7 1 = 2 | belt 8 0 = UNKNOWN | carry 0 | belt 6 0 = 1 | belt 7 0 = UNKNOWN");
        told("8: OUTSIDE", THREE, "parcel TIN 1 | belt 0 LOW = OUTSIDE | belt 0 -1 = OUTSIDE | belt 0 0 = 4 | belt 0 2 = -2",
            "belt 0 3 = OUTSIDE | belt 0 HIGH = OUTSIDE");
        told("8: UNKNOWN ahead of OUTSIDE", THREE, "belt 0 3 = UNKNOWN | parcel TIN 1 | belt 1 3 = UNKNOWN | belt -1 -1 = UNKNOWN",
            "belt 8 3 = UNKNOWN");
    }

    private static void as() {
        told("9: UNKNOWN", "as 0 0 = UNKNOWN", THREE, "as 0 0 = UNKNOWN | parcel TIN 1 | as -1 0 = UNKNOWN | as 0 0 = 1",
            "as 1 0 = UNKNOWN | as LOW 0 = UNKNOWN | as HIGH 0 = UNKNOWN",
            "7 times parcel SOFT 2 | as 7 SOFT = 2 | as 8 SOFT = UNKNOWN");
        told("9: OUTSIDE", THREE, "parcel TIN 1 | as 0 LOW = OUTSIDE | as 0 -1 = OUTSIDE | as 0 0 = 1 | as 0 4 = 1 | as 0 5 = OUTSIDE",
            "as 0 HIGH = OUTSIDE");
        told("9: UNKNOWN ahead of OUTSIDE", THREE, "as 0 5 = UNKNOWN | parcel TIN 1 | as 1 5 = UNKNOWN | as -1 -1 = UNKNOWN");
        told("9: NONE: it is none such, and it changes nothing", THREE, "parcel HEAVY 2 | as 0 TIN = NONE | as 0 HEAVY = 2",
            "as 0 TIN = NONE | belt 0 0 = 2 | count 1 = 1");
    }

    private static void toss() {
        told("10: UNKNOWN: hook", THREE, "2 times parcel SOFT 1 | toss LOW IN = UNKNOWN | toss -1 IN = UNKNOWN | toss 0 IN = 0",
            "toss 3 IN = UNKNOWN | toss HIGH IN = UNKNOWN | toss 2 IN = 2");
        told("10: OUTSIDE: how", "read 89,29,39;507", "2 times parcel HEAVY 1 | toss 0 LOW = OUTSIDE | toss 0 -1 = OUTSIDE | toss 0 1 = 1",
            "toss 0 3 = OUTSIDE | toss 0 HIGH = OUTSIDE | toss 0 2 = 0");
        told("10: STATE: the BELT is empty", "read 79,79,79;507", "toss 0 IN = STATE | toss 0 NEXT = STATE | toss 0 BESIDE = STATE",
            "parcel TIN 0 | toss 0 NEXT = 1 | toss 0 NEXT = STATE | count 4 = 2");
        told("10: STATE: the sack is full", "read 72,79,79;507", "3 times parcel TIN 0 | toss 0 IN = 0 | toss 0 IN = 0",
            "toss 0 IN = STATE | toss 0 NEXT = STATE | toss 0 BESIDE = STATE | toss 1 IN = 1");
        told("10: the first on the BELT", "read 79,79,79;507", "parcel GLASS 2 | parcel SOFT 1 | toss 0 IN | hook 0 5 = 1 | belt 0 0 = 1",
            "belt 0 1 = 1 | count 1 = 1 | toss 0 IN | hook 0 5 = 1 | hook 0 4 = 2");
        told("10: UNKNOWN ahead of OUTSIDE, that ahead of STATE", "toss 0 3 = UNKNOWN", "read 81,89,89;507", "toss 3 3 = UNKNOWN",
            "toss 3 IN = UNKNOWN | toss 0 3 = OUTSIDE | toss 0 IN = STATE",
            "2 times parcel TIN 0 | carry 0 | toss 3 3 = UNKNOWN | toss -1 -1 = UNKNOWN | toss 0 -1 = OUTSIDE | toss 0 3 = OUTSIDE",
            "toss 0 BESIDE = STATE | toss 1 3 = OUTSIDE | toss 1 IN = STATE");
    }

    private static void tossThatCannotBeSo() {
        told("10: IN of TENTHS 0", "read 79,89,89;507", "3 times parcel HEAVY 0 | toss 1 IN = STATE | toss 0 IN = 0 | toss 2 IN = STATE",
            "toss 2 BESIDE = 2 | count 1 = 1");
        told("10: NEXT of TENTHS 0", "read 29,39,19;507", "2 times parcel PARCEL 0 | toss 0 NEXT = STATE | toss 1 NEXT = 2",
            "toss 2 NEXT = STATE | parcel SOFT 0 | toss 1 IN = 1 | toss 1 NEXT = STATE | toss 0 BESIDE = 0");
        told("10: BESIDE of TENTHS 0", "read 19,29,19;507", "4 times parcel SOFT 0 | toss 0 BESIDE = STATE | toss 1 BESIDE = 1",
            "toss 2 BESIDE = STATE | toss 2 IN = 2 | toss 0 IN = 0 | count 4 = 13");
        told("10: NEXT of a full sack", "read 89,82,89;507", "6 times parcel TIN 0 | toss 0 NEXT = 1 | toss 2 NEXT = 1",
            "toss 0 NEXT = STATE | toss 2 NEXT = STATE | toss 0 BESIDE = 0",
            "change 1 = 2 | toss 0 NEXT = 1 | toss 1 NEXT = 2 | count 1 = 1");
    }

    private static void carry() {
        told("11: UNKNOWN: hook", THREE, "2 times parcel SOFT 1 | carry LOW = UNKNOWN | carry -1 = UNKNOWN | carry 0 = 5",
            "carry 3 = UNKNOWN | carry HIGH = UNKNOWN | carry 2 = 14");
        told("11: STATE: the BELT is empty, or the sack is full", "read 12,82,39;507", "carry 0 = STATE | 4 times parcel TIN 0",
            "carry 0 = 5 | carry 0 = 10 | carry 0 = STATE | carry 1 = 29 | carry 1 = 48 | carry 1 = STATE | carry 2 = STATE");
        told("11: UNKNOWN ahead of STATE", "carry 0 = UNKNOWN", THREE, "carry 3 = UNKNOWN | carry -1 = UNKNOWN | carry 0 = STATE");
    }

    private static void change() {
        told("12: UNKNOWN", "change 0 = UNKNOWN", THREE, "change LOW = UNKNOWN | change -1 = UNKNOWN | change 0 = 0 | change 2 = 0",
            "change 3 = UNKNOWN | change HIGH = UNKNOWN | count 4 = 80");
        told("12: how many parcels were in it: of an empty one and a full one", THREE, "change 0 = 0 | 8 times parcel TIN 0",
            "8 times carry 0 | parcel GLASS 0 | carry 0 | hook 0 3 = 9 | change 0 = 9 | change 0 = 0 | count 4 = 165");
    }

    private static void exchange() {
        told("13: UNKNOWN: a, b", "exchange 0 1 = UNKNOWN", THREE, "exchange LOW 0 = UNKNOWN | exchange -1 0 = UNKNOWN",
            "exchange 3 0 = UNKNOWN | exchange HIGH 0 = UNKNOWN",
            "exchange 0 LOW = UNKNOWN | exchange 0 -1 = UNKNOWN | exchange 0 3 = UNKNOWN | exchange 0 HIGH = UNKNOWN | exchange 0 2 = 10",
            "exchange 2 0 = 20");
        told("13: UNKNOWN: or they are the same", THREE, "exchange 0 0 = UNKNOWN | exchange 2 2 = UNKNOWN | exchange 3 3 = UNKNOWN",
            "exchange -1 -1 = UNKNOWN | exchange 1 2 = 10");
        told("13: STATE: one does not hold what would be in it", "read 12,13,19;507", "6 times parcel TIN 0 | carry 1 | carry 1",
            "exchange 0 1 = 20 | exchange 0 1 = 30 | carry 1 | exchange 0 1 = STATE | exchange 1 0 = STATE",
            "exchange 1 2 = 45 | exchange 0 2 = STATE | exchange 2 0 = STATE | carry 0 | exchange 0 2 = STATE | change 2 = 3",
            "exchange 0 2 = 100");
        told("13: both full, each of what the other holds", "read 12,12,12;507", "4 times parcel TIN 0 | carry 0 | carry 0 | carry 1",
            "carry 1 | exchange 0 1 = 30 | hook 0 2 = 1 | hook 0 3 = 2");
    }

    private static void odds() {
        told("14: OUTSIDE: kind", THREE, "odds LOW 0 0 = OUTSIDE | odds -1 0 0 = OUTSIDE | odds 0 0 0 = 9 | odds 4 0 0 = 7",
            "odds 5 0 0 = OUTSIDE | odds HIGH 0 0 = OUTSIDE");
        told("14: UNKNOWN: hook", "odds 0 0 0 = UNKNOWN", THREE, "odds 0 LOW 0 = UNKNOWN | odds 0 -1 0 = UNKNOWN | odds 0 2 0 = 7",
            "odds 0 3 0 = UNKNOWN | odds 0 HIGH 0 = UNKNOWN");
        told("14: OUTSIDE: what", THREE, "odds 0 0 LOW = OUTSIDE | odds 0 0 -1 = OUTSIDE | odds 0 0 0 = 9 | odds 0 0 5 = 1",
            "odds 0 0 6 = OUTSIDE | odds 0 0 HIGH = OUTSIDE");
        told("14: OUTSIDE: kind ahead of UNKNOWN, that ahead of OUTSIDE: what", "odds 5 0 0 = OUTSIDE | odds 0 0 6 = UNKNOWN", THREE,
            "odds 5 3 0 = OUTSIDE | odds 5 3 6 = OUTSIDE | odds 5 0 6 = OUTSIDE | odds 0 3 6 = UNKNOWN | odds 4 -1 -1 = UNKNOWN",
            "odds 0 0 6 = OUTSIDE");
        told("14: a full sack of its own changes none of it", "read 61,69,69;507", "odds 0 0 0 = 4 | odds 0 0 1 = 2 | odds 0 0 2 = 4",
            "odds 0 0 3 = 200 | parcel TIN 0 | carry 0",
            "odds 0 0 0 = 4 | odds 0 0 1 = 2 | odds 0 0 2 = 4 | odds 0 0 3 = 200 | odds 0 0 4 = 150 | odds 0 0 5 = 0");
    }

    private static void hanging() {
        told("15: OUTSIDE", THREE, "hanging LOW = OUTSIDE | hanging -1 = OUTSIDE | hanging 0 = 345 | hanging 1 = 2 | hanging 2 = OUTSIDE",
            "hanging 3 = OUTSIDE | hanging 8 = OUTSIDE",
            "hanging 9 = OUTSIDE | hanging 10 = 2 | hanging 15 = NONE | hanging 16 = OUTSIDE | hanging HIGH = OUTSIDE");
        told("15: NONE: there is none", THREE, "hanging 12 = 1 | hanging 13 = NONE | hanging 14 = NONE | hanging 15 = NONE",
            "read 11,22,33,44;1234", "hanging 13 = 0 | hanging 14 = NONE",
            "read 11,22,33,44,55;12345", "hanging 14 = 0 | hanging 15 = NONE", SIX, "hanging 10 = 5 | hanging 15 = 0",
            "hanging 16 = OUTSIDE");
        told("15: OUTSIDE ahead of STATE", "hanging 2 = OUTSIDE | hanging -1 = OUTSIDE | hanging 9 = OUTSIDE | hanging 16 = OUTSIDE",
            "hanging 0 = STATE | hanging 1 = STATE | hanging 10 = STATE | hanging 15 = STATE");
    }

    private static void found() {
        told("16: UNKNOWN: town, in, or they are the same", "found 0 1 = UNKNOWN", THREE, "found LOW 0 = UNKNOWN | found -1 0 = UNKNOWN",
            "found 3 0 = UNKNOWN | found HIGH 0 = UNKNOWN",
            "found 0 LOW = UNKNOWN | found 0 -1 = UNKNOWN | found 0 3 = UNKNOWN | found 0 HIGH = UNKNOWN | found 0 0 = UNKNOWN",
            "found 2 2 = UNKNOWN | found 3 3 = UNKNOWN | found 0 2 = 1 | found 2 0 = 2");
        told("16: FULL", THREE, "7 times found 0 1 = 7 | found 1 2 = 8 | found 1 2 = FULL | found 0 1 = FULL | found 2 0 = FULL",
            "count 6 = 8 | hung = 1 | forget = 8 | found 2 0 = 1");
        told("16: UNKNOWN ahead of FULL", THREE, "8 times found 0 1 = 8 | found 0 0 = UNKNOWN | found 3 0 = UNKNOWN | found 0 3 = UNKNOWN",
            "found 0 2 = FULL");
    }

    private static void forget() {
        told("17: how much was", "forget = 0", THREE, "forget = 0 | found 0 1 | forget = 1 | forget = 0 | 8 times found 0 1 | forget = 8",
            "count 6 = 0 | hung = 6 | where 0 = 7 | found 2 1 = 1 | hung = 3");
    }

    private static void hung() {
        told("18: STATE: no FLOOR", "hung = STATE | write 11,22,33;12 | hung = STATE | write 3 | hung = STATE | floor = 3 | hung = 6",
            "floor = STATE | hung = 6");
        told("18: no way at all", THREE, "found 0 1 | found 0 2 = 2 | hung = 0 | forget = 2 | hung = 6");
    }

    private static void where() {
        told("19: UNKNOWN", "where 0 = UNKNOWN | where -1 = UNKNOWN", THREE, "where LOW = UNKNOWN | where -1 = UNKNOWN | where 0 = 7",
            "where 2 = 7 | where 3 = UNKNOWN | where HIGH = UNKNOWN", SIX, "where 5 = 63 | where 6 = UNKNOWN");
        told("19: as bits, from none to all", THREE, "found 0 1 | where 0 = 7 | where 1 = 6 | where 2 = 5 | found 1 2 | where 0 = 1",
            "where 1 = 2 | where 2 = 4 | found 2 0 | where 0 = 0 | where 2 = 0");
    }

    private static void shifts() {
        told("20: OUTSIDE: parcels (1 to 60)", "read 89,89,89;111", "shifts LOW 0 0 = OUTSIDE | shifts -1 0 0 = OUTSIDE",
            "shifts 0 0 0 = OUTSIDE | shifts 1 0 0 = 0 | shifts 1 0 1 = 1",
            "shifts 60 0 0 = 11 | shifts 60 0 1 = 35 | shifts 60 0 2 = 2120877416 | shifts 61 0 0 = OUTSIDE | shifts HIGH 0 0 = OUTSIDE");
        told("20: OUTSIDE: seed (0 at least)", "read 89,89,89;111", "shifts 1 LOW 2 = OUTSIDE | shifts 1 -1 2 = OUTSIDE",
            "shifts 1 0 2 = 1406932606 | shifts 1 HIGH 2 = 288979989");
        told("20: OUTSIDE: what", "read 89,89,89;111", "shifts 1 0 LOW = OUTSIDE | shifts 1 0 -1 = OUTSIDE | shifts 1 0 0 = 0",
            "shifts 1 0 2 = 1406932606 | shifts 1 0 3 = OUTSIDE | shifts 1 0 HIGH = OUTSIDE");
        told("20: OUTSIDE ahead of STATE", "shifts 0 0 0 = OUTSIDE | shifts 61 0 0 = OUTSIDE | shifts 1 -1 0 = OUTSIDE",
            "shifts 1 0 3 = OUTSIDE | shifts 1 0 -1 = OUTSIDE | shifts 1 0 0 = STATE | shifts 60 HIGH 2 = STATE");
    }

    private static void image() {
        told("21: STATE: no FLOOR", "image = STATE | write 11,22,33;123 | image = STATE | restore = STATE | floor = 3 | image = 0");
        told("21: one; the latest", THREE, "image = 0 | change 0 | image = 40 | change 0 | restore = 40 | restore = 40 | change 1",
            "image = 80 | restore = 80");
        told("21: a later one holds nothing of an earlier one", THREE, "8 times parcel GLASS 0 | 4 times carry 0 | found 0 1 | image = 20",
            "change 0 | 4 times carry 1 | change 1 | forget | image = 128",
            "parcel TIN 0 | carry 0 | restore = 128 | count 1 = 0 | count 2 = 0 | count 6 = 0 | hung = 6");
    }

    private static void restore() {
        told("22: STATE: none was kept", "restore = STATE", THREE, "restore = STATE | image = 0 | restore = 0");
        told("22: STATE: a FLOOR was read since (of the same text, too)", THREE, "image = 0", THREE, "restore = STATE | change 0",
            "restore = STATE | count 4 = 40 | image = 40 | restore = 40", "read 11,22,33;123", "restore = STATE");
        told("22: a text that is none was not read", THREE, "change 0 | image = 40 | write 19,29,39;50 | floor = STATE | restore = 40",
            "write 7 | floor = 3 | restore = STATE");
        told("22: it goes on from it, and again", THREE, "parcel TIN 0 | image = 0 | carry 0 = 5 | restore = 0 | carry 1 = 7",
            "restore = 0 | carry 2 = 9 | hook 2 3 = 1 | hook 1 3 = 0 | hook 0 3 = 0 | count 1 = 0");
    }

    private static void count() {
        told("23: OUTSIDE", "count LOW = OUTSIDE | count -1 = OUTSIDE | count 0 = 0 | count 8 = 0 | count 9 = OUTSIDE",
            "count HIGH = OUTSIDE", THREE, "count -1 = OUTSIDE | count 0 = 3 | count 8 = 1 | count 9 = OUTSIDE");
        told("23: all sacks full, the BELT, FOUND and THE PAGE, too", "read 19,29,39;507", "8 times parcel GLASS 0 | 8 times carry 0",
            "8 times parcel GLASS 0 | carry 0 | 7 times carry 1 | 8 times parcel GLASS 0 | 2 times carry 1 | 6 times carry 2",
            "8 times parcel TIN 1 | 3 times carry 2 | 3 times parcel TIN 1 | 8 times found 0 1 | 24 times letter 50", "count 0 = 3",
            "count 1 = 8 | count 2 = 27 | count 3 = 18 | count 5 = 6 | count 6 = 8 | count 7 = 24 | count 8 = 1");
        told("23: HARMED in all (those of CHANGED sacks, too)", THREE, "2 times parcel GLASS 0 | toss 0 IN | carry 0 | parcel TIN 0",
            "carry 0 | count 5 = 2 | change 0 = 3 | count 5 = 2 | parcel GLASS 0 | toss 0 IN | count 5 = 3 | change 0 | count 5 = 3");
        told("23: how often a FLOOR was read", THREE, THREE, "floor = STATE | write 11 | floor = STATE | count 8 = 2", SIX, "image",
            "restore | count 8 = 3 | blank | count 8 = 3");
    }

    private static void digest() {
        String empty = "count 0", full = "8 times parcel GLASS 0", letters = "24 times letter 126";
        String[][] states = {{empty}, {"letter 126"}, {letters}, {THREE}, {SIX}, {THREE, "letter 126"}, {THREE, letters},
            {THREE, "parcel TIN 2"}, {SIX, full},
            {SIX, full, letters, "8 times found 5 4", "carry 0", "carry 2", "exchange 4 5", "change 3"},
            {"read 81,11,11;999", full, "carry 0", "found 0 1", "found 0 2", "toss 1 IN"}};
        for (String[] state : states) {
            ThrownSacks x = new ThrownSacks();
            for (String line : state) {
                make(x, line);
            }
            CHECKS.due("promise 24: digest of " + String.join(", ", state), x.digest(), told(x));
            CHECKS.due("promise 24: digest of the same again", x.digest(), told(x));
        }
        BigInteger ofNothing = BigInteger.valueOf(31).pow(9).multiply(BigInteger.valueOf(827));
        CHECKS.due("promise 24: of a new one", new ThrownSacks().digest(), ofNothing.longValue());
    }

    private static void make(ThrownSacks x, String line) {
        int times = line.indexOf(" times ");
        if (line.startsWith("read ")) {
            for (char c : line.substring(5).toCharArray()) {
                x.letter(c);
            }
            x.floor();
        } else {
            for (int i = 0; i < (times < 0 ? 1 : Integer.parseInt(line.substring(0, times))); i++) {
                Script.answer(x, times < 0 ? line : line.substring(times + 7));
            }
        }
    }

    /** The digest from what the other calls tell, wrapping only at the end; each letter of THE PAGE is 126 here. */
    private static long told(ThrownSacks x) {
        List<Integer> numbers = new ArrayList<>();
        int hooks = x.count(0);
        for (int hook = 0; hook < hooks; hook++) {
            for (int what = 0; what <= 6; what++) numbers.add(x.hook(hook, what));
            for (int what = 0; what <= 5; what++) numbers.add(x.odds(0, hook, what));
            numbers.add(x.odds(3, hook, 3));
        }
        for (int place = 0; place < x.count(1); place++) {
            for (int what = 0; what <= 2; what++) numbers.add(x.belt(place, what));
        }
        if (hooks > 0) {
            for (int what : new int[] {0, 1, 10, 11, 12, 13, 14, 15}) numbers.add(x.hanging(what));
            numbers.add(x.hung());
            for (int town = 0; town < hooks; town++) numbers.add(x.where(town));
        }
        for (int place = 0; place < x.count(7); place++) numbers.add(126);
        for (int what = 0; what <= 8; what++) numbers.add(x.count(what));
        BigInteger h = BigInteger.valueOf(827);
        for (int number : numbers) {
            h = h.multiply(BigInteger.valueOf(31)).add(BigInteger.valueOf(number));
        }
        return h.longValue();
    }

    private static void lastCall() {
        ThrownSacks x = new ThrownSacks();
        make(x, "read 19,29,39;507");
        for (int call = 14; call <= 511; call++) {
            CHECKS.due("call " + call + ": exchange(0, 1)", x.exchange(0, 1), 10 * (call - 13));
        }
        CHECKS.due("call 512: change(0)", x.change(0), 0);
    }
}
