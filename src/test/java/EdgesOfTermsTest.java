/** For each sentence of the Terms of ../shared/DOC.md that names an edge: calls on both sides of it. */
final class EdgesOfTermsTest {
    private static final String[] FLOORS = {"19,29,39;123", "19,29,39,49;1234", "19,29,39,49,59;12345", "19,29,39,49,59,69;123456"};
    /** TENTHS IN by KIND, then by YARDS 1 to 8. */
    private static final int[][] TENTHS_IN = {{9, 8, 7, 6, 5, 4, 3, 2}, {10, 9, 8, 7, 6, 5, 4, 3}, {7, 6, 5, 4, 3, 2, 1, 0},
        {8, 7, 6, 5, 4, 3, 2, 1}, {7, 6, 5, 4, 3, 2, 1, 0}};
    /** A third, rounded down, of what is left of 10: by how much is left. */
    private static final int[] THIRDS = {0, 0, 0, 1, 1, 1, 2, 2, 2, 3, 3};
    private static final Checks CHECKS = new Checks();

    public static void main(String[] args) {
        hooksOfAFloor();
        yardsAndRoom();
        often();
        roomIsHowManyASackHolds();
        atFirst();
        kindsAndBelt();
        tenths();
        wherePartsOfAThrowEnd();
        secondsOfAThrow();
        fullSacks();
        harmed();
        harmedByATin();
        wrong();
        changed();
        exchanged();
        cost();
        hanging();
        exchangesOfHanging();
        foundAndHung();
        shiftsDraws();
        shiftsSeeds();
        shiftsSacks();
        image();
        refusals();
        CHECKS.end();
    }

    private static void told(String sentence, String... lines) {
        Script.run(CHECKS, "Terms, " + sentence, lines);
    }

    private static void hooksOfAFloor() {
        told("three to six HOOKS", "write ; | fault = 0 | floor = STATE | blank",
            "write 11;1 | fault = 2 | floor = STATE | blank",
            "write 11,22;12 | fault = 5 | floor = STATE | count 0 = 0",
            "read 11,22,33;123 | count 0 = 3", "read 11,22,33,44;1234 | count 0 = 4",
            "read 11,22,33,44,55;12345 | count 0 = 5", "read 11,22,33,44,55,66;123456 | count 0 = 6",
            "write 11,22,33,44,55,66,77; | fault = 17 | floor = STATE | count 0 = 6");
        for (String floor : FLOORS) {
            int hooks = floor.length() / 4;
            told("HOOKS numbered from 0", "read " + floor, "hook -1 0 = UNKNOWN | hook 0 0 = 1",
                "hook " + (hooks - 1) + " 0 = " + hooks, "hook " + hooks + " 0 = UNKNOWN");
        }
        String[] between = {"1122", "11+22", "11-22", "11 22", "11.22", "11;22"};
        for (String text : between) {
            told("\",\" between", "write " + text, "fault = 2 | floor = STATE");
        }
        told("\",\" only between", "write ,11,22,33;123 | fault = 0 | blank", "write 11,,22 | fault = 3 | blank",
            "write 11,22,33,;123 | fault = 9 | floor = STATE | blank", "write 11,22,33; | letter 44 = 10 | fault = 9 | floor = STATE");
        String[] behind = {"11,22,33:123", "11,22,33<123", "11,22,33123", "11,22,33 123"};
        for (String text : behind) {
            told("\";\" behind the HOOKS", "write " + text, "fault = 8 | floor = STATE");
        }
    }

    private static void yardsAndRoom() {
        for (int hook = 0; hook < 6; hook++) {
            String text = "11,11,11,11,11,11;111111";
            int place = 3 * hook;
            for (String sign : new String[] {"/", "0", "9", ":", ",", ";"}) {
                told("YARDS (1 to 8)", "write " + with(text, place, sign), "fault = " + place, "floor = STATE | count 7 = 24",
                    "count 0 = 0");
            }
            told("YARDS (1 to 8)", "read " + with(text, place, "1"), "hook " + hook + " 0 = 1");
            told("YARDS (1 to 8)", "read " + with(text, place, "8"), "hook " + hook + " 0 = 8 | hook " + hook + " 1 = 1");
            for (String sign : new String[] {"/", "0", ":", ",", ";"}) {
                told("ROOM (1 to 9)", "write " + with(text, place + 1, sign), "fault = " + (place + 1), "floor = STATE | count 0 = 0");
            }
            told("ROOM (1 to 9)", "read " + with(text, place + 1, "1"), "hook " + hook + " 1 = 1");
            told("ROOM (1 to 9)", "read " + with(text, place + 1, "9"), "hook " + hook + " 1 = 9 | hook " + hook + " 0 = 1");
        }
    }

    private static String with(String text, int place, String sign) {
        return text.substring(0, place) + sign + text.substring(place + 1);
    }

    private static void often() {
        for (String floor : FLOORS) {
            int hooks = floor.length() / 4;
            int first = 3 * hooks;
            for (int town = 0; town < hooks; town++) {
                for (String sign : new String[] {"/", ":", ",", ";"}) {
                    told("OFTEN (0 to 9)", "write " + with(floor, first + town, sign), "fault = " + (first + town), "floor = STATE");
                }
                told("OFTEN (0 to 9)", "read " + with(floor, first + town, "0"), "hook " + town + " 6 = 0");
                told("OFTEN (0 to 9)", "read " + with(floor, first + town, "9"), "hook " + town + " 6 = 9");
                told("for each HOOK a digit OFTEN", "write " + floor.substring(0, first + town), "fault = " + (first + town),
                    "floor = STATE");
            }
            if (hooks < 6) {
                told("a digit more", "write " + floor + "0", "fault = " + 4 * hooks, "floor = STATE | blank = " + (4 * hooks + 1));
            }
        }
        told("OFTEN of the TOWN of that number", "read 11,11,11;509", "hook 0 6 = 5 | hook 1 6 = 0 | hook 2 6 = 9",
            "exchange 0 2 | hook 0 6 = 9 | hook 2 6 = 5 | exchange 1 2 | hook 1 6 = 5 | hook 2 6 = 0");
    }

    private static void roomIsHowManyASackHolds() {
        for (int room = 1; room <= 9; room++) {
            StringBuilder fill = new StringBuilder("count 2 = 0");
            for (int many = 1; many <= room; many++) {
                fill.append(" | parcel PARCEL 0 | ").append(many % 2 == 0 ? "carry 0" : "toss 0 BESIDE = 0");
                fill.append(" | hook 0 3 = ").append(many);
            }
            told("ROOM " + room + ": how many parcels its sack holds", "read 8" + room + ",19,19;111", fill.toString(),
                "parcel PARCEL 0 | carry 0 = STATE | toss 0 IN = STATE | toss 0 NEXT = STATE | toss 0 BESIDE = STATE",
                "hook 0 3 = " + room + " | count 1 = 1 | carry 1 | hook 1 3 = 1");
        }
    }

    private static void atFirst() {
        told("at first there is no FLOOR", "count 0 = 0 | count 8 = 0 | image = STATE | hung = STATE | hook 0 0 = UNKNOWN");
        for (String floor : FLOORS) {
            int hooks = floor.length() / 4;
            StringBuilder fresh = new StringBuilder("count 4 = 0 | hook " + hooks + " 2 = UNKNOWN");
            for (int hook = 0; hook < hooks; hook++) {
                fresh.append(" | hook " + hook + " 2 = " + hook + " | hook " + hook + " 3 = 0");
            }
            told("on HOOK 0 hangs TOWN 0's sack, and so on; SECONDS are 0", "read " + floor, fresh.toString(),
                "exchange 0 " + (hooks - 1) + " | exchange 1 0 | parcel TIN 1 | carry " + (hooks - 1) + " | hook " + (hooks - 1) + " 3 = 1",
                "read " + floor, fresh.toString());
        }
    }

    private static void kindsAndBelt() {
        told("KINDS 0 to 4", "read 19,19,19;111", "parcel -1 0 = OUTSIDE | parcel 0 0 = 1 | parcel 4 0 = 2 | parcel 5 0 = OUTSIDE",
            "count 1 = 2");
        told("each for a TOWN", "read 19,19,19;111", "parcel 0 -1 = UNKNOWN | parcel 0 0 = 1 | parcel 0 2 = 2 | parcel 0 3 = UNKNOWN",
            "count 1 = 2");
        told("all are PARCELS; a TIN is HEAVY, too", "read 19,19,19;111",
            "parcel PARCEL 0 | parcel SOFT 1 | parcel HEAVY 2 | parcel GLASS 1 | parcel TIN 2",
            "as 0 PARCEL = 0 | as 1 PARCEL = 1 | as 2 PARCEL = 2 | as 3 PARCEL = 1 | as 4 PARCEL = 2",
            "as 0 SOFT = NONE | as 1 SOFT = 1 | as 2 SOFT = NONE | as 3 SOFT = NONE | as 4 SOFT = NONE",
            "as 0 HEAVY = NONE | as 1 HEAVY = NONE | as 2 HEAVY = 2 | as 3 HEAVY = NONE | as 4 HEAVY = 2",
            "as 0 GLASS = NONE | as 1 GLASS = NONE | as 2 GLASS = NONE | as 3 GLASS = 1 | as 4 GLASS = NONE",
            "as 0 TIN = NONE | as 1 TIN = NONE | as 2 TIN = NONE | as 3 TIN = NONE | as 4 TIN = 2");
        told("8 at most lie on the BELT", "read 19,19,19;111", "7 times parcel PARCEL 0 = 7 | parcel TIN 1 = 8 | parcel PARCEL 0 = FULL",
            "count 1 = 8",
            "carry 0 | parcel GLASS 2 = 8 | parcel PARCEL 0 = FULL | toss 0 IN = 0 | parcel SOFT 0 = 8 | parcel SOFT 0 = FULL");
        told("the first to come is the first to go", "read 19,19,19;111",
            "parcel TIN 0 | parcel GLASS 1 | parcel HEAVY 2 | parcel SOFT 0 | parcel PARCEL 1 | parcel TIN 2 | parcel GLASS 0",
            "parcel HEAVY 1",
            "belt 0 0 = 4 | belt 0 1 = 0 | belt 7 0 = 2 | belt 7 1 = 1 | carry 0 | belt 0 0 = 3 | belt 0 1 = 1 | belt 6 0 = 2",
            "belt 7 0 = UNKNOWN",
            "carry 0 | belt 0 0 = 2 | belt 0 1 = 2 | toss 0 IN | belt 0 0 = 1 | belt 0 1 = 0 | toss 0 IN | belt 0 0 = 0 | belt 0 1 = 1",
            "carry 0 | belt 0 0 = 4 | belt 0 1 = 2 | carry 0 | belt 0 0 = 3 | belt 0 1 = 0 | carry 0 | belt 0 0 = 2 | belt 0 1 = 1",
            "parcel SOFT 2 = 2 | carry 0 | belt 0 0 = 1 | belt 0 1 = 2 | carry 0 | belt 0 0 = UNKNOWN | count 1 = 0 | hook 0 3 = 9");
        told("GRIP", "read 19,19,19;111", "parcel PARCEL 0 | parcel SOFT 0 | parcel HEAVY 0 | parcel GLASS 0 | parcel TIN 0",
            "belt 0 2 = 0 | belt 1 2 = 1 | belt 2 2 = -2 | belt 3 2 = -1 | belt 4 2 = -2");
    }

    private static void tenths() {
        for (int kind = 0; kind <= 4; kind++) {
            for (int yards = 1; yards <= 8; yards++) {
                int in = TENTHS_IN[kind][yards - 1];
                int next = THIRDS[10 - in];
                int[] tenths = {in, next, 10 - in - next};
                int[] ends = {0, 1, 0};
                for (int how = 0; how <= 2; how++) {
                    told("IN by as many TENTHS as 10 and GRIP less YARDS, NEXT by a third of what is left, else BESIDE",
                        "read " + yards + "1,19,19;111", "odds " + kind + " 0 " + how + " = " + tenths[how], "parcel " + kind + " 0",
                        "toss 0 " + how + " = " + (tenths[how] == 0 ? "STATE" : "" + ends[how]), "count 1 = " + (tenths[how] == 0 ? 1 : 0));
                }
            }
        }
    }

    private static void wherePartsOfAThrowEnd() {
        for (int hooks = 3; hooks <= 6; hooks++) {
            String floor = "89,89,89,89,89,89".substring(0, 3 * hooks - 1) + ";" + "000000".substring(0, hooks);
            for (int hook = 0; hook < hooks; hook++) {
                int next = hook == hooks - 1 ? hooks - 2 : hook + 1;
                told("NEXT: into the sack of the HOOK one more (of the last one: one fewer)", "read " + floor, "parcel PARCEL 0",
                    "toss " + hook + " NEXT = " + next + " | hook " + next + " 3 = 1 | hook " + hook + " 3 = 0 | count 2 = 1");
                told("IN, and BESIDE, into the sack at which it was thrown", "read " + floor, "2 times parcel PARCEL 0",
                    "toss " + hook + " IN = " + hook + " | toss " + hook + " BESIDE = " + hook + " | hook " + hook + " 3 = 2",
                    "count 2 = 2");
            }
        }
    }

    private static void secondsOfAThrow() {
        for (int yards = 1; yards <= 8; yards++) {
            int carrying = 2 * yards + 3;
            told("2 SECONDS; what lies BESIDE: 2 for each of its YARDS, and 3 more", "read " + yards + "9," + (9 - yards) + "9,19;111",
                "4 times parcel HEAVY 0", yards < 8 ? "toss 0 IN = 0 | count 4 = 2" : "toss 1 IN = 1 | count 4 = 2",
                "toss 0 NEXT = 1 | count 4 = 4 | toss 0 BESIDE = 0 | count 4 = " + (6 + carrying));
            told("CARRIED: 2 SECONDS for each of its YARDS, and 3", "read " + yards + "9,19,19;111", "2 times parcel TIN 0",
                "carry 0 = " + carrying + " | count 4 = " + carrying + " | carry 0 = " + 2 * carrying);
        }
    }

    private static void fullSacks() {
        String[] hows = {"toss 0 IN = 0", "toss 0 BESIDE = 0", "carry 0"};
        for (String how : hows) {
            told("nothing can be thrown, nor carried, at a full sack", "read 82,82,82;111", "4 times parcel PARCEL 0 | carry 0",
                how + " | hook 0 3 = 2 | toss 0 IN = STATE | toss 0 NEXT = STATE | toss 0 BESIDE = STATE | carry 0 = STATE",
                "hook 0 3 = 2 | hook 1 3 = 0 | count 1 = 2 | change 0 = 2 | " + how + " | hook 0 3 = 1 | count 1 = 1");
        }
        told("what comes NEXT fills that sack, too", "read 82,82,82;111", "5 times parcel PARCEL 0 | toss 0 NEXT = 1 | toss 2 NEXT = 1",
            "carry 1 = STATE | toss 1 IN = STATE | toss 1 NEXT = STATE | toss 0 NEXT = STATE | toss 2 NEXT = STATE | hook 1 3 = 2",
            "count 1 = 3");
        told("what would come NEXT into a full one lies BESIDE", "read 89,82,89;111", "parcel TIN 0 | carry 1",
            "odds HEAVY 0 1 = 3 | odds HEAVY 0 2 = 7 | odds HEAVY 2 1 = 3", "parcel TIN 0 | carry 1",
            "odds HEAVY 0 0 = 0 | odds HEAVY 0 1 = 0 | odds HEAVY 0 2 = 10 | odds HEAVY 2 1 = 0 | odds HEAVY 2 2 = 10 | odds HEAVY 1 1 = 3",
            "2 times parcel HEAVY 0 | toss 0 NEXT = STATE | toss 2 NEXT = STATE | toss 0 BESIDE = 0 | toss 2 BESIDE = 2",
            "change 1 = 2 | parcel HEAVY 0 | odds HEAVY 0 1 = 3 | toss 0 NEXT = 1");
        told("of the first and of the last, only the one NEXT is asked", "read 81,89,89,81;1111", "2 times parcel PARCEL 0 | carry 0",
            "carry 3",
            "odds PARCEL 1 1 = 2 | odds PARCEL 2 1 = 0 | odds PARCEL 3 1 = 2 | odds PARCEL 0 1 = 2");
    }

    private static void harmed() {
        told("a GLASS that is thrown and is IN or NEXT is HARMED", "read 89,89,89;111", "4 times parcel GLASS 0",
            "count 5 = 0 | toss 0 IN | count 5 = 1 | toss 0 NEXT | count 5 = 2 | toss 2 NEXT | count 5 = 3");
        told("not one that lies BESIDE, nor one that is CARRIED", "read 89,89,89;111", "2 times parcel GLASS 0",
            "toss 0 BESIDE | count 5 = 0 | carry 0 | count 5 = 0 | hook 0 5 = 2");
        told("no other KIND is", "read 79,79,79;111", "parcel PARCEL 0 | parcel SOFT 0 | parcel HEAVY 0 | parcel TIN 0",
            "toss 0 IN | toss 0 NEXT | toss 0 IN | toss 0 NEXT | count 5 = 0 | hook 0 5 = 0");
    }

    private static void harmedByATin() {
        String[] comings = {"toss 0 IN = 0", "toss 0 BESIDE = 0", "carry 0", "toss 2 NEXT = 1"};
        int[] ends = {0, 0, 0, 1};
        for (int i = 0; i < comings.length; i++) {
            told("GLASS in a sack is HARMED when a TIN comes into that sack; each once", "read 79,79,79;111", "3 times parcel GLASS 1",
                "2 times parcel TIN 0",
                "carry " + ends[i] + " | carry " + ends[i] + " | carry " + (1 - ends[i]) + " | count 5 = 0 | " + comings[i] + "",
                "count 5 = 2",
                comings[i] + " | count 5 = 2 | parcel TIN 0 | carry " + (1 - ends[i]) + " | count 5 = 3");
        }
        told("HEAVY is no TIN", "read 79,79,79;111", "parcel GLASS 1 | parcel HEAVY 0 | parcel HEAVY 1 | 3 times carry 0 | count 5 = 0");
        told("a GLASS that was HARMED by a throw is not HARMED again", "read 79,79,79;111", "2 times parcel GLASS 0 | toss 0 IN",
            "toss 0 BESIDE",
            "parcel TIN 0 | carry 0 | count 5 = 2 | parcel TIN 0 | carry 0 | count 5 = 2");
        told("a GLASS that comes behind a TIN is not HARMED, but by the next TIN", "read 79,79,79;111", "parcel TIN 0 | parcel GLASS 0",
            "parcel TIN 0",
            "2 times carry 0 | count 5 = 0 | carry 0 | count 5 = 1");
        told("not by EXCHANGED", "read 19,19,19;111", "parcel GLASS 0 | parcel TIN 1 | carry 0 | carry 1 | exchange 0 1 | exchange 1 2",
            "count 5 = 0",
            "parcel TIN 2 | carry 1 | count 5 = 0 | parcel TIN 2 | carry 2 | count 5 = 1");
        told("all of a sack but one", "read 19,19,19;111", "8 times parcel GLASS 0 | 8 times carry 0 | parcel TIN 0 | carry 0",
            "count 5 = 8 | hook 0 3 = 9");
        told("into that sack: not the GLASS where it was thrown at, when it comes NEXT", "read 79,79,79;111",
            "2 times parcel GLASS 0 | 2 times parcel TIN 0 | carry 0 | carry 1 | toss 0 NEXT = 1 | count 5 = 1",
            "toss 0 BESIDE = 0 | count 5 = 2");
        told("a GLASS thrown behind a TIN is HARMED by the throw alone", "read 79,79,79;111",
            "parcel TIN 0 | 2 times parcel GLASS 0 | carry 0 | toss 0 IN | count 5 = 1 | toss 0 BESIDE | count 5 = 1");
        told("GLASS of a CHANGED sack is not in it", "read 79,79,79;111", "8 times parcel GLASS 0 | 8 times carry 0 | change 0 = 8",
            "parcel TIN 0 | carry 0 | count 5 = 0 | parcel GLASS 0 | parcel TIN 0 | carry 0 | carry 0 | count 5 = 1");
        told("a TIN that is refused harms none", "read 81,81,81;111", "parcel GLASS 0 | carry 1 | parcel TIN 0",
            "toss 1 BESIDE = STATE | carry 1 = STATE | toss 0 IN = STATE | toss 0 NEXT = STATE | toss 2 NEXT = STATE | count 5 = 0");
    }

    private static void wrong() {
        told("WRONG is a parcel in a sack of another TOWN", "read 89,89,89;111", "count 3 = 0 | parcel PARCEL 0 | parcel PARCEL 1",
            "parcel PARCEL 1 | parcel PARCEL 2",
            "count 3 = 0 | carry 0 | hook 0 4 = 0 | carry 0 | hook 0 4 = 1 | toss 0 NEXT = 1 | hook 1 4 = 0 | toss 2 NEXT = 1",
            "hook 1 4 = 1 | count 3 = 2",
            "exchange 0 1 | hook 0 4 = 1 | hook 1 4 = 1 | exchange 1 2 | hook 2 4 = 1 | hook 1 4 = 0 | count 3 = 2",
            "parcel PARCEL 1 | carry 0 | count 3 = 2 | parcel PARCEL 0 | carry 0 | count 3 = 3 | change 0 = 4 | count 3 = 1");
    }

    private static void changed() {
        told("CHANGED: it is empty then; 40 SECONDS", "read 12,19,19;111", "change 0 = 0 | count 4 = 40 | 3 times parcel PARCEL 1",
            "carry 0 | change 0 = 1 | count 4 = 85",
            "carry 0 | hook 0 3 = 1 | parcel GLASS 1 | carry 0 | carry 0 = STATE | change 0 = 2 | count 4 = 135 | hook 0 3 = 0",
            "hook 0 4 = 0 | hook 0 5 = 0",
            "hook 0 2 = 0 | count 2 = 0 | count 1 = 1 | carry 0 = 140");
        told("a CHANGED sack is its TOWN'S still", "read 19,19,19;507",
            "exchange 0 2 | parcel PARCEL 2 | parcel PARCEL 0 | carry 0 | change 0 = 1",
            "hook 0 2 = 2 | hook 2 2 = 0 | hook 0 6 = 7 | carry 0 | hook 0 4 = 1 | exchange 0 2 | hook 2 4 = 1 | hook 0 2 = 0");
        told("only that one is CHANGED", "read 19,19,19;111", "3 times parcel GLASS 0 | carry 0 | carry 1 | carry 2 | change 1 = 1",
            "hook 0 3 = 1 | hook 1 3 = 0 | hook 2 3 = 1");
    }

    private static void exchanged() {
        told("only if each holds what would be in it", "read 11,12,13;123", "6 times parcel PARCEL 0 | carry 2 | exchange 0 2 = 15",
            "exchange 2 0 = 25",
            "carry 2 | exchange 0 2 = STATE | exchange 2 0 = STATE | exchange 1 2 = 40 | hook 1 3 = 2 | exchange 0 1 = STATE",
            "exchange 2 1 = 50",
            "carry 2 | exchange 1 2 = STATE | exchange 2 1 = STATE | carry 1 | exchange 1 2 = STATE | change 2 = 3 | exchange 1 2 = 110",
            "hook 2 3 = 1 | hook 1 3 = 0 | carry 1 | exchange 0 1 = 125 | hook 0 3 = 1");
        told("full ones of like ROOM", "read 12,12,12;123", "4 times parcel PARCEL 0 | carry 0 | carry 0 | carry 1 | carry 1",
            "exchange 0 1 = 30");
        told("with all in them; YARDS and ROOM are the HOOK'S", "read 17,28,39;507", "parcel GLASS 0 | parcel PARCEL 1 | parcel TIN 2",
            "carry 0 | carry 0 | carry 2",
            "exchange 0 2 | hook 0 0 = 1 | hook 0 1 = 7 | hook 0 2 = 2 | hook 0 3 = 1 | hook 0 4 = 0 | hook 0 5 = 0 | hook 0 6 = 7",
            "hook 2 0 = 3 | hook 2 1 = 9 | hook 2 2 = 0 | hook 2 3 = 2 | hook 2 4 = 1 | hook 2 5 = 1 | hook 2 6 = 5 | hook 1 2 = 1");
        told("10 SECONDS", "read 11,11,11;111", "exchange 0 1 = 10 | exchange 1 0 = 20 | exchange 0 2 = 30 | count 4 = 30");
    }

    private static void cost() {
        // by KIND, then by YARDS 1 to 8, the sack NEXT not being full; then it being full
        int[][] free = {{25, 34, 98, 113, 132, 200, 225, 254}, {20, 27, 38, 102, 119, 140, 208, 235},
            {90, 101, 116, 184, 205, 230, 302, 333}, {102, 166, 170, 178, 246, 260, 278, 350}, {90, 101, 116, 184, 205, 230, 302, 333}};
        int[][] full = {{25, 34, 47, 64, 85, 110, 139, 172}, {20, 27, 38, 53, 72, 95, 122, 153}, {35, 48, 65, 86, 111, 140, 173, 210},
            {102, 104, 110, 120, 134, 152, 174, 200}, {35, 48, 65, 86, 111, 140, 173, 210}};
        for (int kind = 0; kind <= 4; kind++) {
            for (int yards = 1; yards <= 8; yards++) {
                int carrying = 10 * (2 * yards + 3);
                String first = "odds " + kind + " 0 ";
                told("COST (the HOOK'S own taken as if it were not full), and to THROW it if that is less than what CARRYING takes",
                    "read " + yards + "1,11,19;111",
                    costed(first, free[kind][yards - 1], carrying),
                    "2 times parcel PARCEL 0 | carry 1", costed(first, full[kind][yards - 1], carrying),
                    "carry 0", costed(first, full[kind][yards - 1], carrying), "change 1 = 1",
                    costed(first, free[kind][yards - 1], carrying));
            }
        }
    }

    private static String costed(String odds, int cost, int carrying) {
        return odds + "3 = " + cost + " | " + odds + "4 = " + carrying + " | " + odds + "5 = " + (cost < carrying ? 1 : 0);
    }

    private static void hanging() {
        // the less of COST and of CARRYING by YARDS 1 to 8: 25, 34, 90, 110, 130, 150, 170, 190
        told("OFTEN times the less of COST and of CARRYING", "read 11,21,31;111 | hanging 0 = 149", "read 41,51,61;111 | hanging 0 = 390",
            "read 71,81,81;111 | hanging 0 = 550", "read 11,81,81;190 | hanging 0 = 415 | hanging 10 = 1 | hanging 11 = 0",
            "hanging 12 = 2");
        told("no sack being full", "read 31,31,31;111", "hanging 0 = 270 | 3 times parcel PARCEL 0 | carry 0 | carry 1 | carry 2",
            "odds PARCEL 0 3 = 47 | hanging 0 = 270");
        told("OFTEN 0 of all, and 9 of all", "read 11,21,31;000 | hanging 0 = 0 | hanging 10 = 0 | hanging 11 = 1 | hanging 12 = 2",
            "hanging 1 = 0",
            "read 81,81,81,81,81,81;999999 | hanging 0 = 10260 | hanging 10 = 0 | hanging 15 = 5");
        told("of like ones the first by numbers, TOWN on HOOK 0 first", "read 11,81,81;099 | hanging 10 = 1 | hanging 11 = 0",
            "hanging 12 = 2",
            "read 81,11,11;990 | hanging 10 = 2 | hanging 11 = 0 | hanging 12 = 1", "read 11,81,11;303 | hanging 10 = 0 | hanging 11 = 1",
            "hanging 12 = 2",
            "read 81,81,81,11;1911 | hanging 10 = 0 | hanging 11 = 2 | hanging 12 = 3 | hanging 13 = 1 | hanging 14 = NONE");
        told("it does not hang on how they hang now", "read 11,21,31;123", "hanging 10 = 2 | hanging 11 = 1 | hanging 12 = 0",
            "exchange 0 1 | exchange 1 2",
            "hanging 0 = 233 | hanging 10 = 2 | hanging 11 = 1 | hanging 12 = 0");
    }

    private static void exchangesOfHanging() {
        told("by how few EXCHANGES: none to five", "read 11,21,31,41,51,61;654321 | hanging 1 = 0",
            "read 11,21,31,41,51,61;165432 | hanging 1 = 5 | exchange 0 1 | hanging 1 = 4 | exchange 1 2 | hanging 1 = 3",
            "exchange 2 3 | hanging 1 = 2 | exchange 3 4 | hanging 1 = 1 | exchange 4 5 | hanging 1 = 0 | exchange 0 5 | hanging 1 = 1",
            "read 11,21,31,41,51,61;123456 | hanging 1 = 3 | exchange 0 5 | hanging 1 = 2 | exchange 0 1 | hanging 1 = 3");
        told("whatever is in them", "read 11,22,32;123", "hanging 1 = 1 | 2 times parcel PARCEL 0 | carry 2 | carry 2",
            "exchange 0 2 = STATE | hanging 1 = 1");
    }

    private static void foundAndHung() {
        told("FOUND (8 at most)", "read 11,11,11;111", "7 times found 0 1 = 7 | found 2 1 = 8 | found 0 1 = FULL | count 6 = 8",
            "forget = 8 | found 0 1 = 1");
        told("HUNG, nothing being FOUND", "read 11,11,11;111 | hung = 6 | where 0 = 7 | where 2 = 7", "read 11,11,11,11;1111 | hung = 24",
            "where 3 = 15",
            "read 11,11,11,11,11;11111 | hung = 120 | where 4 = 31", "read 11,11,11,11,11,11;111111 | hung = 720 | where 0 = 63",
            "where 5 = 63");
        told("NEXT of the HOOK one more, and of the last one: one fewer", "read 11,11,11;111", "found 0 1 = 1 | hung = 3 | where 0 = 7",
            "where 1 = 6 | where 2 = 5",
            "found 1 0 = 2 | hung = 2 | where 0 = 6 | where 1 = 6 | where 2 = 1 | found 2 0 = 3 | hung = 1 | where 0 = 2 | where 1 = 4",
            "where 2 = 1",
            "found 2 1 = 4 | hung = 0 | where 0 = 0 | where 1 = 0 | where 2 = 0 | where 3 = UNKNOWN | forget = 4 | hung = 6");
        told("a ring cannot hang so", "read 11,11,11;111", "found 0 1 | found 1 2 | hung = 1 | where 0 = 1 | where 1 = 2 | where 2 = 4",
            "found 2 0 | hung = 0");
        told("all of six", "read 11,11,11,11,11,11;111111", "found 5 4 | found 4 3 | found 3 2 | found 2 1 | hung = 2 | where 0 = 33",
            "where 5 = 3",
            "found 1 0 | hung = 1 | where 5 = 1 | where 0 = 32 | found 0 1 | hung = 1 | found 5 4 | found 4 3 | hung = 1 | count 6 = 8");
        told("it does not hang on how they hang now", "read 18,11,11;111", "found 0 1 | exchange 0 2 | parcel PARCEL 0 | carry 1",
            "hung = 3 | where 1 = 6");
    }

    private static void shiftsDraws() {
        // each SEED makes the DRAW of 10 of the one parcel what stands in its place; IN below 4, NEXT below 6
        int[] seeds = {21, 16, 14, 12, 8, 6, 4, 2, 0, 23};
        for (int draw = 0; draw <= 9; draw++) {
            boolean next = draw == 4 || draw == 5;
            told("IN below TENTHS IN, NEXT below TENTHS IN and NEXT together, else BESIDE", "read 69,69,69;000",
                "shifts 1 " + seeds[draw] + " 0 = " + (next ? 1 : 0) + " | shifts 1 " + seeds[draw] + " 1 = " + (draw >= 6 ? 1 : 0));
            told("IN below 9, never NEXT", "read 19,19,19;000",
                "shifts 1 " + seeds[draw] + " 0 = 0 | shifts 1 " + seeds[draw] + " 1 = " + (draw == 9 ? 1 : 0));
        }
        // the first DRAW's SEED is 65535 (TOWN 0), 65536 (1), 3 times 65536 less 1 (2), 3 times 65536 (0);
        // the second DRAW is 8, 7, 4, 3
        told("a TOWN by a DRAW: by 65536 (rounded down), its rest", "read 19,89,89;000 | shifts 1 2032319262 1 = 0", "read 89,19,19;000",
            "shifts 1 2032319262 1 = 1",
            "read 89,19,89;000 | shifts 1 1742513795 1 = 0", "read 19,89,19;000 | shifts 1 1742513795 1 = 1",
            "read 89,89,19;000 | shifts 1 1340914462 1 = 0", "read 19,19,89;000 | shifts 1 1340914462 1 = 1",
            "read 19,89,89;000 | shifts 1 1051108995 0 = 0", "read 89,19,19;000 | shifts 1 1051108995 0 = 1");
        // the first DRAW's SEED is 393215, which is TOWN 5 of six; 393216, TOWN 0; the second DRAW is 9, 8
        told("of how many there are: six", "read 89,89,89,89,89,89;000000 | shifts 1 303807262 1 = 1", "read 19,89,89,89,89,89;000000",
            "shifts 1 14001795 1 = 0",
            "read 89,19,19,19,19,19;000000 | shifts 1 14001795 1 = 1");
    }

    private static void shiftsSeeds() {
        told("the next SEED each time", "read 69,69,69;000", "shifts 1 0 2 = 1406932606 | shifts 1 1 2 = 377401575");
        told("a SEED that wraps around: its rest by 2 to the 31", "read 69,69,69;000", "shifts 1 HIGH 2 = 288979989 | shifts 1 HIGH 1 = 1",
            "shifts 1 HIGH 0 = 0",
            "shifts 1 204577074 2 = 0 | shifts 1 801440601 2 = HIGH | shifts 1 1755197195 2 = 1");
        // behind 230538014 comes 2147483647, then 1043980748: TOWN 1 of three (32767 has the rest 1), and 9 of 10
        told("the greatest SEED is drawn by", "read 89,89,89;000", "shifts 1 230538014 2 = 1043980748 | shifts 1 230538014 1 = 1");
        told("two DRAWS for each parcel, 60 of them", "read 69,69,69;000", "shifts 59 0 2 = " + seedAfter(118, 0) + "",
            "shifts 60 0 2 = " + seedAfter(120, 0),
            "shifts 60 HIGH 2 = " + seedAfter(120, Integer.MAX_VALUE));
    }

    private static java.math.BigInteger seedAfter(int draws, int seed) {
        java.math.BigInteger s = java.math.BigInteger.valueOf(seed);
        for (int i = 0; i < draws; i++) {
            s = s.multiply(java.math.BigInteger.valueOf(1103515245)).add(java.math.BigInteger.valueOf(12345));
            s = s.mod(java.math.BigInteger.TWO.pow(31));
        }
        return s;
    }

    private static void shiftsSacks() {
        // SEED 326: TOWN 1, IN; then TOWN 0, 4 of 10: NEXT, if the one there is not full
        told("NEXT, if the one there is not full; else BESIDE", "read 69,61,69;000 | shifts 2 326 0 = 0 | shifts 2 326 1 = 1",
            "read 69,62,69;000 | shifts 2 326 0 = 1 | shifts 2 326 1 = 0");
        // SEED 141: TOWN 1, BESIDE; then TOWN 0, 5 of 10
        told("what lay BESIDE is carried, and fills it", "read 69,61,69;000 | shifts 2 141 0 = 0 | shifts 2 141 1 = 2",
            "read 69,62,69;000 | shifts 2 141 0 = 1 | shifts 2 141 1 = 1");
        // SEED 405: TOWN 2, NEXT; then TOWN 0, 4 of 10
        told("what came NEXT fills it; of the last one: one fewer", "read 69,61,69;000 | shifts 2 405 0 = 1 | shifts 2 405 1 = 1",
            "read 69,62,69;000 | shifts 2 405 0 = 2 | shifts 2 405 1 = 0");
        // SEED 242: TOWN 1, IN; TOWN 1, NEXT; then TOWN 0, 4 of 10. SEED 355: TOWN 1, IN; TOWN 1, IN; then TOWN 0, 5 of 10
        told("its sack is CHANGED, if it is full", "read 69,61,69;000 | shifts 3 242 0 = 2 | shifts 3 242 1 = 0 | shifts 3 355 0 = 0",
            "shifts 3 355 1 = 1",
            "read 69,62,69;000 | shifts 3 355 0 = 0 | shifts 3 355 1 = 1", "read 69,63,69;000 | shifts 3 355 0 = 1 | shifts 3 355 1 = 0");
        // SEED 0: TOWN 0, 8 of 10: IN at one of YARDS, BESIDE at eight
        told("they hang as now", "read 19,59,89;000", "shifts 1 0 1 = 0 | exchange 0 2 | shifts 1 0 1 = 1 | exchange 1 2",
            "shifts 1 0 1 = 1 | exchange 0 1 | shifts 1 0 1 = 0");
        // SEED 11: TOWN 0, 4 of 10
        told("all sacks are empty, as they would be", "read 61,61,61;000", "3 times parcel GLASS 0 | carry 0 | carry 1 | carry 2",
            "shifts 1 11 0 = 1 | shifts 1 11 1 = 0",
            "shifts 60 11 2 | hook 0 3 = 1 | hook 1 3 = 1 | hook 2 3 = 1 | count 4 = 45 | count 5 = 0");
    }

    private static void image() {
        told("an IMAGE keeps which sack hangs where", "read 19,29,39;507", "exchange 0 1 | image = 10 | exchange 0 2 | restore = 10",
            "hook 0 2 = 1 | hook 1 2 = 0 | hook 2 2 = 2 | hook 0 6 = 0");
        told("what is in each", "read 19,29,39;507", "parcel GLASS 1 | parcel PARCEL 2 | carry 0 | carry 2 | image = 14 | change 0",
            "parcel TIN 0 | carry 2 | restore = 14",
            "hook 0 3 = 1 | hook 0 4 = 1 | hook 0 5 = 1 | hook 2 3 = 1 | hook 2 4 = 0 | count 2 = 2 | count 3 = 1");
        told("what is in each: a full sack and an empty one", "read 19,29,39;507",
            "8 times parcel GLASS 0 | 8 times carry 0 | parcel PARCEL 1 | carry 0 | image = 45 | change 0 = 9 | parcel TIN 1 | carry 1",
            "restore = 45 | hook 0 3 = 9 | hook 0 4 = 1 | hook 0 5 = 8 | hook 1 3 = 0 | parcel TIN 0 | carry 0 = STATE | count 3 = 1");
        told("the BELT", "read 19,29,39;507", "parcel GLASS 1 | parcel TIN 2 | image = 0 | carry 0 | parcel SOFT 0 | parcel SOFT 0",
            "restore = 0",
            "count 1 = 2 | belt 0 0 = 3 | belt 0 1 = 1 | belt 1 0 = 4 | belt 1 1 = 2 | belt 2 0 = UNKNOWN");
        told("an empty BELT and a full one", "read 19,29,39;507", "image = 0 | 8 times parcel TIN 0 | restore = 0 | count 1 = 0",
            "8 times parcel TIN 1 = 8 | image = 0",
            "8 times carry 0 | restore = 0 | count 1 = 8 | parcel TIN 0 = FULL | belt 7 1 = 1");
        told("SECONDS", "read 19,29,39;507", "change 0 | image = 40 | change 0 | count 4 = 80 | restore = 40 | count 4 = 40");
        told("HARMED", "read 19,29,39;507", "2 times parcel GLASS 0 | parcel TIN 0 | toss 0 IN | carry 0 | image = 7 | carry 0",
            "count 5 = 2 | restore = 7 | count 5 = 1 | carry 0 | count 5 = 2",
            "image = 12 | change 0 | restore = 12 | parcel TIN 0 | carry 0 | count 5 = 2");
        told("FOUND", "read 19,29,39;507", "found 0 1 | found 1 2 | image = 0 | hung = 1 | forget = 2 | 8 times found 2 1 = 8 | hung = 3",
            "restore = 0 | count 6 = 2 | hung = 1 | where 2 = 4");
        told("not THE PAGE, nor how often a FLOOR was read", "read 19,29,39;507", "write 12 | image = 0 | write , | restore = 0",
            "count 7 = 3 | count 8 = 1 | fault = 3");
    }

    private static void refusals() {
        told("of several refusals the first as told by each call", "24 times letter 33 | letter 31 = OUTSIDE | letter 127 = OUTSIDE",
            "letter 32 = FULL",
            "read 71,11,11;000", "hook 3 7 = UNKNOWN | hook -1 -1 = UNKNOWN | parcel 5 3 = OUTSIDE | parcel -1 -1 = OUTSIDE",
            "belt 0 3 = UNKNOWN | as 0 5 = UNKNOWN | toss 3 3 = UNKNOWN | toss 3 IN = UNKNOWN | toss 0 3 = OUTSIDE | toss 0 IN = STATE",
            "carry 3 = UNKNOWN",
            "odds 5 3 6 = OUTSIDE | odds 0 3 6 = UNKNOWN | odds 5 0 6 = OUTSIDE | odds 0 0 6 = OUTSIDE | exchange 3 3 = UNKNOWN",
            "8 times parcel TIN 0 = 8 | parcel 5 3 = OUTSIDE | parcel 0 3 = UNKNOWN | parcel 5 0 = OUTSIDE | parcel 0 0 = FULL",
            "carry 0 | toss 0 3 = OUTSIDE | toss 0 -1 = OUTSIDE | toss 3 0 = UNKNOWN | carry 3 = UNKNOWN | carry 0 = STATE",
            "8 times found 0 1 = 8 | found 0 0 = UNKNOWN | found 0 3 = UNKNOWN | found 3 0 = UNKNOWN | found 0 1 = FULL");
        told("where there is no FLOOR", "hanging 2 = OUTSIDE | hanging 0 = STATE | shifts 0 0 0 = OUTSIDE | shifts 1 -1 0 = OUTSIDE",
            "shifts 1 0 3 = OUTSIDE | shifts 1 0 0 = STATE",
            "parcel 5 0 = OUTSIDE | parcel 0 0 = UNKNOWN | odds 5 0 0 = OUTSIDE | odds 0 0 0 = UNKNOWN | odds 0 0 6 = UNKNOWN",
            "toss 0 3 = UNKNOWN");
    }
}
