import java.util.Random;

/** Runs of 512 calls by chance (of fixed seeds), each answered by the class as by PlainSacks. */
final class LikePlainSacksTest {
    private static final int RUNS = 1500, CALLS = 512;

    private final Random chance;
    private final ThrownSacks x = new ThrownSacks();
    private final PlainSacks plain = new PlainSacks();
    private final Checks checks;
    private final int run;
    private int calls;

    private LikePlainSacksTest(int run, Checks checks) {
        this.run = run;
        this.checks = checks;
        this.chance = new Random(run);
    }

    public static void main(String[] args) {
        Checks checks = new Checks();
        for (int run = 1; run <= RUNS && checks.wrongOnes() == 0; run++) {
            new LikePlainSacksTest(run, checks).walk();
        }
        checks.end();
    }

    private void walk() {
        if (chance.nextInt(10) > 0) {
            writeFloor();
        }
        while (calls < CALLS && checks.wrongOnes() == 0) {
            int pick = chance.nextInt(100);
            if (pick < 2) {
                writeFloor();
            } else if (pick < 55) {
                move();
            } else if (pick < 92) {
                ask();
            } else {
                pageCall();
            }
        }
    }

    private void due(String call, long got, long want) {
        calls++;
        checks.due("run " + run + ", call " + calls + ": " + call, got, want);
    }

    private void letter(int code) {
        due("letter(" + code + ")", x.letter(code), plain.letter(code));
    }

    private void writeFloor() {
        due("blank()", x.blank(), plain.blank());
        int hooks = 3 + chance.nextInt(4);
        int mostYards = 1 + chance.nextInt(8);
        int mostRoom = 1 + chance.nextInt(9);
        int mostOften = 1 + chance.nextInt(10);
        StringBuilder text = new StringBuilder();
        for (int hook = 0; hook < hooks; hook++) {
            text.append(hook == 0 ? "" : ",").append(1 + chance.nextInt(mostYards)).append(1 + chance.nextInt(mostRoom));
        }
        text.append(';');
        for (int hook = 0; hook < hooks; hook++) {
            text.append(chance.nextInt(mostOften));
        }
        if (chance.nextInt(4) == 0) {
            text.setCharAt(chance.nextInt(text.length()), "0189,;:/x ".charAt(chance.nextInt(10)));
        }
        if (chance.nextInt(8) == 0) {
            text.setLength(chance.nextInt(text.length()));
        }
        for (int i = 0; i < text.length(); i++) {
            letter(text.charAt(i));
        }
        due("fault()", x.fault(), plain.fault());
        due("floor()", x.floor(), plain.floor());
    }

    private void pageCall() {
        switch (chance.nextInt(5)) {
            case 0: due("fault()", x.fault(), plain.fault()); break;
            case 1: due("floor()", x.floor(), plain.floor()); break;
            case 2: due("blank()", x.blank(), plain.blank()); break;
            default: letter(chance.nextInt(6) == 0 ? chance.nextInt(140) : "0123456789,;".charAt(chance.nextInt(12)));
        }
    }

    /** Mostly from 0 to most, at times just outside of it, or far off. */
    private int about(int most) {
        int pick = chance.nextInt(40);
        if (pick == 0) return -1;
        if (pick == 1) return most + 1;
        if (pick == 2) return chance.nextInt();
        return chance.nextInt(most + 1);
    }

    private int hook() {
        return about(Math.max(0, x.count(0) - 1));
    }

    private void move() {
        int a = hook();
        int b = hook();
        int how = about(2);
        int kind = about(4);
        switch (chance.nextInt(14)) {
            case 0: case 1: case 2: case 3: due("parcel(" + kind + ", " + a + ")", x.parcel(kind, a), plain.parcel(kind, a)); break;
            case 4: case 5: case 6: due("toss(" + a + ", " + how + ")", x.toss(a, how), plain.toss(a, how)); break;
            case 7: case 8: due("carry(" + a + ")", x.carry(a), plain.carry(a)); break;
            case 9: due("change(" + a + ")", x.change(a), plain.change(a)); break;
            case 10: due("exchange(" + a + ", " + b + ")", x.exchange(a, b), plain.exchange(a, b)); break;
            case 11: due("found(" + a + ", " + b + ")", x.found(a, b), plain.found(a, b)); break;
            case 12: imageOrForget(); break;
            default: due("restore()", x.restore(), plain.restore());
        }
    }

    private void imageOrForget() {
        if (chance.nextBoolean()) {
            due("image()", x.image(), plain.image());
        } else {
            due("forget()", x.forget(), plain.forget());
        }
    }

    private void ask() {
        int a = hook();
        int kind = about(4);
        int place = about(7);
        int what = about(6);
        int parcels = about(60);
        int seed = chance.nextInt(20) == 0 ? about(3) : chance.nextInt() & 0x7fffffff;
        switch (chance.nextInt(11)) {
            case 0: due("hook(" + a + ", " + what + ")", x.hook(a, what), plain.hook(a, what)); break;
            case 1: due("belt(" + place + ", " + what + ")", x.belt(place, what), plain.belt(place, what)); break;
            case 2: due("as(" + place + ", " + kind + ")", x.as(place, kind), plain.as(place, kind)); break;
            case 3: case 4: due("odds(" + kind + ", " + a + ", " + what + ")", x.odds(kind, a, what), plain.odds(kind, a, what)); break;
            case 5: due("hanging(" + 2 * parcels / 3 + ")", x.hanging(2 * parcels / 3), plain.hanging(2 * parcels / 3)); break;
            case 6: due("hung()", x.hung(), plain.hung()); break;
            case 7: due("where(" + a + ")", x.where(a), plain.where(a)); break;
            case 8: due("shifts(" + parcels + ", " + seed + ", " + what / 2 + ")",
                x.shifts(parcels, seed, what / 2), plain.shifts(parcels, seed, what / 2)); break;
            case 9: due("count(" + place + ")", x.count(place), plain.count(place)); break;
            default: due("digest()", x.digest(), plain.digest());
        }
    }
}
