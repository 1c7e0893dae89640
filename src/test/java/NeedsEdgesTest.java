/** Promises 14 to 18 at their edges: to have it believed, lies left, whose word is enough, juries, bribes. */
public final class NeedsEdgesTest {
    private static final Due DUE = new Due("NeedsEdgesTest");
    private static final int MIN = Integer.MIN_VALUE;
    private static final int MAX = Integer.MAX_VALUE;

    public static void main(String[] args) {
        promise14Arguments();
        promise14Still();
        promise14None();
        promise14LikeOnes();
        promise14GreatestSizeAndOne();
        promise14GreatestFlakes();
        promise14FlakesThatComeOff();
        promise14BehindFifteen();
        promise14TurnsHimself();
        promise15Arguments();
        promise15HowMany();
        promise15Ninety9();
        promise15FactZero();
        promise16Arguments();
        promise16Nobody();
        promise16All();
        promise16LikeOnes();
        promise17Arguments();
        promise17EveryThree();
        promise17LikeOnes();
        promise18Arguments();
        promise18HowManySayings();
        promise18StateAhead();
        promise18AllTen();
        promise18LikeOnes();
        promise18LiesByIt();
        DUE.end();
    }

    private static SkinOfTeeth court(int... flakes) {
        SkinOfTeeth x = new SkinOfTeeth();
        for (int f : flakes) {
            x.person(f);
        }
        return x;
    }

    private static void have(SkinOfTeeth x, int fv, int flakes, int who, int size) {
        DUE.is("14 have " + fv + ": flakes", x.have(0, fv, 0), flakes);
        DUE.is("14 have " + fv + ": who", x.have(0, fv, 1), who);
        DUE.is("14 have " + fv + ": size", x.have(0, fv, 2), size);
    }

    private static void promise14Arguments() {
        SkinOfTeeth x = court(9);
        x.row(0, 0, 0);
        for (int fv = -20; fv <= 120; fv++) {
            boolean well = fv >= 0 && fv / 10 <= 9 && fv % 10 <= 1;
            DUE.is("14 fv " + fv, x.have(0, fv, 0), well ? fv % 10 : -1);
        }
        DUE.all("14 fv far beyond", -1, () -> x.have(0, MIN, 0), () -> x.have(0, MAX, 0), () -> x.have(0, 1000, 0));
        for (int what : new int[] {-1, 3, 4, MIN, MAX}) {
            DUE.is("14 what " + what, x.have(0, 0, what), -1);
        }
        x.row(0, 0, 8);
        DUE.is("14 BAD where it is believed as it is", x.have(0, 0, 3), -1);
    }

    private static void promise14Still() {
        for (int fact = 0; fact <= 9; fact++) {
            for (int said = 0; said <= 1; said++) {
                SkinOfTeeth x = court(9, 9);
                Due.bytes(x, 0, 1, fact, said, 0);
                have(x, 10 * fact + said, 0, -2, -2);
                x.say(0, 10);
                have(x, 10 * fact + said, 0, -2, -2);
            }
        }
    }

    private static void promise14None() {
        SkinOfTeeth nobody = court();
        nobody.row(0, 0, 60);
        have(nobody, 0, -2, -2, -2);
        have(nobody, 91, -2, -2, -2);
        SkinOfTeeth gone = court(0);
        gone.row(0, 0, 0);
        have(gone, 0, -2, -2, -2);
        gone.mend(0, 8, 1);
        have(gone, 0, 0, 0, 0);
        SkinOfTeeth x = court(1, 1);
        Due.bytes(x, 0, 0, 5, 0, 0, 1, 5, 0, 0);
        have(x, 51, -2, -2, -2);
        x.mend(1, 0, 4);
        have(x, 51, 1, 1, 0);
        x.mend(1, 0, 2);
        have(x, 51, -2, -2, -2);
        x.mend(1, 0, 3);
        have(x, 51, 1, 1, 0);
        x.mend(5, 9, 1);
        x.mend(1, 0, 1);
        have(x, 51, -2, -2, -2);
        x.mend(1, 0, 2);
        have(x, 51, 0, 1, 0);
    }

    private static void promise14LikeOnes() {
        SkinOfTeeth x = court(3, 3, 3);
        x.row(0, 0, 0);
        have(x, 10, 0, 0, 0);
        have(x, 11, 1, 0, 0);
        Due.law(x, "z<4?5;2");
        have(x, 11, 2, 0, 4);
        x.mend(0, 8, 1);
        Due.law(x, "z=0?1;2");
        have(x, 11, 1, 0, 0);
        Due.law(x, "w>24?9;z=5?1;3");
        have(x, 11, 1, 1, 5);
    }

    private static void promise14GreatestSizeAndOne() {
        SkinOfTeeth x = court(4, 4, 5, 5, 5, 5, 9);
        Due.bytes(x, 0, 0, 9, 0, 0, 1, 9, 0, 0);
        Due.law(x, "9-z+1");
        have(x, 91, 1, 6, 9);
        Due.bytes(x, 0, 6, 0, 0, 0);
        have(x, 90, 0, 0, 0);
        have(x, 1, 1, 6, 9);
    }

    private static void promise14GreatestFlakes() {
        SkinOfTeeth x = court(9);
        x.row(0, 0, 0);
        Due.law(x, "99");
        have(x, 1, -2, -2, -2);
        x.mend(0, 0, 0);
        x.mend(0, 8, 1);
        have(x, 1, 63, 0, 0);
        Due.law(x, "62");
        have(x, 1, 62, 0, 0);
        x.mend(0, 8, 0);
        have(x, 1, 62, 0, 0);
        Due.law(x, "63");
        have(x, 1, -2, -2, -2);
    }

    private static void promise14FlakesThatComeOff() {
        SkinOfTeeth x = court(9, 9);
        x.mend(0, 8, 255);
        x.row(0, 0, 0);
        Due.law(x, "9-z");
        have(x, 1, 0, 0, 0);
        x.mend(0, 8, 254);
        x.mend(0, 0, 2);
        have(x, 1, 0, 0, 9);
        Due.law(x, "9");
        have(x, 1, 2, 0, 0);
    }

    private static void promise14BehindFifteen() {
        SkinOfTeeth x = court(5, 1);
        x.row(0, 0, 60);
        have(x, 0, 0, -2, -2);
        have(x, 1, 1, 0, 0);
        x.put(0, 56, 1);
        Due.law(x, "32");
        have(x, 1, -2, -2, -2);
        Due.law(x, "31");
        have(x, 1, 31, 0, 0);
        x.put(0, 58, 1);
        Due.law(x, "99");
        have(x, 1, -2, -2, -2);
        have(x, 0, 0, -2, -2);
    }

    private static void promise14TurnsHimself() {
        SkinOfTeeth x = court(2, 5, 9);
        Due.bytes(x, 0, 2, 5, 1, 0, 2, 5, 0, 0);
        have(x, 51, 1, 2, 0);
        Due.bytes(x, 0, 2, 5, 0, 0, 2, 5, 1, 0);
        have(x, 51, 0, -2, -2);
        have(x, 50, 0, 2, 0);
        DUE.is("14 asking tells no lie", x.of(2, 12) + x.led(0), 0);
        DUE.is("14 asking takes no flake", x.of(2, 11), 72);
    }

    private static void promise15Arguments() {
        SkinOfTeeth x = court(1, 1);
        for (int size : new int[] {-1, 10, 11, MIN, MAX}) {
            DUE.is("15 size " + size, x.left(0, size), -1);
        }
        for (int one : new int[] {-1, 2, 7, MIN, MAX}) {
            DUE.is("15 one " + one, x.left(one, 0), -1);
        }
        int[] due = {8, 8, 4, 4, 3, 3, 2, 2, 2, 2};
        for (int size = 0; size <= 9; size++) {
            DUE.is("15 size " + size, x.left(1, size), due[size]);
        }
        DUE.is("15 nobody", court().left(0, 0), -1);
    }

    private static void promise15HowMany() {
        SkinOfTeeth x = court(0);
        for (int size = 0; size <= 9; size++) {
            DUE.is("15 it is gone", x.left(0, size), 0);
        }
        x.mend(0, 8, 255);
        DUE.is("15 gone, with caps", x.left(0, 0), 0);
        x.mend(0, 0, 1);
        DUE.is("15 a capped tooth stays", x.left(0, 0), -2);
        x.mend(0, 8, 254);
        DUE.is("15 one flake", x.left(0, 0), 1);
        DUE.is("15 one flake, by greater ones", x.left(0, 9), 1);
        Due.law(x, "0");
        DUE.is("15 never", x.left(0, 9), -2);
        x.mend(0, 0, 0);
        DUE.is("15 gone, by a law that takes none", x.left(0, 9), 0);
    }

    private static void promise15Ninety9() {
        SkinOfTeeth x = court(1);
        int[] ahead = {0, 1, 97, 98};
        for (int l : ahead) {
            Due.law(x, "l=" + l + "?99");
            DUE.is("15 by the lie with " + l + " ahead", x.left(0, 0), l + 1);
        }
        Due.law(x, "l=99?99");
        DUE.is("15 not by 99", x.left(0, 0), -2);
        Due.law(x, "l>90");
        DUE.is("15 the last flake by the 99th", x.left(0, 0), 99);
        Due.law(x, "l>91");
        DUE.is("15 the last flake by the 100th", x.left(0, 0), -2);
        x.say(0, 13);
        DUE.is("15 one lie ahead of them", x.left(0, 0), 99);
    }

    private static void promise15FactZero() {
        SkinOfTeeth x = court(9);
        Due.law(x, "f=0?9;0");
        DUE.is("15 about fact 0", x.left(0, 0), 8);
        x.mend(0, 9, 1);
        DUE.is("15 as if it were otherwise", x.left(0, 0), 8);
        DUE.is("15 nothing is told", x.of(0, 12) + x.led(1) + x.led(0), 0);
        DUE.is("15 nothing came off", x.of(0, 11), 72);
    }

    private static void promise16Arguments() {
        SkinOfTeeth x = court(9);
        for (int v : new int[] {-1, 1000, 1001, MIN, MAX}) {
            DUE.is("16 x " + v, x.enough(v, 0), -1);
            DUE.is("16 x " + v, x.enough(v, 1), -1);
        }
        for (int what : new int[] {-1, 2, MIN, MAX}) {
            DUE.is("16 what " + what, x.enough(0, what), -1);
            DUE.is("16 what " + what + " where none are enough", x.enough(999, what), -1);
        }
    }

    private static void promise16Nobody() {
        for (int what = 0; what < 2; what++) {
            DUE.is("16 for 0 nobody of nobody", court().enough(0, what), 0);
            DUE.is("16 for 1 of nobody", court().enough(1, what), -2);
            DUE.is("16 for 999 of nobody", court().enough(999, what), -2);
            DUE.is("16 for 0 nobody of one", court(9).enough(0, what), 0);
            DUE.is("16 for 1 of one", court(9).enough(1, what), 1);
            DUE.is("16 for 72 of one", court(9).enough(72, what), 1);
            DUE.is("16 for 73 of one", court(9).enough(73, what), -2);
            DUE.is("16 for 1 of one who is worth nothing", court(0).enough(1, what), -2);
        }
    }

    private static void promise16All() {
        SkinOfTeeth x = court(9, 9, 9, 9, 9, 9, 9);
        x.mend(0, 10, 9);
        for (int one = 0; one < 7; one++) {
            x.mend(one, 8, 255);
        }
        DUE.is("16 for 999 of 1008", x.enough(999, 0), 7);
        DUE.is("16 for 999 of 1008", x.enough(999, 1), 127);
        x.mend(3, 3, 0);
        DUE.is("16 for 999 of 999", x.enough(999, 1), 127);
        x.mend(3, 4, 8);
        DUE.is("16 for 999 of 998", x.enough(999, 0), -2);
        DUE.is("16 for 999 of 998", x.enough(999, 1), -2);
        DUE.is("16 for 998 of 998", x.enough(998, 0), 7);
        DUE.is("16 for 864, all but the lesser one", x.enough(864, 1), 119);
        DUE.is("16 for 144 the first", x.enough(144, 1), 1);
        DUE.is("16 for 145 two", x.enough(145, 1), 3);
    }

    private static void promise16LikeOnes() {
        SkinOfTeeth x = court(1, 2, 3, 4, 5, 6, 7);
        DUE.is("16 for 8", x.enough(8, 1), 1);
        DUE.is("16 for 9", x.enough(9, 1), 2);
        DUE.is("16 for 56", x.enough(56, 1), 64);
        DUE.is("16 for 57: of 24 and 40, 16 and 48, 8 and 56 the least bits", x.enough(57, 1), 4 + 16);
        DUE.is("16 for 80: of 32 and 48, 24 and 56 the least bits", x.enough(80, 1), 8 + 32);
        DUE.is("16 for 104", x.enough(104, 1), 96);
        DUE.is("16 for 105 three", x.enough(105, 0), 3);
        DUE.is("16 for 224 all", x.enough(224, 1), 127);
        DUE.is("16 for 225 none", x.enough(225, 1), -2);
        x.say(6, 10);
        DUE.is("16 worth now", x.enough(56, 0), 2);
    }

    private static void promise17Arguments() {
        SkinOfTeeth x = court(1, 2, 3, 4, 5, 6, 7);
        for (int pqr : new int[] {-1, -12, -210, 1000, 1012, 999, 998, 700, 701, 7, 17, 127, MIN, MAX}) {
            DUE.is("17 pqr " + pqr, x.jury(pqr), -1);
        }
        DUE.is("17 the greatest of unlike ones", x.jury(654), 5);
        DUE.is("17 the least of unlike ones", x.jury(12), 1);
        DUE.is("17 no three", court(1, 2).jury(10), -1);
        DUE.is("17 nobody", court().jury(12), -1);
    }

    private static void promise17EveryThree() {
        for (int people = 0; people <= 7; people++) {
            SkinOfTeeth x = new SkinOfTeeth();
            SkinOfTeeth y = new SkinOfTeeth();
            for (int i = 0; i < people; i++) {
                x.person(i + 1);
                y.person(8 - i);
            }
            for (int pqr = 0; pqr < 1000; pqr += 1 + pqr / 500) {
                int p = pqr / 100;
                int q = pqr / 10 % 10;
                int r = pqr % 10;
                boolean well = p != q && p != r && q != r && Math.max(p, Math.max(q, r)) < people;
                int middle = p + q + r - Math.max(p, Math.max(q, r)) - Math.min(p, Math.min(q, r));
                if (pqr < 450) {
                    DUE.is("17 worth by numbers " + pqr, x.jury(pqr), well ? middle : -1);
                } else {
                    DUE.is("17 worth against numbers " + pqr, y.jury(pqr), well ? middle : -1);
                }
            }
        }
    }

    private static void promise17LikeOnes() {
        SkinOfTeeth x = court(5, 5, 5, 4, 6);
        int[][] due = {{12, 1}, {21, 1}, {102, 1}, {120, 1}, {201, 1}, {210, 1}, {13, 0}, {31, 0}, {301, 0}, {310, 0},
            {103, 0}, {130, 0}, {14, 1}, {41, 1}, {401, 1}, {410, 1}, {104, 1}, {140, 1}, {34, 0}, {430, 0}};
        for (int[] d : due) {
            DUE.is("17 of like ones the least is the lesser " + d[0], x.jury(d[0]), d[1]);
        }
        x.mend(1, 7, 6);
        DUE.is("17 one flake more", x.jury(12), 2);
        x.mend(1, 7, 4);
        DUE.is("17 one flake less", x.jury(12), 0);
        x.mend(1, 8, 1);
        DUE.is("17 a cap more", x.jury(12), 2);
        x.say(1, 13);
        x.say(1, 10);
        DUE.is("17 asked now, behind lies", x.jury(12), 0);
    }

    private static void bribe(SkinOfTeeth x, int fv, int howMany, int which) {
        DUE.is("18 bribe " + fv + ": how many", x.bribe(0, fv, 0), howMany);
        DUE.is("18 bribe " + fv + ": which", x.bribe(0, fv, 1), which);
    }

    private static void promise18Arguments() {
        SkinOfTeeth x = court(9);
        x.row(0, 0, 4);
        for (int fv = -20; fv <= 120; fv++) {
            boolean well = fv >= 0 && fv / 10 <= 9 && fv % 10 <= 1;
            DUE.is("18 fv " + fv, x.bribe(0, fv, 0), !well ? -1 : fv < 2 ? fv : -2);
        }
        DUE.all("18 fv far beyond", -1, () -> x.bribe(0, MIN, 0), () -> x.bribe(0, MAX, 0), () -> x.bribe(0, 1000, 0));
        for (int what : new int[] {-1, 2, 3, MIN, MAX}) {
            DUE.is("18 what " + what, x.bribe(0, 0, what), -1);
        }
    }

    private static void promise18HowManySayings() {
        SkinOfTeeth x = court(9);
        x.row(0, 0, 0);
        bribe(x, 0, -2, -2);
        bribe(x, 1, -2, -2);
        for (int n = 1; n <= 15; n++) {
            x.row(0, 0, 4 * n);
            bribe(x, 0, n > 10 ? -5 : 0, n > 10 ? -5 : 0);
            bribe(x, 1, n > 10 ? -5 : 1, n > 10 ? -5 : 1 << n - 1);
        }
        x.row(0, 0, 43);
        bribe(x, 0, 0, 0);
        x.row(0, 0, 60);
        x.put(0, 41, 10);
        bribe(x, 1, 1, 512);
        SkinOfTeeth nobody = court();
        nobody.row(0, 0, 60);
        bribe(nobody, 0, -2, -2);
    }

    private static void promise18StateAhead() {
        SkinOfTeeth x = court(9);
        x.row(0, 0, 44);
        DUE.is("18 STATE ahead of NOT", x.bribe(0, 91, 0), -5);
        DUE.is("18 STATE ahead of NOT", x.bribe(0, 90, 1), -5);
        DUE.is("18 BAD ahead of STATE", x.bribe(0, 92, 0), -1);
        DUE.is("18 BAD ahead of STATE", x.bribe(0, 90, 2), -1);
        x.row(1, 1, 44);
        DUE.is("18 -12 where it could not be STATE", x.bribe(1, 90, 1), -12);
    }

    private static void promise18AllTen() {
        SkinOfTeeth x = court(9);
        Due.law(x, "99");
        x.row(0, 0, 40);
        for (int fact = 0; fact < 10; fact++) {
            x.put(0, 4 * fact + 1, fact);
            x.put(0, 4 * fact + 2, 1);
        }
        for (int fact = 0; fact < 10; fact++) {
            bribe(x, 10 * fact, 10, 1023);
            bribe(x, 10 * fact + 1, -2, -2);
        }
        x.mend(4, 9, 1);
        bribe(x, 90, 9, 1023 - 16);
        bribe(x, 41, 9, 1023 - 16);
        bribe(x, 40, -2, -2);
        x.mend(0, 8, 1);
        bribe(x, 40, 1, 16);
        bribe(x, 41, 0, 0);
    }

    private static void promise18LikeOnes() {
        SkinOfTeeth x = court(3, 3, 3, 3, 3, 3, 3);
        Due.law(x, "0");
        x.row(0, 0, 28);
        for (int one = 0; one < 7; one++) {
            x.put(0, 4 * one, 6 - one);
        }
        bribe(x, 0, 0, 0);
        bribe(x, 1, 4, 15);
        x.mend(0, 0, 9);
        bribe(x, 1, 4, 15);
        for (int t = 1; t < 8; t++) {
            x.mend(0, t, 9);
        }
        bribe(x, 1, 3, 64 + 3);
        x.put(0, 2, 1);
        bribe(x, 1, 2, 64 + 2);
    }

    private static void promise18LiesByIt() {
        SkinOfTeeth x = court(4, 3);
        Due.law(x, "9");
        Due.bytes(x, 0, 0, 1, 1, 0, 0, 0, 0, 0, 1, 0, 1, 0);
        DUE.is("18 as it is: 23 against 15", x.believed(0, 0), 0);
        bribe(x, 1, 1, 2);
        x.mend(1, 0, 9);
        x.mend(1, 1, 9);
        DUE.is("18 as it is: 23 against 27", x.believed(0, 0), 1);
        bribe(x, 0, 1, 1);
        x.mend(1, 9, 1);
        DUE.is("18 as it is: 32 against 27", x.believed(0, 0), 0);
        bribe(x, 1, 1, 1);
        x.mend(0, 9, 1);
        DUE.is("18 as it is: 23 against 36", x.believed(0, 0), 1);
        bribe(x, 0, 1, 4);
    }
}
