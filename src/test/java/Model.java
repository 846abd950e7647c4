import java.util.ArrayList;
import java.util.List;

/**
 * The document said a second time, apart from the program: a call is told by its name and numbers,
 * and answered by a text, "throws.NAME" for an exception.
 */
final class Model {
    static final String INDEX = "throws.IndexOutOfBoundsException";
    static final String ARGUMENT = "throws.IllegalArgumentException";
    static final String STATE = "throws.IllegalStateException";

    private static final class Heap {
        int shale;
        int coal;
        int burnt;
        boolean burns;
    }

    private static final class Tub {
        int water;
        int alum;
        boolean boils;

        int strength() {
            return water == 0 && alum == 0 ? 0 : 100 * alum / (water + alum);
        }

        int egg() {
            return strength() >= 35 ? 2 : strength() >= 20 ? 1 : 0;
        }
    }

    private int[] rain = new int[6];
    private int[] ship = new int[7];
    private int day;
    private int coal;
    private int urine;
    private int fine;
    private int coarse;
    private int coins;
    private int taken;
    private final List<Heap> heaps = new ArrayList<>();
    private final List<Tub> pits = new ArrayList<>();
    private final List<Tub> pans = new ArrayList<>();

    private Model copy() {
        Model copy = new Model();
        copy.rain = rain.clone();
        copy.ship = ship.clone();
        copy.day = day;
        copy.coal = coal;
        copy.urine = urine;
        copy.fine = fine;
        copy.coarse = coarse;
        copy.coins = coins;
        copy.taken = taken;
        for (Heap heap : heaps) {
            Heap other = new Heap();
            other.shale = heap.shale;
            other.coal = heap.coal;
            other.burnt = heap.burnt;
            other.burns = heap.burns;
            copy.heaps.add(other);
        }
        copyTubs(pits, copy.pits);
        copyTubs(pans, copy.pans);
        return copy;
    }

    private static void copyTubs(List<Tub> from, List<Tub> to) {
        for (Tub tub : from) {
            Tub other = new Tub();
            other.water = tub.water;
            other.alum = tub.alum;
            other.boils = tub.boils;
            to.add(other);
        }
    }

    private void day() {
        int wet = rain[day % 6];
        for (Heap heap : heaps) {
            if (heap.burns) {
                heap.coal -= Math.min(2, heap.coal);
                for (int part = 0; part < (wet >= 5 ? 4 : 8) && heap.shale > 0; part++) {
                    heap.shale--;
                    heap.burnt++;
                }
                if (heap.coal == 0 || heap.shale == 0) {
                    heap.burns = false;
                }
            }
        }
        for (Tub pit : pits) {
            if (pit.water != 0) {
                pit.water += wet;
                if (pit.water > 400) {
                    pit.water = 400;
                }
                if (wet == 0) {
                    pit.water = pit.water < 3 ? 0 : pit.water - 3;
                }
            }
        }
        for (Tub pan : pans) {
            if (pan.boils && coal >= 4 && pan.water > 0) {
                coal -= 4;
                pan.water = pan.water < 12 ? 0 : pan.water - 12;
            } else {
                pan.boils = false;
            }
        }
        for (int place = 0; place < ship[day % 7]; place++) {
            if (fine > 0) {
                fine--;
                coins += 5;
                taken++;
            } else if (coarse > 0) {
                coarse--;
                coins += 2;
                taken++;
            }
        }
        day++;
    }

    private static boolean none(int number, List<?> of) {
        return number < 0 || number >= of.size();
    }

    private static boolean out(int number, int least, int most) {
        return number < least || number > most;
    }

    String call(String name, int a, int b, int c) {
        switch (name) {
            case "bring": return bring(a, b);
            case "setRain": return set(rain, a, b, 9);
            case "setShip": return set(ship, a, b, 60);
            case "pile": return pile(a);
            case "light": return light(a, b);
            case "dig": return dig(a);
            case "steep": return steep(a, b);
            case "pan": return pan();
            case "draw": return draw(a, b, c);
            case "boil": return boil(a);
            case "pour": return pour(a, b);
            case "clamp": return none(a, heaps) || out(b, 0, 3) ? INDEX : "" + ofHeap(a, b);
            case "pit": return none(a, pits) || out(b, 0, 3) ? INDEX : "" + ofTub(pits.get(a), b);
            case "about": return none(a, pans) || out(b, 0, 4) ? INDEX : "" + ofTub(pans.get(a), b);
            case "count": return out(a, 0, 9) ? INDEX : "" + counts(a);
            case "pass": return pass(a);
            case "right": return right(a);
            case "foresee": return foresee(a, b);
            case "barrels": return barrels(a);
            case "dry": return dry(a);
            case "mean": return "" + mean();
            case "digest": return "" + digest();
            default: throw new IllegalStateException(name);
        }
    }

    private String bring(int what, int many) {
        if (out(what, 0, 1)) {
            return INDEX;
        }
        if (out(many, 1, 500)) {
            return ARGUMENT;
        }
        if (what == 0) {
            coal = coal + many > 500 ? 500 : coal + many;
        } else {
            urine = urine + many > 99 ? 99 : urine + many;
        }
        return "" + (what == 0 ? coal : urine);
    }

    private static String set(int[] table, int at, int to, int most) {
        if (out(at, 0, table.length - 1)) {
            return INDEX;
        }
        if (out(to, 0, most)) {
            return ARGUMENT;
        }
        String before = "" + table[at];
        table[at] = to;
        return before;
    }

    private String pile(int shale) {
        if (out(shale, 1, 200)) {
            return ARGUMENT;
        }
        if (heaps.size() == 4) {
            return STATE;
        }
        Heap heap = new Heap();
        heap.shale = shale;
        heaps.add(heap);
        return "" + (heaps.size() - 1);
    }

    private String light(int clamp, int given) {
        if (none(clamp, heaps)) {
            return INDEX;
        }
        if (out(given, 1, 60)) {
            return ARGUMENT;
        }
        Heap heap = heaps.get(clamp);
        if (given > coal || heap.shale == 0) {
            return STATE;
        }
        coal -= given;
        heap.coal += given;
        if (heap.coal > 60) {
            heap.coal = 60;
        }
        heap.burns = true;
        return "" + heap.coal;
    }

    private String dig(int water) {
        if (out(water, 0, 400)) {
            return ARGUMENT;
        }
        if (pits.size() == 4) {
            return STATE;
        }
        Tub pit = new Tub();
        pit.water = water;
        pits.add(pit);
        return "" + (pits.size() - 1);
    }

    private String steep(int clamp, int pit) {
        if (none(clamp, heaps) || none(pit, pits)) {
            return INDEX;
        }
        Heap heap = heaps.get(clamp);
        if (heap.burnt == 0 || heap.burns || pits.get(pit).water == 0) {
            return STATE;
        }
        pits.get(pit).alum += heap.burnt / 2;
        heap.burnt = 0;
        return "" + pits.get(pit).alum;
    }

    private String pan() {
        if (pans.size() == 3) {
            return STATE;
        }
        pans.add(new Tub());
        return "" + (pans.size() - 1);
    }

    private String draw(int from, int to, int water) {
        if (none(from, pits) || none(to, pans)) {
            return INDEX;
        }
        if (out(water, 1, 150)) {
            return ARGUMENT;
        }
        Tub pit = pits.get(from);
        Tub pan = pans.get(to);
        if (water > pit.water || pan.water + water > 150) {
            return STATE;
        }
        int alum = pit.alum * water / pit.water;
        pit.alum -= alum;
        pan.alum += alum;
        pit.water -= water;
        pan.water += water;
        return "" + alum;
    }

    private String boil(int pan) {
        if (none(pan, pans)) {
            return INDEX;
        }
        pans.get(pan).boils ^= true;
        return "" + pans.get(pan).boils;
    }

    private static int crystals(Tub pan, int barrels) {
        int each = new int[] {2, 5, 3}[pan.egg()];
        return Math.min(each * barrels, pan.alum);
    }

    private String pour(int number, int barrels) {
        if (none(number, pans)) {
            return INDEX;
        }
        if (out(barrels, 1, 20)) {
            return ARGUMENT;
        }
        Tub pan = pans.get(number);
        if (barrels > urine || pan.alum == 0) {
            return STATE;
        }
        int come = crystals(pan, barrels);
        if (pan.egg() == 1) {
            fine += come;
        } else {
            coarse += come;
        }
        urine -= barrels;
        pans.set(number, new Tub());
        return "" + come;
    }

    private int ofHeap(int clamp, int what) {
        Heap heap = heaps.get(clamp);
        return new int[] {heap.shale, heap.coal, heap.burnt, heap.burns ? 1 : 0}[what];
    }

    private static int ofTub(Tub tub, int what) {
        return new int[] {tub.water, tub.alum, tub.strength(), tub.egg(), tub.boils ? 1 : 0}[what];
    }

    private int counts(int what) {
        int burning = 0;
        for (Heap heap : heaps) {
            burning += heap.burns ? 1 : 0;
        }
        int alum = 0;
        for (Tub tub : tubs()) {
            alum += tub.alum;
        }
        return new int[] {day, rain[day % 6], coal, urine, fine, coarse, coins, burning, alum, taken}[what];
    }

    private List<Tub> tubs() {
        List<Tub> tubs = new ArrayList<>(pits);
        tubs.addAll(pans);
        return tubs;
    }

    private String pass(int days) {
        if (out(days, 1, 60)) {
            return ARGUMENT;
        }
        int before = coins;
        for (int gone = 0; gone < days; gone++) {
            day();
        }
        return "" + (coins - before);
    }

    private String right(int pan) {
        if (none(pan, pans)) {
            return INDEX;
        }
        for (int days = 0; days <= 60; days++) {
            Model ahead = copy();
            if (days > 0) {
                ahead.pass(days);
            }
            if (ahead.pans.get(pan).egg() == 1) {
                return "" + days;
            }
        }
        return "-1";
    }

    private String foresee(int days, int what) {
        if (out(days, 1, 60)) {
            return ARGUMENT;
        }
        if (what != 2 && what != 4 && what != 5 && what != 6 && what != 7) {
            return INDEX;
        }
        Model ahead = copy();
        ahead.pass(days);
        return "" + ahead.counts(what);
    }

    private String barrels(int pan) {
        if (none(pan, pans)) {
            return INDEX;
        }
        Tub tub = pans.get(pan);
        if (tub.alum == 0) {
            return "-1";
        }
        for (int barrels = 1; barrels < 20; barrels++) {
            if (crystals(tub, barrels) == crystals(tub, 20)) {
                return "" + barrels;
            }
        }
        return "20";
    }

    private String dry(int pit) {
        if (none(pit, pits)) {
            return INDEX;
        }
        Tub tub = pits.get(pit);
        if (tub.alum == 0) {
            return "-1";
        }
        for (int less = tub.water; less > 0; less--) {
            Tub dryer = new Tub();
            dryer.alum = tub.alum;
            dryer.water = tub.water - less + 1;
            if (dryer.egg() == 0) {
                return "" + less;
            }
        }
        return "0";
    }

    private double mean() {
        double sum = 0;
        int many = 0;
        for (Tub tub : tubs()) {
            if (tub.water > 0 || tub.alum > 0) {
                sum += tub.strength();
                many++;
            }
        }
        return many == 0 ? 0 : sum / many;
    }

    private long digest() {
        List<Integer> all = new ArrayList<>();
        for (int what = 0; what < 10; what++) {
            all.add(counts(what));
        }
        for (int one : rain) {
            all.add(one);
        }
        for (int one : ship) {
            all.add(one);
        }
        for (int at = 0; at < heaps.size() * 4; at++) {
            all.add(ofHeap(at / 4, at % 4));
        }
        for (int at = 0; at < pits.size() * 4; at++) {
            all.add(ofTub(pits.get(at / 4), at % 4));
        }
        for (int at = 0; at < pans.size() * 5; at++) {
            all.add(ofTub(pans.get(at / 5), at % 5));
        }
        long d = 1231;
        for (int x : all) {
            d = 31 * d + x;
        }
        return d;
    }
}
