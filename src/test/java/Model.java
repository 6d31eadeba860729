import java.util.ArrayList;
import java.util.List;
import java.util.TreeSet;
import java.util.function.Consumer;

/**
 * The document once more, written plainly and apart from the class: it shares no code with it, makes objects
 * freely and looks for ways by trying all steps until nothing gets better. ModelTest holds both side by side.
 */
final class Model {
    static final class Rain {
        int from, to, much;
    }

    static final class Cart {
        int kind, weight, sink, home, full, at, charge, does, work = -1;
        boolean absent;
        TreeSet<Integer> heard = new TreeSet<>();
    }

    static final class Work {
        int kind, cell, much, state, by = -1;
        boolean never;
    }

    static final class Kind {
        boolean weed;
        int prior;
        int[] odds;
    }

    static final class Plant {
        boolean ill;
        int size, seen, got;
        long[] shares = new long[5];
    }

    static final class Event {
        int hour;
        Consumer<Sim> does;
    }

    /** What changes with the hours. */
    static final class Sim {
        int now;
        int[] height = new int[64], wet = new int[64], press = new int[64], shown = new int[64], why = new int[64];
        Plant[] plants = new Plant[64];
        int limit = 500, bears = 200, odds = 30, reach = 3;
        List<Rain> rains = new ArrayList<>();
        List<Cart> carts = new ArrayList<>();
        List<Work> works = new ArrayList<>();
        List<Integer> lots = new ArrayList<>();
        List<Kind> kinds = new ArrayList<>();
        int lotNext;
        long fell, lost;
        int without = -1, number = -1;

        Sim() {
            java.util.Arrays.fill(why, 1);
        }

        void hour() {
            now++;
            for (int r = 0; r < rains.size(); r++) {
                Rain rain = rains.get(r);
                if (without == 0 && number == r) continue;
                if (now >= rain.from && now <= rain.to) {
                    for (int c = 0; c < 64; c++) { wet[c] += rain.much; fell += rain.much; }
                }
            }
            int[] old = wet.clone();
            for (int c = 0; c < 64; c++) {
                if (old[c] <= 100) continue;
                int low = -1;
                for (int o : besides(c)) if (low < 0 || height[o] < height[low]) low = o;
                if (height[low] < height[c]) {
                    int half = (old[c] - 100) / 2;
                    wet[c] -= half;
                    wet[low] += half;
                }
            }
            for (int c = 0; c < 64; c++) if (wet[c] > 0) { wet[c]--; lost++; }
            for (int w = 0; w < works.size(); w++) offer(w);
            for (int k = 0; k < carts.size(); k++) if (!carts.get(k).absent) turn(carts.get(k));
            if (now % 24 == 0) dayEnds();
        }

        void offer(int w) {
            Work work = works.get(w);
            if (work.never || work.state != 0) return;
            int best = -1, cost = 0;
            for (int k = 0; k < carts.size(); k++) {
                Cart cart = carts.get(k);
                if (cart.absent || cart.kind != work.kind || cart.does != 0 || 4 * cart.charge < cart.full) continue;
                int[] way = way(cart, goals(work));
                if (way != null && (best < 0 || way[0] < cost)) { best = k; cost = way[0]; }
            }
            if (best >= 0) {
                work.state = 1;
                work.by = best;
                carts.get(best).does = 1;
                carts.get(best).work = w;
            }
        }

        List<Integer> goals(Work work) {
            return work.kind == 3 ? besides(work.cell) : List.of(work.cell);
        }

        void turn(Cart cart) {
            if (cart.does == 4 || cart.does == 5) return;
            if (cart.does == 3) { chargeUp(cart); return; }
            if (cart.does == 0) {
                if (4 * cart.charge >= cart.full) return;
                cart.does = 2;
            }
            List<Integer> goals = cart.does == 2 ? List.of(cart.home) : goals(works.get(cart.work));
            if (goals.contains(cart.at)) {
                if (cart.does == 2) { cart.does = 3; chargeUp(cart); } else doWork(cart);
                return;
            }
            int[] way = way(cart, goals);
            if (way == null) {
                if (cart.does == 1) { reopen(cart); cart.does = 0; }
                return;
            }
            if (cart.charge == 0) { reopen(cart); cart.does = 5; return; }
            cart.charge--;
            cart.at = way[2];
            press[cart.at] += heavy(cart, cart.at);
            if (plants[cart.at] != null && press[cart.at] > bears) { plants[cart.at] = null; why[cart.at] = 3; }
            if (wet[cart.at] > cart.sink) {
                reopen(cart);
                cart.does = 4;
                for (Cart other : carts) {
                    int far = Math.abs(other.at / 8 - cart.at / 8) + Math.abs(other.at % 8 - cart.at % 8);
                    if (!other.absent && far <= reach) other.heard.add(cart.at);
                }
            }
        }

        void reopen(Cart cart) {
            if (cart.work >= 0) {
                works.get(cart.work).state = 0;
                works.get(cart.work).by = -1;
                cart.work = -1;
            }
        }

        void chargeUp(Cart cart) {
            cart.charge = Math.min(cart.full, cart.charge + 10);
            if (cart.charge == cart.full) cart.does = 0;
        }

        void doWork(Cart cart) {
            Work work = works.get(cart.work);
            Plant plant = plants[work.cell];
            if (work.kind == 0 && plant != null) see(plant, shown[work.cell]);
            if (work.kind == 1 && plant != null) { plants[work.cell] = null; why[work.cell] = 2; }
            if (work.kind == 2 && plant != null) plant.got += work.much;
            if (work.kind == 3) {
                for (Cart other : carts) {
                    if (!other.absent && other.does == 4 && other.at == work.cell) {
                        other.at = cart.at;
                        other.does = 0;
                        break;
                    }
                }
            }
            work.state = 2;
            cart.work = -1;
            cart.does = 0;
        }

        int heavy(Cart cart, int c) {
            return cart.weight * (1 + wet[c] / 100);
        }

        /** Cost, cells entered and next cell of the best way, or null; found backwards from the goals. */
        int[] way(Cart cart, List<Integer> goals) {
            if (goals.contains(cart.at)) return new int[] {0, 0, cart.at};
            long[] left = new long[64];
            java.util.Arrays.fill(left, Long.MAX_VALUE);
            for (int g : goals) left[g] = 0;
            boolean changed = true;
            while (changed) {
                changed = false;
                for (int c = 0; c < 64; c++) {
                    for (int o : besides(c)) {
                        if (!mayEnter(cart, o) || left[o] == Long.MAX_VALUE) continue;
                        long all = left[o] + heavy(cart, o) * 1000L + 1;
                        if (all < left[c]) { left[c] = all; changed = true; }
                    }
                }
            }
            if (left[cart.at] == Long.MAX_VALUE) return null;
            for (int o : besides(cart.at)) {
                if (mayEnter(cart, o) && left[o] != Long.MAX_VALUE
                        && left[o] + heavy(cart, o) * 1000L + 1 == left[cart.at]) {
                    return new int[] {(int) (left[cart.at] / 1000), (int) (left[cart.at] % 1000), o};
                }
            }
            throw new IllegalStateException();
        }

        boolean mayEnter(Cart cart, int c) {
            return !cart.heard.contains(c) && press[c] + heavy(cart, c) <= limit;
        }

        void dayEnds() {
            for (int c = 0; c < 64; c++) {
                if (plants[c] != null && wet[c] > 600) { plants[c] = null; why[c] = 4; }
            }
            boolean[] sick = new boolean[64];
            for (int c = 0; c < 64; c++) sick[c] = plants[c] != null && plants[c].ill;
            for (int c = 0; c < 64; c++) {
                if (plants[c] == null || sick[c]) continue;
                for (int o : besides(c)) {
                    if (!sick[o] || lots.isEmpty()) continue;
                    int lot = lots.get(lotNext);
                    lotNext++;
                    if (lotNext == lots.size()) lotNext = 0;
                    if (lot < odds) plants[c].ill = true;
                }
            }
            for (int c = 0; c < 64; c++) {
                if (plants[c] != null) plants[c].size += wet[c] >= 50 && wet[c] <= 300 ? 2 : 1;
            }
        }

        void see(Plant plant, int marks) {
            plant.seen++;
            long[] parts = plant.shares.clone();
            long all = 0;
            for (int k = 0; k < kinds.size(); k++) {
                for (int m = 0; m < 4; m++) {
                    int odds = kinds.get(k).odds[m];
                    parts[k] = parts[k] * ((marks & 1 << m) != 0 ? odds : 100 - odds) / 100;
                }
                all += parts[k];
            }
            if (all > 0) for (int k = 0; k < 5; k++) plant.shares[k] = parts[k] * 1_000_000_000L / all;
        }

        void sow(int c) {
            if (plants[c] != null) return;
            Plant plant = new Plant();
            long priors = 0;
            for (Kind kind : kinds) priors += kind.prior;
            for (int k = 0; k < kinds.size(); k++) plant.shares[k] = kinds.get(k).prior * 1_000_000_000L / priors;
            plants[c] = plant;
        }

        int weeds(Plant plant) {
            long all = 0;
            for (int k = 0; k < kinds.size(); k++) if (kinds.get(k).weed) all += plant.shares[k];
            return (int) (all * 100 / 1_000_000_000L);
        }

        int cell(int c, int what) {
            Plant plant = plants[c];
            switch (what) {
                case 0: return height[c];
                case 1: return wet[c];
                case 2: return press[c];
                case 3: return plant == null ? 0 : 1;
                case 4: return plant == null ? 0 : plant.size;
                case 5: return plant != null && plant.ill ? 1 : 0;
                case 6: return plant == null ? 0 : plant.seen;
                case 7: return plant == null ? 0 : plant.got;
                case 8: return shown[c];
                case 9: return plant == null ? 0 : weeds(plant);
                default: return plant != null ? 0 : why[c];
            }
        }
    }

    private static final List<List<Integer>> BESIDES = new ArrayList<>();

    static List<Integer> besides(int c) {
        for (int of = BESIDES.size(); of < 64; of++) {
            List<Integer> all = new ArrayList<>();
            for (int o = 0; o < 64; o++) {
                if (Math.abs(o / 8 - of / 8) + Math.abs(o % 8 - of % 8) == 1) all.add(o);
            }
            BESIDES.add(all);
        }
        return BESIDES.get(c);
    }

    final Sim sim = new Sim();
    final List<Event> events = new ArrayList<>();
    final List<int[]> strips = new ArrayList<>();
    final ModelRules text = new ModelRules();

    private boolean tell(Consumer<Sim> does) {
        if (events.size() >= 400) return false;
        Event event = new Event();
        event.hour = sim.now;
        event.does = does;
        events.add(event);
        does.accept(sim);
        return true;
    }

    private static boolean in(int v, int a, int b) {
        return a <= v && v <= b;
    }

    boolean land(int c, int height, int wet) {
        if (!in(c, 0, 63) || !in(height, 0, 99) || !in(wet, 0, 999)) return false;
        return tell(s -> { s.height[c] = height; s.wet[c] = wet; });
    }

    boolean set(int what, int v) {
        if (what == 0 && in(v, 1, 9999)) return tell(s -> s.limit = v);
        if (what == 1 && in(v, 1, 9999)) return tell(s -> s.bears = v);
        if (what == 2 && in(v, 0, 100)) return tell(s -> s.odds = v);
        if (what == 3 && in(v, 0, 14)) return tell(s -> s.reach = v);
        return false;
    }

    int rain(int a, int b, int much) {
        if (a <= sim.now || b < a || b > 719 || !in(much, 1, 99) || sim.rains.size() == 30) return -1;
        boolean was = tell(s -> {
            Rain rain = new Rain();
            rain.from = a;
            rain.to = b;
            rain.much = much;
            s.rains.add(rain);
        });
        return was ? sim.rains.size() - 1 : -1;
    }

    int cart(int kind, int weight, int sink, int home, int full) {
        if (!in(kind, 0, 3) || !in(weight, 1, 50) || !in(sink, 50, 999) || !in(home, 0, 63) || !in(full, 10, 500)
                || sim.carts.size() == 8) return -1;
        boolean was = tell(s -> {
            Cart cart = new Cart();
            cart.kind = kind;
            cart.weight = weight;
            cart.sink = sink;
            cart.home = home;
            cart.at = home;
            cart.full = full;
            cart.charge = full;
            cart.absent = s.without == 1 && s.number == s.carts.size();
            s.carts.add(cart);
        });
        return was ? sim.carts.size() - 1 : -1;
    }

    boolean charge(int k) {
        if (!in(k, 0, sim.carts.size() - 1) || sim.carts.get(k).does != 5) return false;
        return tell(s -> {
            Cart cart = s.carts.get(k);
            if (cart.does == 5) { cart.does = 0; cart.charge = cart.full; }
        });
    }

    int work(int kind, int c, int much) {
        if (!in(kind, 0, 3) || !in(c, 0, 63) || (kind == 2 ? !in(much, 1, 999) : much != 0)
                || sim.works.size() == 60) return -1;
        boolean was = tell(s -> {
            Work work = new Work();
            work.kind = kind;
            work.cell = c;
            work.much = much;
            work.never = s.without == 2 && s.number == s.works.size();
            s.works.add(work);
        });
        return was ? sim.works.size() - 1 : -1;
    }

    int lot(int v) {
        if (!in(v, 0, 99) || sim.lots.size() == 40) return -1;
        return tell(s -> s.lots.add(v)) ? sim.lots.size() : -1;
    }

    int kind(boolean weed, int prior, int a, int b, int c, int d) {
        if (!in(prior, 1, 100) || !in(a, 1, 99) || !in(b, 1, 99) || !in(c, 1, 99) || !in(d, 1, 99)
                || sim.kinds.size() == 5) return -1;
        boolean was = tell(s -> {
            Kind kind = new Kind();
            kind.weed = weed;
            kind.prior = prior;
            kind.odds = new int[] {a, b, c, d};
            s.kinds.add(kind);
        });
        return was ? sim.kinds.size() - 1 : -1;
    }

    private Plant plantOn(int c) {
        return in(c, 0, 63) ? sim.plants[c] : null;
    }

    boolean plant(int c) {
        if (!in(c, 0, 63) || plantOn(c) != null || sim.kinds.isEmpty()) return false;
        return tell(s -> s.sow(c));
    }

    boolean show(int c, int marks) {
        if (!in(c, 0, 63) || !in(marks, 0, 15)) return false;
        return tell(s -> s.shown[c] = marks);
    }

    boolean look(int c, int marks) {
        if (plantOn(c) == null || !in(marks, 0, 15)) return false;
        return tell(s -> { if (s.plants[c] != null) s.see(s.plants[c], marks); });
    }

    boolean ill(int c, boolean is) {
        if (plantOn(c) == null || plantOn(c).ill == is) return false;
        return tell(s -> { if (s.plants[c] != null) s.plants[c].ill = is; });
    }

    int pass(int n) {
        if (!in(n, 1, 200) || sim.now + n > 719) return -1;
        for (int i = 0; i < n; i++) sim.hour();
        return sim.now;
    }

    int cell(int c, int what) {
        return in(c, 0, 63) && in(what, 0, 10) ? sim.cell(c, what) : -1;
    }

    int share(int c, int kind) {
        return plantOn(c) == null || !in(kind, 0, sim.kinds.size() - 1) ? -1 : (int) plantOn(c).shares[kind];
    }

    int told(int k, int what) {
        if (!in(k, 0, sim.carts.size() - 1)) return -2;
        Cart cart = sim.carts.get(k);
        int[] first = {cart.kind, cart.at, cart.charge, cart.does, cart.work, cart.heard.size()};
        if (in(what, 0, 5)) return first[what];
        return in(what, 100, 163) ? cart.heard.contains(what - 100) ? 1 : 0 : -2;
    }

    int job(int w, int what) {
        if (!in(w, 0, sim.works.size() - 1) || !in(what, 0, 4)) return -2;
        Work work = sim.works.get(w);
        return new int[] {work.kind, work.cell, work.much, work.state, work.by}[what];
    }

    int way(int k, int c, int what) {
        if (!in(k, 0, sim.carts.size() - 1) || !in(c, 0, 63) || !in(what, 0, 2)) return -1;
        int[] way = sim.way(sim.carts.get(k), List.of(c));
        return way == null ? -1 : way[what];
    }

    long water(int what) {
        long all = 0;
        for (int wet : sim.wet) all += wet;
        return what == 0 ? all : what == 1 ? sim.fell : what == 2 ? sim.lost : -1;
    }

    /** How many steps from plant to plant each cell lies from those of the start; 999: not to be come to. */
    private int[] steps(List<Integer> start, List<Integer> pulled) {
        int[] steps = new int[64];
        java.util.Arrays.fill(steps, 999);
        for (int c : start) steps[c] = 0;
        for (int round = 0; round < 64; round++) {
            for (int c = 0; c < 64; c++) {
                if (sim.plants[c] == null || pulled.contains(c)) continue;
                for (int o : besides(c)) steps[c] = Math.min(steps[c], steps[o] + 1);
            }
        }
        return steps;
    }

    private List<Integer> illOnes() {
        List<Integer> all = new ArrayList<>();
        for (int c = 0; c < 64; c++) if (sim.plants[c] != null && sim.plants[c].ill) all.add(c);
        return all;
    }

    int spot(int n, int k) {
        List<Integer> ill = illOnes();
        if (!in(n, 0, 64) || k < 0 || ill.isEmpty()) return -1;
        List<Integer> spots = new ArrayList<>();
        for (int c = 0; c < 64; c++) {
            if (sim.plants[c] == null) continue;
            int[] steps = steps(List.of(c), List.of());
            boolean all = true;
            for (int i : ill) all &= steps[i] <= n;
            if (all) spots.add(c);
        }
        return k < spots.size() ? spots.get(k) : -1;
    }

    int pull(int m, int n, int what) {
        List<Integer> ill = illOnes();
        if (!in(m, 1, 3) || !in(n, 0, 64) || ill.isEmpty()) return -1;
        List<Integer> near = new ArrayList<>();
        for (int c = 0; c < 64 && near.size() < 8; c++) {
            boolean beside = false;
            for (int o : besides(c)) beside |= ill.contains(o);
            if (sim.plants[c] != null && !ill.contains(c) && beside) near.add(c);
        }
        if (in(what, 10, 9 + near.size())) return near.get(what - 10);
        int[] best = null;
        for (int bits = 0; bits < 1 << near.size(); bits++) {
            List<Integer> pulled = new ArrayList<>();
            for (int k = 0; k < near.size(); k++) if ((bits & 1 << k) != 0) pulled.add(near.get(k));
            if (pulled.size() > m) continue;
            int all = 0;
            for (int steps : steps(ill, pulled)) if (steps <= n) all++;
            int[] one = {all, pulled.size(), bits};
            if (best == null || java.util.Arrays.compare(one, best) < 0) best = one;
        }
        if (what == 0) return best[0];
        return in(what, 20, 19 + near.size()) ? best[2] >> (what - 20) & 1 : -1;
    }

    int strip(int arm, int crop) {
        if (!in(arm, 0, 1) || !in(crop, 0, 9999) || strips.size() == 12) return -1;
        strips.add(new int[] {arm, crop});
        return strips.size() - 1;
    }

    private int[] betters(int at, int ones, int zeros, int sumOnes, int sumZeros, int lead) {
        if (at == strips.size()) {
            return new int[] {sumOnes * zeros - sumZeros * ones >= lead ? 1 : 0, 1};
        }
        int[] all = new int[2];
        int crop = strips.get(at)[1];
        int wanted = 0;
        for (int[] strip : strips) wanted += strip[0];
        if (ones < wanted) {
            int[] part = betters(at + 1, ones + 1, zeros, sumOnes + crop, sumZeros, lead);
            all[0] += part[0];
            all[1] += part[1];
        }
        if (zeros < strips.size() - wanted) {
            int[] part = betters(at + 1, ones, zeros + 1, sumOnes, sumZeros + crop, lead);
            all[0] += part[0];
            all[1] += part[1];
        }
        return all;
    }

    int better(int what) {
        int[] many = new int[2], sum = new int[2];
        for (int[] strip : strips) { many[strip[0]]++; sum[strip[0]] += strip[1]; }
        int lead = sum[1] * many[0] - sum[0] * many[1];
        if (what == 2) return lead;
        return in(what, 0, 1) ? betters(0, 0, 0, 0, 0, lead)[what] : -2_000_000_000;
    }

    int feed(int a, int b, int c, int d, int e) {
        return text.feed(a, b, c, d, e);
    }

    int rules(int n) {
        return text.rules(n);
    }

    int fault() {
        return text.fault;
    }

    private int[] actOn(int c) {
        Plant plant = plantOn(c);
        if (plant == null) return null;
        int rain = 900;
        for (int h = 719; h > sim.now; h--) {
            for (Rain one : sim.rains) if (one.from <= h && h <= one.to) rain = h - sim.now;
        }
        return text.act(new int[] {sim.weeds(plant), sim.wet[c], sim.press[c], plant.seen, plant.size,
            plant.ill ? 1 : 0, rain, plant.got});
    }

    int act(int c, int what) {
        int[] act = actOn(c);
        return act == null || !in(what, 0, 2) ? -2_000_000_000 : act[what];
    }

    int plan(int c) {
        int[] act = actOn(c);
        if (act == null || act[1] == 2) return -1;
        if (act[1] == 3) return work(2, c, act[2] < 1 ? 1 : act[2] > 999 ? 999 : act[2]);
        return work(act[1] == 0 ? 1 : 0, c, 0);
    }

    int again(int without, int number, int c, int what) {
        int[] many = {sim.rains.size(), sim.carts.size(), sim.works.size()};
        if (!in(without, 0, 2) || !in(number, 0, many[without] - 1) || !in(c, 0, 63) || !in(what, 0, 10)) return -1;
        Sim other = new Sim();
        other.without = without;
        other.number = number;
        for (Event event : events) {
            while (other.now < event.hour) other.hour();
            event.does.accept(other);
        }
        while (other.now < sim.now) other.hour();
        return other.cell(c, what);
    }

    int count(int what) {
        int open = 0, done = 0, plants = 0, ill = 0, stuck = 0, got = 0;
        for (Work work : sim.works) { open += work.state == 0 ? 1 : 0; done += work.state == 2 ? 1 : 0; }
        for (Plant plant : sim.plants) {
            if (plant != null) { plants++; ill += plant.ill ? 1 : 0; got += plant.got; }
        }
        for (Cart cart : sim.carts) stuck += cart.does == 4 ? 1 : 0;
        int[] all = {sim.now, events.size(), sim.rains.size(), sim.carts.size(), sim.works.size(), open, done,
            sim.lots.size(), sim.kinds.size(), plants, ill, strips.size(), text.taken, text.statements(),
            text.bytes(), stuck, got};
        return in(what, 0, 16) ? all[what] : -1;
    }
}
