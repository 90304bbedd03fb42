import java.lang.reflect.InvocationTargetException;
import java.lang.reflect.Method;
import java.lang.reflect.Modifier;
import java.util.ArrayList;
import java.util.Arrays;
import java.util.List;
import java.util.NoSuchElementException;
import java.util.Random;

/**
 * Random runs of calls, each answered too by a slow reading of the document that shares nothing with
 * the class: whole ways are kept and compared, and all sets of tolls are gone through.
 */
public final class AgainstOracleTest {
    static final class Road {
        int a, b, cost, hours, house = -1, toll;

        Road copy() {
            Road r = new Road();
            r.a = a;
            r.b = b;
            r.cost = cost;
            r.hours = hours;
            r.house = house;
            r.toll = toll;
            return r;
        }
    }

    static final class Journey {
        int a, b, many, low, high, known = 1000, home = -1, time;
        boolean crowd;
    }

    static final class World {
        List<Road> roads = new ArrayList<>();
        List<Journey> journeys = new ArrayList<>();
        int cap = 6;
        int lean = 0;
        int shut = -1;

        World copy() {
            World w = new World();
            for (Road r : roads) {
                w.roads.add(r.copy());
            }
            w.journeys.addAll(journeys);
            w.cap = cap;
            w.lean = lean;
            return w;
        }

        List<int[]> waysOf(Journey j) {
            List<int[]> all = new ArrayList<>();
            boolean[] seen = new boolean[8];
            seen[j.a] = true;
            go(j, j.a, seen, new ArrayList<>(), all);
            return all;
        }

        private void go(Journey j, int at, boolean[] seen, List<Integer> path, List<int[]> all) {
            if (at == j.b) {
                int[] way = new int[path.size()];
                for (int i = 0; i < way.length; i++) {
                    way[i] = path.get(i);
                }
                all.add(way);
                return;
            }
            for (int i = 0; i < roads.size() && i < j.known; i++) {
                Road r = roads.get(i);
                int next = r.a == at ? r.b : r.b == at ? r.a : -1;
                if (i != shut && next >= 0 && !seen[next]) {
                    seen[next] = true;
                    path.add(i);
                    go(j, next, seen, path, all);
                    path.remove(path.size() - 1);
                    seen[next] = false;
                }
            }
        }

        List<Goer> goers() {
            List<Goer> all = new ArrayList<>();
            for (int n = 0; n < journeys.size(); n++) {
                Journey j = journeys.get(n);
                List<int[]> ways = waysOf(j);
                for (int w = j.low; w <= j.high; w++) {
                    Goer g = new Goer();
                    g.journey = j;
                    g.number = n;
                    g.worth = w;
                    g.ways = ways;
                    all.add(g);
                }
            }
            return all;
        }

        List<Integer> own(int house) {
            List<Integer> own = new ArrayList<>();
            for (int i = 0; i < roads.size(); i++) {
                if (house < 0 ? roads.get(i).house >= 0 : roads.get(i).house == house) {
                    own.add(i);
                }
            }
            return own;
        }

        boolean tooMany(int house) {
            return Math.pow(cap + 1, own(house).size()) > 20000;
        }

        int[] tolls() {
            int[] t = new int[roads.size()];
            for (int i = 0; i < t.length; i++) {
                t[i] = roads.get(i).toll;
            }
            return t;
        }

        void ask(int[] t) {
            for (int i = 0; i < t.length; i++) {
                roads.get(i).toll = t[i];
            }
        }
    }

    static final class Goer {
        Journey journey;
        int number;
        int worth;
        List<int[]> ways;

        int pains(World w, int[] way) {
            int sum = 0;
            for (int r : way) {
                Road road = w.roads.get(r);
                sum += road.cost + worth * road.hours + road.toll;
            }
            return sum;
        }

        int tolls(World w, int[] way) {
            int sum = 0;
            for (int r : way) {
                sum += w.roads.get(r).toll;
            }
            return sum;
        }

        int paidTo(World w, int house) {
            int sum = 0;
            int[] way = choice(w);
            if (way != null) {
                for (int r : way) {
                    sum += w.roads.get(r).house == house ? w.roads.get(r).toll : 0;
                }
            }
            return sum;
        }

        /** null stands for home (and for no way). */
        int[] choice(World w) {
            int[] best = null;
            int bestPains = journey.home;
            for (int[] way : ways) {
                int p = pains(w, way);
                boolean better;
                if (best == null && journey.home < 0) {
                    better = true;
                } else if (p != bestPains) {
                    better = p < bestPains;
                } else {
                    int mine = tolls(w, way);
                    int its = best == null ? 0 : tolls(w, best);
                    int[] other = best == null ? new int[0] : best;
                    if (mine != its) {
                        better = w.lean == 0 ? mine > its : mine < its;
                    } else if (way.length != other.length) {
                        better = way.length < other.length;
                    } else {
                        better = Arrays.compare(way, other) < 0;
                    }
                }
                if (better) {
                    best = way;
                    bestPains = p;
                }
            }
            return best;
        }

        int painsNow(World w) {
            int[] way = choice(w);
            return way != null ? pains(w, way) : Math.max(0, journey.home);
        }
    }

    interface Value {
        long of(World w);
    }

    static final class Oracle {
        World w = new World();
        StringBuilder text = new StringBuilder();
        List<Integer> row = new ArrayList<>();
        int[] weights = {1, 1, 1, 1, 1, 1, 1, 1, 1, 1};

        int sign(int v) {
            if (text.length() + 4 > 100) {
                return -1;
            }
            text.append((char) (v >>> 24)).append((char) (v >> 16 & 255)).append((char) (v >> 8 & 255)).append((char) (v & 255));
            return text.length();
        }

        boolean end(int n) {
            if (n < 0 || n > text.length()) {
                return false;
            }
            text.setLength(n);
            return true;
        }

        int tell() {
            String t = text.toString();
            text.setLength(0);
            World next = w.copy();
            int items = parse(t, next);
            if (items < 0) {
                return items;
            }
            if (next.roads.size() > 14) {
                return -100;
            }
            if (next.own(-1).size() > 5) {
                return -101;
            }
            if (next.journeys.size() > 8) {
                return -102;
            }
            for (Journey j : next.journeys) {
                if (next.waysOf(j).size() + (j.home >= 0 ? 1 : 0) > 200) {
                    return -103;
                }
            }
            w = next;
            return items;
        }

        /** A table of states: what may stand at each sign. */
        static int parse(String whole, World out) {
            String t = whole.length() > 60 ? whole.substring(0, 60) : whole;
            int items = 0;
            char kind = 0;
            String state = "item";
            String number = "";
            Road road = null;
            Journey j = null;
            for (int p = 0; p <= t.length(); p++) {
                char c = p < t.length() ? t.charAt(p) : 0;
                boolean isDigit = c >= '0' && c <= '9' && p < t.length();
                if (state.endsWith("#")) {
                    if (isDigit && number.length() < 3) {
                        number += c;
                        continue;
                    }
                    if (number.isEmpty()) {
                        return -1 - p;
                    }
                    int v = Integer.parseInt(number);
                    boolean fits = state.equals("cap#") ? v <= 20 : state.equals("cost#") ? v <= 99 : !state.equals("many#") || v >= 1 && v <= 99;
                    if (!fits) {
                        return -1 - (p - 1);
                    }
                    switch (state) {
                        case "cap#": out.cap = v; for (Road r : out.roads) r.toll = Math.min(r.toll, v); state = "done"; break;
                        case "cost#": road.cost = v; state = "+?"; break;
                        case "many#": j.many = v; state = "wc?"; break;
                        case "slow#": j.known = v; state = "/?"; break;
                        default: j.home = v; state = "@?"; break;
                    }
                }
                if (c == ';' && p < t.length() || p == t.length()) {
                    boolean canEnd = state.equals("done") || state.endsWith("?");
                    if (!canEnd) {
                        return -1 - p;
                    }
                    if (kind == 'j') {
                        out.journeys.add(j);
                    } else if (kind != 'm') {
                        out.roads.add(road);
                    }
                    items++;
                    state = "item";
                    continue;
                }
                switch (state) {
                    case "item":
                        if ("rtujm".indexOf(c) < 0) return -1 - p;
                        kind = c;
                        road = new Road();
                        road.house = c == 't' ? 0 : c == 'u' ? 1 : -1;
                        j = new Journey();
                        number = "";
                        state = c == 'm' ? "cap#" : "first";
                        break;
                    case "first":
                        if (c < 'a' || c > 'h') return -1 - p;
                        road.a = j.a = c - 'a';
                        state = "second";
                        break;
                    case "second":
                        if (c < 'a' || c > 'h' || c - 'a' == road.a) return -1 - p;
                        road.b = j.b = c - 'a';
                        number = "";
                        state = kind == 'j' ? "*" : "cost#";
                        break;
                    case "*":
                        if (c != '*') return -1 - p;
                        number = "";
                        state = "many#";
                        break;
                    case "+?":
                        if (c != '+') return -1 - p;
                        state = "hours";
                        break;
                    case "hours":
                        if (!isDigit) return -1 - p;
                        road.hours = c - '0';
                        state = "done";
                        break;
                    case "w":
                        if (!isDigit) return -1 - p;
                        j.low = j.high = c - '0';
                        state = "s?";
                        break;
                    case "c1":
                        if (!isDigit) return -1 - p;
                        j.low = c - '0';
                        j.crowd = true;
                        state = "c-";
                        break;
                    case "c-":
                        if (c != '-') return -1 - p;
                        state = "c2";
                        break;
                    case "c2":
                        if (!isDigit || c - '0' < j.low || c - '0' > j.low + 5) return -1 - p;
                        j.high = c - '0';
                        state = "s?";
                        break;
                    case "@":
                        if (c < '0' || c > '3') return -1 - p;
                        j.time = c - '0';
                        state = "done";
                        break;
                    default:
                        int from = Arrays.asList("wc?", "s?", "/?", "@?").indexOf(state);
                        if (from < 0) return -1 - p;
                        number = "";
                        if (c == 'w' && from <= 0) state = "w";
                        else if (c == 'c' && from <= 0) state = "c1";
                        else if (c == 's' && from <= 1) state = "slow#";
                        else if (c == '/' && from <= 2) state = "home#";
                        else if (c == '@') state = "@";
                        else return -1 - p;
                }
            }
            return whole.length() > 60 ? -61 : items;
        }

        boolean house(int h) {
            return h == 0 || h == 1;
        }

        boolean refused(int h) {
            return !house(h) || w.tooMany(h);
        }

        Goer goer(int journey, int worth) {
            for (Goer g : w.goers()) {
                if (g.number == journey && g.worth == worth) {
                    return g;
                }
            }
            return null;
        }

        static int take(World w, List<Goer> goers, int house) {
            int sum = 0;
            for (Goer g : goers) {
                sum += g.journey.many * g.paidTo(w, house);
            }
            return sum;
        }

        static int suffered(World w, List<Goer> goers) {
            int sum = 0;
            for (Goer g : goers) {
                sum += g.journey.many * g.painsNow(w);
            }
            return sum;
        }

        /** All rows of 0 .. cap for some roads, in order. */
        static List<int[]> sets(int roads, int cap) {
            List<int[]> all = new ArrayList<>();
            all.add(new int[0]);
            for (int i = 0; i < roads; i++) {
                List<int[]> longer = new ArrayList<>();
                for (int[] s : all) {
                    for (int v = 0; v <= cap; v++) {
                        int[] n = Arrays.copyOf(s, i + 1);
                        n[i] = v;
                        longer.add(n);
                    }
                }
                all = longer;
            }
            return all;
        }

        /** The first set with the greatest value: its value; the world asks these tolls then. */
        static long seek(World w, List<Integer> moved, int cap, Value value) {
            long greatest = Long.MIN_VALUE;
            int[] best = null;
            for (int[] s : sets(moved.size(), cap)) {
                put(w, moved, s);
                long v = value.of(w);
                if (v > greatest) {
                    greatest = v;
                    best = s;
                }
            }
            put(w, moved, best);
            return greatest;
        }

        static void put(World w, List<Integer> moved, int[] s) {
            for (int i = 0; i < s.length; i++) {
                w.roads.get(moved.get(i)).toll = s[i];
            }
        }

        static int best(World w, int house) {
            List<Goer> goers = w.goers();
            List<Integer> own = w.own(house);
            own.remove(Integer.valueOf(w.shut));
            return (int) seek(w, own, w.cap, x -> take(x, goers, house));
        }

        void tellOwn(World x, int house) {
            for (int r : x.own(house)) {
                row.add(x.roads.get(r).toll);
            }
        }

        int way(int journey, int worth) {
            Goer g = goer(journey, worth);
            if (g == null) return -1;
            row.clear();
            int[] c = g.choice(w);
            if (c != null) for (int r : c) row.add(r);
            return row.size();
        }

        int pains(int journey, int worth) {
            Goer g = goer(journey, worth);
            return g == null ? -1 : g.painsNow(w);
        }

        int room(int journey, int worth) {
            Goer g = goer(journey, worth);
            if (g == null) return -1;
            int[] c = g.choice(w);
            if (c == null) return -2;
            List<Integer> own = new ArrayList<>();
            for (int r : c) if (w.roads.get(r).house >= 0) own.add(r);
            if (own.isEmpty()) return -2;
            int least = g.journey.home;
            for (int[] way : g.ways) {
                List<Integer> has = new ArrayList<>();
                for (int r : way) has.add(r);
                if (!has.containsAll(own)) {
                    int p = g.pains(w, way);
                    if (least < 0 || p < least) least = p;
                }
            }
            return least < 0 ? -2 : least - g.painsNow(w);
        }

        int take(int h) {
            return house(h) ? take(w, w.goers(), h) : -1;
        }

        int suffered() {
            return suffered(w, w.goers());
        }

        static boolean uses(int[] way, int road) {
            if (way != null) for (int r : way) if (r == road) return true;
            return false;
        }

        int by(int road) {
            if (road < 0 || road >= w.roads.size()) return -1;
            int sum = 0;
            for (Goer g : w.goers()) if (uses(g.choice(w), road)) sum += g.journey.many;
            return sum;
        }

        int ways(int j) {
            if (j < 0 || j >= w.journeys.size()) return -1;
            return w.waysOf(w.journeys.get(j)).size() + (w.journeys.get(j).home >= 0 ? 1 : 0);
        }

        int best(int h) {
            if (refused(h)) return -1;
            World x = w.copy();
            int v = best(x, h);
            row.clear();
            tellOwn(x, h);
            return v;
        }

        int set(int h) {
            if (refused(h)) return -1;
            return best(w, h);
        }

        int ties(int h) {
            if (refused(h)) return -1;
            World x = w.copy();
            x.lean = 1;
            World y = w.copy();
            y.lean = 0;
            return best(x, h) - best(y, h);
        }

        int bound(int h) {
            if (refused(h)) return -1;
            int sum = 0;
            for (Goer g : w.goers()) {
                World x = w.copy();
                sum += g.journey.many * (int) seek(x, x.own(h), x.cap, y -> g.paidTo(y, h));
            }
            return sum;
        }

        int given(int h) {
            if (refused(h)) return -1;
            List<Goer> goers = w.goers();
            List<int[]> now = new ArrayList<>();
            for (Goer g : goers) now.add(g.choice(w));
            World x = w.copy();
            long v = seek(x, x.own(h), x.cap, y -> {
                for (int i = 0; i < goers.size(); i++) {
                    if (goers.get(i).choice(y) != now.get(i)) return -1;
                }
                return take(y, goers, h);
            });
            if (v < 0) return -2;
            row.clear();
            tellOwn(x, h);
            return (int) v;
        }

        int above(int h, int v) {
            if (refused(h)) return -1;
            List<Goer> goers = w.goers();
            World x = w.copy();
            List<Integer> own = x.own(h);
            int n = 0;
            for (int[] s : sets(own.size(), x.cap)) {
                put(x, own, s);
                if (take(x, goers, h) >= v) n++;
            }
            return n;
        }

        int[] takes(World from, int road) {
            World x = from.copy();
            int[] t = new int[x.cap + 1];
            List<Goer> goers = x.goers();
            for (int v = 0; v <= x.cap; v++) {
                x.roads.get(road).toll = v;
                t[v] = take(x, goers, x.roads.get(road).house);
            }
            return t;
        }

        boolean tolled(int road) {
            return road >= 0 && road < w.roads.size() && w.roads.get(road).house >= 0;
        }

        int line(int road) {
            if (!tolled(road)) return -1;
            row.clear();
            int g = 0;
            for (int t : takes(w, road)) {
                row.add(t);
                g = Math.max(g, t);
            }
            return g;
        }

        int bends(int road) {
            if (!tolled(road)) return -1;
            int[] t = takes(w, road);
            row.clear();
            for (int p = 1; p + 1 < t.length; p++) {
                int grows = t[p + 1] - t[p];
                int grew = t[p] - t[p - 1];
                if (grows != grew) row.add(p);
            }
            return row.size();
        }

        int climbIn(World x, int h) {
            int changed = 0;
            int still = 0;
            List<Integer> own = x.own(h);
            while (still < 1) {
                still = 1;
                for (int r : own) {
                    int[] t = takes(x, r);
                    int top = 0;
                    for (int v : t) top = Math.max(top, v);
                    if (t[x.roads.get(r).toll] < top) {
                        int v = 0;
                        while (t[v] != top) v++;
                        x.roads.get(r).toll = v;
                        changed++;
                        still = 0;
                    }
                }
            }
            return changed;
        }

        int climb(int h) {
            if (!house(h)) return -1;
            World x = w.copy();
            int n = climbIn(x, h);
            row.clear();
            row.add(take(x, x.goers(), h));
            tellOwn(x, h);
            return n;
        }

        int gap(int h) {
            if (refused(h)) return -1;
            World x = w.copy();
            climbIn(x, h);
            return best(w.copy(), h) - take(x, x.goers(), h);
        }

        int times(int h) {
            if (refused(h)) return -1;
            row.clear();
            int sum = 0;
            for (int t = 0; t < 4; t++) {
                World x = w.copy();
                int time = t;
                x.journeys.removeIf(j -> j.time != time);
                int v = best(x, h);
                row.add(v);
                sum += v;
            }
            return sum;
        }

        int answers(int n) {
            if (n < 1 || n > 60 || refused(0) || refused(1)) return -1;
            World x = w.copy();
            List<int[]> after = new ArrayList<>();
            int answer = -3;
            for (int i = 1; i <= n && answer == -3; i++) {
                best(x, (i - 1) % 2);
                int[] t = x.tolls();
                int[] one = i >= 2 ? after.get(i - 2) : w.tolls();
                int[] two = i >= 3 ? after.get(i - 3) : w.tolls();
                if (i >= 2 && Arrays.equals(t, one) && Arrays.equals(one, two)) {
                    answer = i - 2;
                } else {
                    for (int k = i - 2; k >= 1; k -= 2) {
                        if (Arrays.equals(after.get(k - 1), t)) answer = -2;
                    }
                }
                after.add(t);
            }
            row.clear();
            row.add(take(x, x.goers(), 0));
            row.add(take(x, x.goers(), 1));
            tellAll(x);
            return answer;
        }

        void tellAll(World x) {
            for (int r : x.own(-1)) row.add(x.roads.get(r).toll);
        }

        int rests() {
            List<Integer> all = w.own(-1);
            if (Math.pow(w.cap + 1, all.size()) > 2000) return -1;
            List<Goer> goers = w.goers();
            World x = w.copy();
            row.clear();
            int n = 0;
            for (int[] s : sets(all.size(), x.cap)) {
                put(x, all, s);
                int[] takes = {take(x, goers, 0), take(x, goers, 1)};
                boolean rest = true;
                for (int h = 0; h < 2 && rest; h++) {
                    int house = h;
                    World y = x.copy();
                    rest = seek(y, y.own(h), y.cap, z -> take(z, goers, house)) == takes[h];
                }
                if (rest) {
                    if (n == 0) {
                        tellAll(x);
                        row.add(takes[0]);
                        row.add(takes[1]);
                    }
                    n++;
                }
            }
            return n;
        }

        int spare(int h, int k) {
            if (refused(h) || k < 0 || k > w.own(h).size()) return -1;
            List<Goer> goers = w.goers();
            int least = -1;
            for (int bits = 0; bits < 1 << 14; bits++) {
                World x = w.copy();
                List<Integer> own = x.own(h);
                boolean fits = Integer.bitCount(bits) == k;
                for (int r = 0; r < 14 && fits; r++) {
                    if ((bits >> r & 1) != 0) {
                        fits = own.remove(Integer.valueOf(r));
                        if (fits) x.roads.get(r).toll = 0;
                    }
                }
                if (fits) {
                    int v = (int) seek(x, own, x.cap, y -> take(y, goers, h));
                    int s = suffered(x, goers);
                    if (least < 0 || s < least) {
                        least = s;
                        row.clear();
                        row.add(bits);
                        row.add(v);
                    }
                }
            }
            return least;
        }

        int ceiling(int h) {
            if (refused(h)) return -1;
            List<Goer> goers = w.goers();
            int least = -1;
            for (int cap = w.cap; cap >= 0; cap--) {
                World x = w.copy();
                int v = (int) seek(x, x.own(h), cap, y -> take(y, goers, h));
                int s = suffered(x, goers);
                if (least < 0 || s < least) {
                    least = s;
                    row.clear();
                    row.add(cap);
                    row.add(v);
                }
            }
            return least;
        }

        int without(int h, int road) {
            if (refused(h) || road < 0 || road >= w.roads.size()) return -1;
            World x = w.copy();
            x.shut = road;
            return best(x, h) - best(w.copy(), h);
        }

        int ford(int h, int a, int b, int cost) {
            if (refused(h) || a < 0 || a > 7 || b < 0 || b > 7 || a == b || cost < 0 || cost > 99 || w.roads.size() > 13) return -1;
            World x = w.copy();
            Road r = new Road();
            r.a = a;
            r.b = b;
            r.cost = cost;
            x.roads.add(r);
            for (Journey j : x.journeys) {
                if (x.waysOf(j).size() + (j.home >= 0 ? 1 : 0) > 200) return -1;
            }
            return best(x, h) - best(w.copy(), h);
        }

        int weight(int worth, int v) {
            if (worth < 0 || worth > 9 || v < 0 || v > 99) return -1;
            int was = weights[worth];
            weights[worth] = v;
            return was;
        }

        static List<Goer> inWorld(World x, int worth) {
            List<Goer> all = x.goers();
            all.removeIf(g -> g.journey.crowd && g.worth != worth);
            return all;
        }

        int mean(int h) {
            if (refused(h)) return -1;
            World x = w.copy();
            List<List<Goer>> worlds = new ArrayList<>();
            for (int i = 0; i < 10; i++) worlds.add(inWorld(x, i));
            long v = seek(x, x.own(h), x.cap, y -> {
                long sum = 0;
                for (int i = 0; i < 10; i++) sum += (long) weights[i] * take(y, worlds.get(i), h);
                return sum;
            });
            row.clear();
            tellOwn(x, h);
            return (int) v;
        }

        int safe(int h) {
            int all = 0;
            for (int v : weights) all += v;
            if (refused(h) || all == 0) return -1;
            World x = w.copy();
            List<List<Goer>> worlds = new ArrayList<>();
            for (int i = 0; i < 10; i++) worlds.add(inWorld(x, i));
            long v = seek(x, x.own(h), x.cap, y -> {
                long least = Long.MAX_VALUE;
                for (int i = 0; i < 10; i++) {
                    if (weights[i] > 0) least = Math.min(least, take(y, worlds.get(i), h));
                }
                return least;
            });
            row.clear();
            tellOwn(x, h);
            return (int) v;
        }

        int learn(int road, int v) {
            if (road < 0 || road >= w.roads.size() || v < 0) return -1;
            int bits = 0;
            for (int i = 0; i < 10; i++) {
                int n = 0;
                for (Goer g : inWorld(w, i)) if (uses(g.choice(w), road)) n += g.journey.many;
                if (n == v) bits |= 1 << i;
            }
            return bits;
        }

        int last(int road) {
            if (!tolled(road) || refused(w.roads.get(road).house)) return -1;
            int h = w.roads.get(road).house;
            return best(w.copy(), h) - bestOfSome(h, without(w.own(h), road));
        }

        static List<Integer> without(List<Integer> all, int road) {
            List<Integer> rest = new ArrayList<>(all);
            rest.remove(Integer.valueOf(road));
            return rest;
        }

        int bestOfSome(int h, List<Integer> some) {
            World x = w.copy();
            for (int r : x.own(h)) if (!some.contains(r)) x.roads.get(r).toll = 0;
            List<Goer> goers = x.goers();
            return (int) seek(x, some, x.cap, y -> take(y, goers, h));
        }

        /** Every order by itself. */
        int fair(int road) {
            if (!tolled(road) || refused(w.roads.get(road).house)) return -1;
            int h = w.roads.get(road).house;
            List<List<Integer>> orders = new ArrayList<>();
            orders.add(new ArrayList<>());
            for (int r : w.own(h)) {
                List<List<Integer>> longer = new ArrayList<>();
                for (List<Integer> o : orders) {
                    for (int i = 0; i <= o.size(); i++) {
                        List<Integer> n = new ArrayList<>(o);
                        n.add(i, r);
                        longer.add(n);
                    }
                }
                orders = longer;
            }
            java.util.Map<List<Integer>, Integer> memo = new java.util.HashMap<>();
            long sum = 0;
            for (List<Integer> o : orders) {
                List<Integer> ahead = new ArrayList<>(o.subList(0, o.indexOf(road)));
                List<Integer> then = new ArrayList<>(ahead);
                then.add(road);
                ahead.sort(null);
                then.sort(null);
                sum += memo.computeIfAbsent(then, k -> bestOfSome(h, k)) - memo.computeIfAbsent(ahead, k -> bestOfSome(h, k));
            }
            long lower = orders.size();
            for (long d = lower; d > 1; d--) {
                if (sum % d == 0 && lower % d == 0) {
                    sum /= d;
                    lower /= d;
                }
            }
            row.clear();
            row.add((int) sum);
            row.add((int) lower);
            return (int) (sum / lower);
        }

        int count(int what) {
            switch (what) {
                case 0: return w.roads.size();
                case 1: return w.own(-1).size();
                case 2: return w.journeys.size();
                case 3: return w.goers().size();
                case 4: return w.cap;
                case 5: return w.lean;
                case 6: return row.size();
                case 7: return text.length();
                default: return -1;
            }
        }

        int of(int road, int what) {
            if (road < 0 || road >= w.roads.size() || what < 0 || what > 5) throw new NoSuchElementException();
            Road r = w.roads.get(road);
            return new int[] {r.a, r.b, r.cost, r.hours, r.house, r.toll}[what];
        }

        int row(int i) {
            if (i < 0 || i >= row.size()) throw new NoSuchElementException();
            return row.get(i);
        }

        int toll(int road, int v) {
            if (!tolled(road) || v < 0 || v > w.cap) return -1;
            int was = w.roads.get(road).toll;
            w.roads.get(road).toll = v;
            return was;
        }

        int lean(int v) {
            if (v < 0 || v > 1) return -1;
            int was = w.lean;
            w.lean = v;
            return was;
        }
    }

    static final int THROWN = Integer.MIN_VALUE;
    static final String[] NAMES = {"toll", "lean", "way", "pains", "room", "take", "suffered", "by", "ways", "best", "set",
        "ties", "bound", "given", "above", "line", "bends", "climb", "gap", "times", "answers", "rests", "spare", "ceiling",
        "without", "ford", "weight", "mean", "safe", "learn", "last", "fair", "count", "of", "row"};

    /** The answer of a call of that name, of the class or of the oracle. */
    static int ask(Object x, String name, int... a) {
        for (Method m : x.getClass().getDeclaredMethods()) {
            if (m.getName().equals(name) && !Modifier.isStatic(m.getModifiers()) && !Modifier.isPrivate(m.getModifiers())) {
                int taken = m.getParameterCount();
                boolean ints = Arrays.stream(m.getParameterTypes()).allMatch(t -> t == int.class);
                if (ints && taken <= a.length) {
                    return call(x, m, Arrays.stream(a, 0, taken).boxed().toArray());
                }
            }
        }
        throw new IllegalStateException("no call " + name);
    }

    static int call(Object x, Method m, Object[] a) {
        try {
            m.setAccessible(true);
            return (Integer) m.invoke(x, a);
        } catch (InvocationTargetException e) {
            if (e.getCause() instanceof NoSuchElementException) {
                return THROWN;
            }
            throw new IllegalStateException(m.getName() + Arrays.toString(a), e.getCause());
        } catch (IllegalAccessException e) {
            throw new IllegalStateException(e);
        }
    }

    static String randomItem(Random r, int corners) {
        char a = (char) ('a' + r.nextInt(corners));
        char b = (char) ('a' + r.nextInt(corners));
        while (b == a) b = (char) ('a' + r.nextInt(corners));
        int kind = r.nextInt(20);
        int dear = r.nextInt(6) == 0 ? 100 : 8;
        if (kind == 0) return "m" + r.nextInt(r.nextInt(3) == 0 ? 21 : 5);
        if (kind < 13) {
            String house = kind < 6 ? "r" : r.nextInt(3) == 0 ? "u" : "t";
            return house + a + b + r.nextInt(dear) + (r.nextInt(2) == 0 ? "+" + r.nextInt(4) : "");
        }
        StringBuilder s = new StringBuilder("j").append(a).append(b).append('*').append(1 + r.nextInt(r.nextInt(4) == 0 ? 99 : 4));
        int worth = r.nextInt(3);
        if (worth == 1) s.append('w').append(r.nextInt(10));
        if (worth == 2) {
            int low = r.nextInt(10);
            s.append('c').append(low).append('-').append(Math.min(9, low + r.nextInt(6)));
        }
        if (r.nextInt(4) == 0) s.append('s').append(r.nextInt(16));
        if (r.nextInt(3) == 0) s.append('/').append(r.nextInt(30));
        if (r.nextInt(3) == 0) s.append('@').append(r.nextInt(4));
        return s.toString();
    }

    static String randomText(Random r, int corners) {
        StringBuilder s = new StringBuilder();
        int items = 1 + r.nextInt(9);
        for (int i = 0; i < items; i++) {
            String item = randomItem(r, corners);
            if (s.length() + item.length() < 60 || r.nextInt(20) == 0) s.append(i > 0 && s.length() > 0 ? ";" : "").append(item);
        }
        String signs = "rtujmabcdefghi0123456789+*wcs/@-;";
        int faults = r.nextInt(4) == 0 ? 1 + r.nextInt(2) : 0;
        for (int f = 0; f < faults && s.length() > 0; f++) {
            int p = r.nextInt(s.length());
            char c = r.nextInt(20) == 0 ? (char) r.nextInt(256) : signs.charAt(r.nextInt(signs.length()));
            int how = r.nextInt(3);
            if (how == 0) s.setCharAt(p, c);
            else if (how == 1) s.insert(p, c);
            else s.deleteCharAt(p);
        }
        return s.length() > 100 ? s.substring(0, 100) : s.toString();
    }

    /** Two bridges side by side: houses that undercut each other, with rings and rests. */
    static String duelText(Random r) {
        StringBuilder s = new StringBuilder("tab" + r.nextInt(3) + ";uab" + r.nextInt(3) + ";rab" + (2 + r.nextInt(6)));
        if (r.nextInt(2) == 0) s.append(";m" + (2 + r.nextInt(6)));
        if (r.nextInt(3) == 0) s.append(r.nextBoolean() ? ";tab1" : ";ubc1;rbc4;jac*1");
        for (int i = 1 + r.nextInt(2); i > 0; i--) s.append(";jab*" + (1 + r.nextInt(4)) + (r.nextInt(3) == 0 ? "s" + (1 + r.nextInt(2)) : ""));
        return s.toString();
    }

    /** Many roads and few tolls, so that there are many ways and draws among them. */
    static String denseText(Random r) {
        StringBuilder s = new StringBuilder("m" + (1 + r.nextInt(2)));
        int corners = 4 + r.nextInt(2);
        for (int i = 0; i < 11; i++) {
            char a = (char) ('a' + r.nextInt(corners));
            char b = (char) ('a' + (a - 'a' + 1 + r.nextInt(corners - 1)) % corners);
            s.append(';').append("rrrttu".charAt(i < 6 ? i : 0)).append(a).append(b).append(r.nextInt(3));
        }
        return s.substring(0, Math.min(s.length(), 60));
    }

    static int wrong = 0;

    static void same(int seed, List<String> run, String call, long got, long due) {
        run.add(call + " -> " + due);
        if (got != due) {
            wrong++;
            System.out.println("seed " + seed + ": " + call + " answered " + got + ", due is " + due);
            if (wrong == 1) for (String s : run) System.out.println("   " + s);
        }
    }

    static void tellBoth(int seed, List<String> run, TollsThatPay x, Oracle o, String text) {
        int room = 100 - o.count(7);
        for (int i = 0; i < text.length() && i + 4 <= room; i += 4) {
            int v = 0;
            for (int k = 0; k < 4; k++) v = v << 8 | (i + k < text.length() ? text.charAt(i + k) : 'x');
            same(seed, run, "sign(" + v + ")", x.sign(v), o.sign(v));
        }
        int n = Math.min(text.length(), o.count(7));
        same(seed, run, "end(" + n + ")", x.end(n) ? 1 : 0, o.end(n) ? 1 : 0);
        same(seed, run, "tell() \"" + o.text + "\"", x.tell(), o.tell());
    }

    /** What calls answer behind an object's 512th is free: a step has 51 at most, the end 6 of each road and 9. */
    static boolean hasCallsLeft(List<String> run) {
        return run.size() + 51 + 6 * 14 + 9 <= 512;
    }

    static void oneRun(int seed) {
        Random r = new Random(seed);
        TollsThatPay x = new TollsThatPay();
        Oracle o = new Oracle();
        List<String> run = new ArrayList<>();
        int corners = 2 + r.nextInt(r.nextInt(5) == 0 ? 7 : 4);
        int most = r.nextInt(4) == 0 ? 5 : 3;
        if (seed % 4 == 1) tellBoth(seed, run, x, o, duelText(r));
        if (seed % 8 == 2) tellBoth(seed, run, x, o, denseText(r));
        tellBoth(seed, run, x, o, randomText(r, corners));
        for (int i = 0; i < 60 && hasCallsLeft(run); i++) {
            if (r.nextInt(12) == 0) {
                String text = randomText(r, corners);
                World next = o.w.copy();
                boolean small = Oracle.parse(text, next) < 0 || Math.pow(next.cap + 1, next.own(-1).size()) < 3000 && next.goers().size() * next.roads.size() < 150;
                if (small || r.nextInt(10) == 0 && most == 5) tellBoth(seed, run, x, o, text);
            } else {
                String name = NAMES[r.nextInt(NAMES.length)];
                int[] a = argsFor(r, name, o);
                same(seed, run, name + Arrays.toString(a), ask(x, name, a), ask(o, name, a));
            }
            same(seed, run, "count(6)", x.count(6), o.count(6));
            for (int k = 0; k < o.row.size(); k++) same(seed, run, "row(" + k + ")", ask(x, "row", new int[] {k}), o.row.get(k));
            if (wrong > 20) return;
        }
        for (int road = 0; road < o.w.roads.size(); road++) {
            for (int what = 0; what < 6; what++) same(seed, run, "of(" + road + ", " + what + ")", x.of(road, what), o.of(road, what));
        }
        for (int what = 0; what < 9; what++) same(seed, run, "count(" + what + ")", x.count(what), o.count(what));
    }

    static int[] argsFor(Random r, String name, Oracle o) {
        int road = r.nextInt(o.w.roads.size() + 1) - (r.nextInt(20) == 0 ? 1 : 0);
        int house = r.nextInt(20) == 0 ? r.nextInt(4) - 1 : r.nextInt(3) == 0 ? 1 : 0;
        switch (name) {
            case "toll": return new int[] {road, r.nextInt(o.w.cap + 2) - (r.nextInt(20) == 0 ? 1 : 0)};
            case "lean": return new int[] {r.nextInt(20) == 0 ? 2 : r.nextInt(2)};
            case "way": case "pains": case "room":
                if (!o.w.journeys.isEmpty() && r.nextInt(10) != 0) {
                    int n = r.nextInt(o.w.journeys.size());
                    Journey j = o.w.journeys.get(n);
                    return new int[] {n, j.low + r.nextInt(j.high - j.low + 1)};
                }
                return new int[] {r.nextInt(10) - 1, r.nextInt(12) - 1};
            case "by": case "line": case "bends": case "last": case "fair": return new int[] {road};
            case "ways": return new int[] {r.nextInt(10) - 1};
            case "above": return new int[] {house, r.nextInt(40) - 2};
            case "answers": return new int[] {r.nextInt(3) == 0 ? r.nextInt(64) - 1 : r.nextInt(10)};
            case "spare": return new int[] {house, r.nextInt(10) == 0 ? r.nextInt(8) - 1 : r.nextInt(o.w.own(house).size() + 1)};
            case "without": return new int[] {house, road};
            case "ford": return new int[] {house, r.nextInt(10) - 1 & 7, r.nextInt(5), r.nextInt(10) == 0 ? r.nextInt(104) - 2 : r.nextInt(6)};
            case "weight": return new int[] {r.nextInt(12) - 1, r.nextInt(10) == 0 ? r.nextInt(104) - 2 : r.nextInt(3)};
            case "learn": return new int[] {road, r.nextInt(12) - 1};
            case "count": return new int[] {r.nextInt(11) - 1};
            case "of": return new int[] {road, r.nextInt(8) - 1};
            case "row": return new int[] {r.nextInt(8) - 1};
            default: return new int[] {house};
        }
    }

    public static void main(String[] args) {
        int from = args.length > 0 ? Integer.parseInt(args[0]) : 1;
        int to = args.length > 1 ? Integer.parseInt(args[1]) : 400;
        for (int seed = from; seed <= to && wrong <= 20; seed++) {
            oneRun(seed);
        }
        System.out.println(wrong == 0 ? "all answers are as the oracle's" : wrong + " wrong");
        if (wrong > 0) System.exit(1);
    }
}
