import java.lang.reflect.Method;
import java.util.ArrayList;
import java.util.Arrays;
import java.util.Collections;
import java.util.HashMap;
import java.util.List;
import java.util.Map;
import java.util.Random;
import java.util.function.IntPredicate;
import java.util.function.IntUnaryOperator;
import java.util.regex.Matcher;
import java.util.regex.Pattern;

/** Long runs of drawn calls, each answer held against a second and plainer reading of the document. */
public final class ModelTest {
    private static final int NONE = -1;
    private static final int BAD = -2;
    private static final int OTHER = -3;
    private static final int NOTHING = -4;
    private static final int STUCK = -5;
    private static final int FULL = -6;

    private static final class Refusal extends RuntimeException {
        private static final long serialVersionUID = 1L;
        final int number;

        Refusal(int number) {
            super(null, null, false, false);
            this.number = number;
        }
    }

    private static void refuseIf(boolean isSo, int number) {
        if (isSo) {
            throw new Refusal(number);
        }
    }

    private static boolean in(long v, long least, long most) {
        return least <= v && v <= most;
    }

    private record Person(int kind, int a, int nerve, int fled) {
        Person withNerve(int v) {
            return new Person(kind, a, v, fled);
        }

        boolean isA(int wanted) {
            Map<Integer, Integer> above = Map.of(1, 0, 2, 0, 5, 0, 3, 1, 4, 2);
            return kind == wanted || above.containsKey(kind) && new Person(above.get(kind), a, nerve, fled).isA(wanted);
        }
    }

    private record House(int rage, int calm, int growth, int bar, int hour, List<Person> people) {
        House with(int what, int v) {
            int[] m = {rage, calm, growth, bar, hour};
            m[what] = v;
            return new House(m[0], m[1], m[2], m[3], m[4], people);
        }

        House with(int k, Person person) {
            List<Person> changed = new ArrayList<>(people);
            changed.set(k, person);
            return new House(rage, calm, growth, bar, hour, changed);
        }

        House and(Person person) {
            List<Person> more = new ArrayList<>(people);
            more.add(person);
            return new House(rage, calm, growth, bar, hour, more);
        }

        int get(int what) {
            return new int[] {rage, calm, growth, bar, hour}[what];
        }

        int fright() {
            return rage / 3 + growth;
        }

        boolean stays(int k) {
            Person p = people.get(k);
            boolean plainly = p.nerve >= fright();
            return switch (p.kind) {
                case 0, 2 -> plainly;
                case 1 -> p.nerve + p.a >= fright();
                case 3 -> true;
                case 4 -> p.nerve * 2 >= fright();
                default -> plainly && rage < bar;
            };
        }

        int rageIfStayed(int k) {
            Person p = people.get(k);
            int sung = p.a + (rage % 2 == 0 ? 3 : 0);
            int left = switch (p.kind) {
                case 0 -> rage - p.a;
                case 1 -> rage - sung;
                case 2 -> rage - rage / 4;
                case 3 -> rage - sung - growth;
                case 4 -> rage - rage / 4 - p.a;
                default -> rage + p.a;
            };
            return Math.min(99, Math.max(0, left));
        }

        boolean isOrder(long v) {
            return v == NONE || v == 10 || in(v, 0, people.size() - 1);
        }

        List<Integer> orders() {
            List<Integer> all = new ArrayList<>();
            all.add(NONE);
            for (int k = 0; k < people.size(); k++) {
                all.add(k);
            }
            all.add(10);
            return all;
        }

        int fledInAll() {
            return people.stream().mapToInt(Person::fled).sum();
        }

        /** HARMS aren't kept in the house: they are told by harmed(). */
        House behind(int order) {
            int r = rage;
            int c = calm;
            int g = growth;
            House then = this;
            if (order == 10) {
                int part = (r - c) / 4;
                r -= part;
                c += part;
            } else if (order >= 0 && stays(order)) {
                r = rageIfStayed(order);
                if (people.get(order).isA(2) && hour % 4 == 0) {
                    g = Math.min(9, g + 1);
                }
            } else {
                if (order >= 0) {
                    Person p = people.get(order);
                    then = with(order, new Person(p.kind, p.a, p.nerve, p.fled + 1));
                }
                r = Math.min(99, r + 2 * g);
                if (hour % 12 == 0) {
                    g = Math.min(9, g + 1);
                }
            }
            if (r >= bar) {
                c = Math.max(0, c - 1);
            }
            return new House(r, c, g, bar, Math.min(9999, hour + 1), then.people);
        }

        boolean harmed() {
            return rage >= bar;
        }

        /** The house now and behind each HOUR of a ROSTER. */
        List<House> along(List<Integer> roster) {
            List<House> all = new ArrayList<>(List.of(this));
            for (int order : roster) {
                all.add(all.get(all.size() - 1).behind(order));
            }
            return all;
        }

        House last(List<Integer> roster) {
            List<House> all = along(roster);
            return all.get(all.size() - 1);
        }

        int harms(List<Integer> roster) {
            return (int) along(roster).stream().skip(1).filter(House::harmed).count();
        }

        List<Integer> turns(int from, int n) {
            List<Integer> all = new ArrayList<>();
            for (int i = 0; i < n; i++) {
                all.add((from + i) % people.size());
            }
            return all;
        }

        int safe(int order) {
            List<House> all = along(Collections.nCopies(48, order));
            for (int h = 1; h <= 48; h++) {
                if (all.get(h).harmed()) {
                    return h - 1;
                }
            }
            return 48;
        }

        boolean fits(long[] twos) {
            House then = this;
            for (int i = 0; i < twos.length; i += 2) {
                if (then.stays((int) twos[i]) != (twos[i + 1] == 1)) {
                    return false;
                }
                then = then.behind((int) twos[i]);
            }
            return true;
        }
    }

    private record Row(int sort, long[] elements) {
    }

    /** The same face as the class's, for those who don't mind exceptions. */
    public static final class Model {
        private House house = new House(20, 60, 1, 50, 0, List.of());
        private House kept = null;
        private int seed = 1;
        private int keptSeed = 0;
        private final Object[] shelf = new Object[8];
        private final StringBuilder tape = new StringBuilder();
        private final int[] refusals = new int[5];

        private static void needShelf(int s) {
            refuseIf(!in(s, 0, 7), BAD);
        }

        private void needKeeper(int k) {
            refuseIf(!in(k, 0, house.people.size() - 1), BAD);
        }

        private void needOrder(int order) {
            refuseIf(!house.isOrder(order), BAD);
        }

        private static void need(int v, int least, int most) {
            refuseIf(!in(v, least, most), BAD);
        }

        private Row rowIn(int s) {
            refuseIf(shelf[s] instanceof Integer, OTHER);
            refuseIf(shelf[s] == null, NOTHING);
            return (Row) shelf[s];
        }

        private long[] elementsOf(int s, int n) {
            Row row = rowIn(s);
            refuseIf(row.elements.length < n, BAD);
            return Arrays.copyOf(row.elements, n);
        }

        private List<Integer> rosterIn(int s, int n) {
            List<Integer> roster = new ArrayList<>();
            for (long v : elementsOf(s, n)) {
                refuseIf(!house.isOrder(v), STUCK);
                roster.add((int) v);
            }
            return roster;
        }

        private long[] twosIn(int s, int n) {
            long[] twos = elementsOf(s, 2 * n);
            for (int i = 0; i < 2 * n; i += 2) {
                refuseIf(!in(twos[i], 0, house.people.size() - 1) || !in(twos[i + 1], 0, 1), STUCK);
            }
            return twos;
        }

        private static int told(List<Integer> all, int what) {
            if (what == 0) {
                return all.size();
            }
            return all.isEmpty() ? NONE : what == 1 ? Collections.min(all) : Collections.max(all);
        }

        private static List<Integer> those(int most, IntPredicate fit) {
            List<Integer> all = new ArrayList<>();
            for (int v = 0; v <= most; v++) {
                if (fit.test(v)) {
                    all.add(v);
                }
            }
            return all;
        }

        private static int firstOf(int most, IntPredicate fit) {
            List<Integer> all = those(most, fit);
            return all.isEmpty() ? NONE : all.get(0);
        }

        private static int leastBy(List<Integer> all, IntUnaryOperator worth) {
            int chosen = all.get(0);
            for (int v : all) {
                if (worth.applyAsInt(v) < worth.applyAsInt(chosen)) {
                    chosen = v;
                }
            }
            return chosen;
        }

        private List<Integer> keepers() {
            return those(house.people.size() - 1, k -> true);
        }

        public int row(int s, int sort, int n) {
            needShelf(s);
            need(sort, 0, 4);
            need(n, 0, 40);
            shelf[s] = new Row(sort, new long[n]);
            return 1;
        }

        public int set(int s, int i, long v) {
            needShelf(s);
            Row row = rowIn(s);
            need(i, 0, row.elements.length - 1);
            long[] cut = {(byte) v, (short) v, (int) v, v, v == 0 ? 0 : 1};
            row.elements[i] = cut[row.sort];
            return 1;
        }

        public int copy(int p, int q, int i, int j, int n) {
            needShelf(p);
            needShelf(q);
            refuseIf(shelf[p] instanceof Integer || shelf[q] instanceof Integer, OTHER);
            refuseIf(shelf[p] != null && shelf[q] != null && ((Row) shelf[p]).sort != ((Row) shelf[q]).sort, OTHER);
            long[] from = rowIn(p).elements;
            long[] to = rowIn(q).elements;
            refuseIf(n < 0 || i < 0 || j < 0 || (long) i + n > from.length || (long) j + n > to.length, BAD);
            long[] moved = Arrays.copyOfRange(from, i, i + n);
            for (int k = 0; k < n; k++) {
                to[j + k] = moved[k];
            }
            return n;
        }

        public long element(int s, int i) {
            return in(s, 0, 7) && shelf[s] instanceof Row row && in(i, 0, row.elements.length - 1) ? row.elements[i] : 0;
        }

        public int holds(int s) {
            if (!in(s, 0, 7) || shelf[s] == null) {
                return NONE;
            }
            return shelf[s] instanceof Row row ? row.sort : 10 + (Integer) shelf[s];
        }

        public int show(int s, int keeper) {
            needShelf(s);
            need(keeper, NONE, house.people.size() - 1);
            shelf[s] = keeper == NONE ? null : keeper;
            return 1;
        }

        public int says(int s, int kind) {
            needShelf(s);
            need(kind, 0, 5);
            refuseIf(shelf[s] instanceof Row, OTHER);
            refuseIf(shelf[s] == null, NOTHING);
            int k = (Integer) shelf[s];
            refuseIf(!house.people.get(k).isA(kind), OTHER);
            return kind == 0 ? house.people.get(k).nerve : house.rageIfStayed(k);
        }

        public int keeper(int kind, int a, int nerve) {
            need(kind, 0, 5);
            need(a, 0, 9);
            need(nerve, 0, 40);
            refuseIf(house.people.size() == 8, FULL);
            house = house.and(new Person(kind, a, nerve, 0));
            return house.people.size() - 1;
        }

        public int nerve(int keeper, int v) {
            needKeeper(keeper);
            need(v, 0, 40);
            int was = house.people.get(keeper).nerve;
            house = house.with(keeper, house.people.get(keeper).withNerve(v));
            return was;
        }

        public int tell(int what, int v) {
            need(what, 0, 4);
            int[][] bounds = {{0, 99}, {0, 99}, {1, 9}, {1, 99}, {0, 9999}};
            need(v, bounds[what][0], bounds[what][1]);
            int was = house.get(what);
            house = house.with(what, v);
            return was;
        }

        public int feed(int letter) {
            need(letter, 0, 255);
            refuseIf(tape.length() == 250, FULL);
            tape.append((char) letter);
            return tape.length();
        }

        public int wipe() {
            int was = tape.length();
            tape.setLength(0);
            return was;
        }

        public int house() {
            String text = tape.toString();
            tape.setLength(0);
            Reading reading = new Reading(text, house);
            if (reading.fault >= 0) {
                refusals[0]++;
                return -20 - reading.fault;
            }
            house = reading.house;
            return reading.statements;
        }

        public int keeperOf(int keeper, int what) {
            needKeeper(keeper);
            need(what, 0, 3);
            Person p = house.people.get(keeper);
            return new int[] {p.kind, p.a, p.nerve, p.fled}[what];
        }

        public int fright() {
            return house.fright();
        }

        public int stays(int keeper) {
            needKeeper(keeper);
            return house.stays(keeper) ? 1 : 0;
        }

        public int staying() {
            return keepers().stream().filter(house::stays).mapToInt(k -> 1 << k).sum();
        }

        public int after(int order, int what) {
            needOrder(order);
            need(what, 0, 3);
            House then = house.behind(order);
            return what < 3 ? then.get(what) : then.harmed() ? 1 : 0;
        }

        public int bestNow(int what) {
            need(what, 0, 2);
            return leastBy(house.orders(), order -> (what == 1 ? -1 : 1) * house.behind(order).get(what));
        }

        public int behind(int s, int n, int what) {
            needShelf(s);
            need(n, 0, 40);
            need(what, 0, 4);
            List<Integer> roster = rosterIn(s, n);
            House then = house.last(roster);
            return what < 3 ? then.get(what) : what == 3 ? house.harms(roster) : then.fledInAll() - house.fledInAll();
        }

        public int unkept(int s, int n) {
            needShelf(s);
            need(n, 0, 40);
            List<House> all = house.along(rosterIn(s, n));
            return firstOf(n - 1, h -> all.get(h + 1).fledInAll() > all.get(h).fledInAll());
        }

        public int judge(int s, int n) {
            needShelf(s);
            need(n, 0, 40);
            long[] all = elementsOf(s, n);
            return firstOf(n - 1, i -> !house.isOrder(all[i]));
        }

        public int best(int n, int i) {
            need(n, 1, 4);
            need(i, -2, n - 1);
            List<List<Integer>> rosters = new ArrayList<>(List.of(List.of()));
            for (int h = 0; h < n; h++) {
                List<List<Integer>> longer = new ArrayList<>();
                for (List<Integer> roster : rosters) {
                    for (int order : house.orders()) {
                        List<Integer> more = new ArrayList<>(roster);
                        more.add(order);
                        longer.add(more);
                    }
                }
                rosters = longer;
            }
            List<Integer> chosen = null;
            int least = Integer.MAX_VALUE;
            for (List<Integer> roster : rosters) {
                int worth = 1000 * house.harms(roster) + house.last(roster).rage;
                if (worth < least) {
                    least = worth;
                    chosen = roster;
                }
            }
            return i == -2 ? least / 1000 : i == NONE ? least % 1000 : chosen.get(i);
        }

        public int rages(int s, int n, int what) {
            needShelf(s);
            need(n, 0, 20);
            need(what, 0, 2);
            long[] twos = twosIn(s, n);
            return told(those(99, r -> house.with(0, r).fits(twos)), what);
        }

        public int nerves(int s, int n, int keeper, int what) {
            needShelf(s);
            need(n, 0, 20);
            needKeeper(keeper);
            need(what, 0, 2);
            long[] twos = twosIn(s, n);
            return told(those(40, v -> house.with(keeper, house.people.get(keeper).withNerve(v)).fits(twos)), what);
        }

        public int send(int s, int n) {
            needShelf(s);
            need(n, 0, 20);
            long[] twos = twosIn(s, n);
            List<Integer> left = those(99, r -> house.with(0, r).fits(twos));
            if (left.size() < 2 || house.people.isEmpty()) {
                return NONE;
            }
            return leastBy(keepers(), k -> {
                int stay = (int) left.stream().filter(r -> house.with(0, r).stays(k)).count();
                return Math.max(stay, left.size() - stay);
            });
        }

        private List<House> overAndOver(int order) {
            return house.along(Collections.nCopies(200, order));
        }

        public int settles(int order) {
            needOrder(order);
            List<House> all = overAndOver(order);
            for (int h = 1; h <= 200; h++) {
                House a = all.get(h - 1);
                House b = all.get(h);
                if (a.rage == b.rage && a.growth == b.growth && a.calm == b.calm) {
                    return h;
                }
            }
            return NONE;
        }

        public int over(int order, int what) {
            needOrder(order);
            need(what, 0, 4);
            List<House> all = overAndOver(order).subList(0, 49);
            return switch (what) {
                case 0 -> all.stream().mapToInt(House::rage).min().getAsInt();
                case 1 -> house.safe(order);
                default -> all.get(48).get(what - 2);
            };
        }

        public int safest() {
            return leastBy(house.orders(), order -> -house.safe(order));
        }

        public int odds(int t, int what) {
            need(t, 0, 3);
            need(what, 0, 1);
            refuseIf(house.people.isEmpty(), STUCK);
            long[] sums = new long[3];
            spread(house, t, false, sums);
            return (int) (what == 0 ? 1000000 * sums[1] / sums[0] : 1000 * sums[2] / sums[0]);
        }

        private void spread(House at, int t, boolean harmed, long[] sums) {
            if (t == 0) {
                sums[0]++;
                sums[1] += harmed ? 1 : 0;
                sums[2] += at.rage;
                return;
            }
            for (int k : keepers()) {
                House then = at.behind(k);
                spread(then, t - 1, harmed || then.harmed(), sums);
            }
        }

        public int flees(int keeper) {
            needKeeper(keeper);
            return firstOf(99, r -> !house.with(0, r).stays(keeper));
        }

        public int needs(int keeper) {
            needKeeper(keeper);
            return firstOf(40, v -> house.with(keeper, house.people.get(keeper).withNerve(v)).stays(keeper));
        }

        public int until(int order, int v) {
            needOrder(order);
            need(v, 0, 99);
            List<House> all = overAndOver(order);
            return firstOf(200, h -> all.get(h).rage <= v);
        }

        public int first(int one, int other) {
            needOrder(one);
            needOrder(other);
            int sign = Integer.compare(house.behind(one).behind(other).rage, house.behind(other).behind(one).rage);
            return sign < 0 ? 0 : sign > 0 ? 1 : 2;
        }

        public int meetings() {
            List<House> all = overAndOver(10);
            return firstOf(200, h -> all.get(h).rage <= all.get(h).calm);
        }

        public int byTurns(int keeper, int n) {
            needKeeper(keeper);
            need(n, 0, 48);
            return house.last(house.turns(keeper, n)).rage;
        }

        public int harms(int keeper, int n) {
            needKeeper(keeper);
            need(n, 0, 48);
            return house.harms(house.turns(keeper, n));
        }

        public int starts() {
            refuseIf(house.people.isEmpty(), STUCK);
            return leastBy(keepers(), k -> house.harms(house.turns(k, 24)));
        }

        public int of(int what) {
            need(what, 0, 2);
            refuseIf(house.people.isEmpty(), STUCK);
            return leastBy(keepers(), k -> {
                Person p = house.people.get(k);
                return new int[] {-p.nerve, p.nerve, -p.fled}[what];
            });
        }

        public int way(int s, int n, int what) {
            needShelf(s);
            need(n, 0, 40);
            need(what, 0, 2);
            List<House> all = house.along(rosterIn(s, n));
            int top = all.stream().mapToInt(House::rage).max().getAsInt();
            return what == 0 ? top : what == 1 ? all.stream().mapToInt(House::calm).min().getAsInt()
                : firstOf(n, h -> all.get(h).rage == top);
        }

        private int rageWith(List<Integer> roster, int place, int order) {
            List<Integer> changed = new ArrayList<>(roster);
            changed.set(place, order);
            return house.last(changed).rage;
        }

        public int matters(int s, int n) {
            needShelf(s);
            need(n, 0, 40);
            List<Integer> roster = rosterIn(s, n);
            refuseIf(n == 0, STUCK);
            return leastBy(those(n - 1, i -> true), i -> -rageWith(roster, i, NONE));
        }

        public int instead(int s, int n, int place) {
            needShelf(s);
            need(n, 0, 40);
            need(place, 0, n - 1);
            List<Integer> roster = rosterIn(s, n);
            return leastBy(house.orders(), order -> rageWith(roster, place, order));
        }

        public int better(int one, int other) {
            needOrder(one);
            needOrder(other);
            return those(99, r -> house.with(0, r).behind(one).rage < house.with(0, r).behind(other).rage).size();
        }

        public int still(int order) {
            needOrder(order);
            return firstOf(99, r -> house.with(0, r).behind(order).rage == r);
        }

        public int calmFor(int v) {
            need(v, 0, 99);
            return firstOf(99, c -> house.with(1, c).behind(10).rage <= v);
        }

        public int grown(int order) {
            needOrder(order);
            List<House> all = overAndOver(order);
            return firstOf(200, h -> all.get(h).growth == 9);
        }

        public int brave(int rage) {
            need(rage, 0, 99);
            return keepers().stream().filter(k -> house.with(0, rage).stays(k)).mapToInt(k -> 1 << k).sum();
        }

        public int ofKind(int kind) {
            need(kind, 0, 5);
            return (int) house.people.stream().filter(p -> p.kind == kind).count();
        }

        public int order(int order) {
            needOrder(order);
            house = house.behind(order);
            return house.rage;
        }

        public int done(int s, int n) {
            needShelf(s);
            need(n, 0, 40);
            List<Integer> roster = rosterIn(s, n);
            int harms = house.harms(roster);
            house = house.last(roster);
            return harms;
        }

        public int drawn(int n) {
            need(n, 1, 60);
            int harms = 0;
            for (int i = 0; i < n; i++) {
                seed = (int) ((long) seed * 1103515245L + 12345L);
                int size = house.people.size();
                int draw = (int) (Integer.toUnsignedLong(seed) / 65536 % (size + 2));
                house = house.behind(draw == size ? NONE : draw > size ? 10 : draw);
                harms += house.harmed() ? 1 : 0;
            }
            return harms;
        }

        public int seed(int v) {
            int was = seed;
            seed = v;
            return was;
        }

        public int image() {
            kept = house;
            keptSeed = seed;
            return 1;
        }

        public int back() {
            refuseIf(kept == null, STUCK);
            house = kept;
            seed = keptSeed;
            for (int s = 0; s < 8; s++) {
                if (shelf[s] instanceof Integer k && k >= house.people.size()) {
                    shelf[s] = null;
                }
            }
            return 1;
        }

        public int status(int what) {
            if (in(what, 1, 5)) {
                return house.get(what - 1);
            }
            if (in(what, 12, 16)) {
                return refusals[what - 12];
            }
            return switch (what) {
                case 0 -> house.people.size();
                case 6 -> house.fledInAll();
                case 7 -> tape.length();
                case 8 -> seed;
                case 9 -> (int) Arrays.stream(shelf).filter(x -> x != null).count();
                default -> NONE;
            };
        }
    }

    /** A HOUSE read by a list of all TOKENS. */
    private static final class Reading {
        private final List<String> words = new ArrayList<>();
        private final List<Integer> places = new ArrayList<>();
        private int next = 0;
        House house;
        int statements = 0;
        int fault = -1;

        Reading(String text, House from) {
            house = from;
            Matcher m = Pattern.compile("[a-z]+|[0-9]+|[^ ]", Pattern.DOTALL).matcher(text);
            while (m.find()) {
                words.add(m.group());
                places.add(m.start());
            }
            words.add("");
            places.add(text.length());
            try {
                do {
                    statement();
                    statements++;
                } while (goesOn());
            } catch (Refusal refusal) {
                fault = places.get(next);
            }
        }

        private boolean goesOn() {
            if (words.get(next).isEmpty()) {
                return false;
            }
            refuseIf(!words.get(next).equals(";"), BAD);
            next++;
            return true;
        }

        private void statement() {
            String word = words.get(next);
            Map<String, int[]> measures = Map.of("rage", new int[] {0, 0, 99}, "calm", new int[] {1, 0, 99},
                "grown", new int[] {2, 1, 9}, "bar", new int[] {3, 1, 99}, "hour", new int[] {4, 0, 999});
            refuseIf(!word.equals("keeper") && !word.equals("nerve") && !measures.containsKey(word), BAD);
            refuseIf(word.equals("keeper") && house.people.size() == 8, BAD);
            next++;
            if (word.equals("keeper")) {
                house = house.and(new Person(number(0, 5), number(0, 9), number(0, 40), 0));
            } else if (word.equals("nerve")) {
                int k = number(0, house.people.size() - 1);
                house = house.with(k, house.people.get(k).withNerve(number(0, 40)));
            } else {
                int[] m = measures.get(word);
                house = house.with(m[0], number(m[1], m[2]));
            }
        }

        private int number(int least, int most) {
            refuseIf(!words.get(next).matches("[0-9]{1,3}"), BAD);
            int v = Integer.parseInt(words.get(next));
            refuseIf(!in(v, least, most), BAD);
            next++;
            return v;
        }
    }

    // ---- drawing the calls ----

    private static final String[] FACE = {"row s sort n", "set s i v", "copy s s i i n", "element s i", "holds s",
        "show s keeper", "says s kind", "keeper kind a nerve", "nerve keeper nerve", "tell what tellv", "feed letter",
        "wipe", "house", "keeperOf keeper what", "fright", "stays keeper", "staying", "after order what", "bestNow what",
        "behind s n what", "unkept s n", "judge s n", "best hours ith", "rages s twos what", "nerves s twos keeper what",
        "send s twos", "settles order", "over order what", "safest", "odds hours what", "flees keeper", "needs keeper",
        "until order rage", "first order order", "meetings", "byTurns keeper turns", "harms keeper turns", "starts",
        "of what", "way s n what", "matters s n", "instead s n i", "better order order", "still order", "calmFor rage",
        "grown order", "brave rage", "ofKind kind", "order order", "done s n", "drawn draws", "seed any", "image", "back",
        "status status"};

    private static final int RUNS = 1000;
    private static final int CALLS = 512;

    private final Random random;
    private final int run;
    private final UnderNurseToTheTemper real = new UnderNurseToTheTemper();
    private final Model model = new Model();
    private final List<String> history = new ArrayList<>();
    private static final Map<String, Method> REAL = methods(UnderNurseToTheTemper.class);
    private static final Map<String, Method> TOLD = methods(Model.class);
    private static final Map<String, Integer> ANSWERED = new HashMap<>();
    private static int wrong = 0;

    private ModelTest(int run) {
        this.run = run;
        this.random = new Random(run);
    }

    private static Map<String, Method> methods(Class<?> type) {
        Map<String, Method> all = new HashMap<>();
        for (Method method : type.getDeclaredMethods()) {
            if (java.lang.reflect.Modifier.isPublic(method.getModifiers())) {
                all.put(method.getName(), method);
            }
        }
        return all;
    }

    private int between(int least, int most) {
        return least + random.nextInt(most - least + 1);
    }

    private int any() {
        int[] far = {Integer.MIN_VALUE, Integer.MAX_VALUE, -1, 0, 1 << 16, -1 << 31, 255, 256, 1 << 30};
        return random.nextBoolean() ? random.nextInt() : far[random.nextInt(far.length)];
    }

    private int someKeeper() {
        int size = model.house.people.size();
        return size == 0 || random.nextInt(20) == 0 ? between(-1, 9) : random.nextInt(size);
    }

    private int someOrder() {
        int kind = random.nextInt(16);
        return kind < 2 ? NONE : kind < 4 ? 10 : kind == 4 ? between(-2, 11) : someKeeper();
    }

    private long draw(String what) {
        if (random.nextInt(150) == 0) {
            return any();
        }
        switch (what) {
            case "s": return random.nextInt(15) == 0 ? between(-1, 8) : between(0, 3);
            case "sort": return random.nextInt(3) == 0 ? between(-1, 5) : 3;
            case "n": return random.nextInt(4) == 0 ? between(-1, 41) : between(0, 5);
            case "i": return random.nextInt(6) == 0 ? between(-1, 41) : between(0, 4);
            case "v": return random.nextInt(10) == 0 ? random.nextLong() : someOrder();
            case "kind": return between(random.nextInt(5) - 4 < 0 ? 0 : -1, random.nextInt(5) == 0 ? 6 : 5);
            case "a": return random.nextInt(12) == 0 ? between(-1, 10) : between(0, 9);
            case "nerve": return random.nextInt(12) == 0 ? between(-1, 41) : between(0, 40);
            case "keeper": return someKeeper();
            case "what": return random.nextInt(15) == 0 ? between(-1, 6) : between(0, 4);
            case "tellv": return random.nextInt(5) == 0 ? between(-1, 10000) : between(0, 100);
            case "letter": return random.nextInt(5) == 0 ? between(-1, 256) : " ;0159abkr".charAt(random.nextInt(10));
            case "order": return someOrder();
            case "hours": return random.nextInt(10) == 0 ? between(-1, 5) : between(0, 3);
            case "ith": return between(-3, 4);
            case "twos": return random.nextInt(6) == 0 ? between(-1, 21) : between(0, 3);
            case "rage": return random.nextInt(12) == 0 ? between(-1, 100) : between(0, 99);
            case "turns": return between(random.nextInt(8) == 0 ? -1 : 0, random.nextInt(8) == 0 ? 49 : 48);
            case "draws": return random.nextInt(5) == 0 ? between(-1, 61) : between(1, 6);
            case "status": return between(-1, 18);
            default: return any();
        }
    }

    private void call(String name, long... args) throws Exception {
        Method real0 = REAL.get(name);
        Object[] given = new Object[args.length];
        for (int i = 0; i < args.length; i++) {
            given[i] = real0.getParameterTypes()[i] == long.class ? (Object) args[i] : (Object) (int) args[i];
        }
        history.add(name + Arrays.toString(given));
        long want;
        try {
            want = ((Number) TOLD.get(name).invoke(model, given)).longValue();
        } catch (java.lang.reflect.InvocationTargetException thrown) {
            if (!(thrown.getCause() instanceof Refusal refusal)) {
                throw thrown;
            }
            want = refusal.number;
            model.refusals[-2 - refusal.number]++;
        }
        long got = ((Number) real0.invoke(real, given)).longValue();
        compare(name + Arrays.toString(given), got, want);
        if (want >= NONE) {
            ANSWERED.merge(name, 1, Integer::sum);
        }
    }

    private void compare(String call, long got, long want) {
        if (got != want && wrong++ < 20) {
            System.out.println("run " + run + ", call " + history.size() + ": " + call + " answered " + got
                + ", due is " + want + "; ahead of it " + history.subList(Math.max(0, history.size() - 12), history.size()));
        }
    }

    private void callDrawn() throws Exception {
        String[] parts = FACE[random.nextInt(FACE.length)].split(" ");
        // Four HOURS by eight KEEPERS are dear for the model, and once in a while is enough.
        if (parts[0].equals("best") && random.nextInt(3) != 0) {
            return;
        }
        long[] args = new long[parts.length - 1];
        for (int i = 0; i < args.length; i++) {
            args[i] = draw(parts[i + 1]);
        }
        call(parts[0], args);
    }

    private void layRoster() throws Exception {
        int n = between(1, 8);
        int s = between(0, 3);
        call("row", s, between(0, 3), n);
        for (int i = 0; i < n; i++) {
            call("set", s, i, someOrder());
        }
    }

    private void showAndAsk() throws Exception {
        int s = between(4, 7);
        call("show", s, someKeeper());
        call("says", s, draw("kind"));
        call("says", s, draw("kind"));
    }

    private void layTwos() throws Exception {
        int n = between(1, 4);
        int s = between(0, 3);
        call("row", s, between(0, 4), 2 * n);
        for (int i = 0; i < n; i++) {
            int k = someKeeper();
            call("set", s, 2 * i, k);
            // Mostly what is so now: drawn at random few RAGES would fit.
            boolean known = k >= 0 && k < model.house.people.size() && random.nextInt(4) != 0;
            call("set", s, 2 * i + 1, known ? (model.house.stays(k) ? 1 : 0) : between(0, 1));
        }
    }

    private String statement() {
        String[] words = {"rage", "calm", "grown", "bar", "hour"};
        int kind = random.nextInt(7);
        String gap = " ".repeat(between(1, 2));
        if (kind == 0) {
            return "keeper" + gap + between(0, 5) + gap + between(0, 9) + gap + between(0, 40);
        }
        if (kind == 1) {
            return "nerve" + gap + Math.max(0, someKeeper()) + gap + between(0, 40);
        }
        return words[kind - 2] + gap + (kind == 4 ? between(1, 9) : between(1, 99));
    }

    private void readHouse() throws Exception {
        StringBuilder text = new StringBuilder(statement());
        for (int i = between(0, 2); i > 0; i--) {
            text.append(random.nextBoolean() ? ";" : " ; ").append(statement());
        }
        if (random.nextBoolean()) {
            String odd = " ;;0099zk-A";
            for (int i = between(1, 2); i > 0; i--) {
                int at = random.nextInt(text.length());
                text.replace(at, at + between(0, 1), random.nextBoolean() ? "" : "" + odd.charAt(random.nextInt(odd.length())));
            }
        }
        call("wipe");
        for (int i = 0; i < text.length(); i++) {
            call("feed", text.charAt(i));
        }
        call("house");
    }

    private void go() throws Exception {
        for (int k = between(0, 8); k > 0; k--) {
            call("keeper", draw("kind"), draw("a"), draw("nerve"));
        }
        // The longest of these is some 60 calls, and the last look takes 28 more.
        while (history.size() < CALLS - 100) {
            int kind = random.nextInt(60);
            if (kind == 0) {
                readHouse();
            } else if (kind < 5) {
                layRoster();
            } else if (kind < 8) {
                layTwos();
            } else if (kind < 11) {
                showAndAsk();
            } else if (kind < 13) {
                call("status", draw("status"));
            } else {
                callDrawn();
            }
        }
        lookAtAll();
    }

    private void lookAtAll() {
        for (int what = -1; what < 19; what++) {
            compare("status " + what, real.status(what), model.status(what));
        }
        for (int s = 0; s < 8; s++) {
            compare("holds " + s, real.holds(s), model.holds(s));
        }
    }

    public static void main(String[] args) throws Exception {
        int runs = args.length > 0 ? Integer.parseInt(args[0]) : RUNS;
        for (int run = 1; run <= runs; run++) {
            new ModelTest(run).go();
        }
        for (String call : FACE) {
            String name = call.split(" ")[0];
            if (ANSWERED.getOrDefault(name, 0) < runs / 8) {
                wrong++;
                System.out.println(name + " was answered only " + ANSWERED.getOrDefault(name, 0) + " times");
            }
        }
        if (REAL.size() != FACE.length) {
            wrong++;
            System.out.println(REAL.size() + " methods, but " + FACE.length + " are drawn");
        }
        System.out.println(wrong == 0 ? runs + " runs are as due" : wrong + " answers are not as due");
        if (wrong != 0) {
            System.exit(1);
        }
    }
}
