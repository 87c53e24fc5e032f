import java.math.BigInteger;
import java.util.ArrayList;
import java.util.Comparator;
import java.util.HashMap;
import java.util.List;
import java.util.Map;
import java.util.Set;
import java.util.TreeMap;
import java.util.TreeSet;

/** The document once more, with the library's maps and whole numbers without an end, to compare CostSteps with. */
final class Model {
    /** One way to buy; part is -1 for boards. */
    private record Offer(BigInteger cost, int part, int maker, long pieces) {
        static final Comparator<Offer> ORDER = Comparator.comparing(Offer::cost)
                .thenComparing(Offer::part).thenComparing(Offer::maker).thenComparing(Offer::pieces);
    }

    /** A total: the cost of each row, and the offer taken where something was bought. */
    private record Sheet(List<BigInteger> costs, Map<Integer, Offer> taken) {
        BigInteger sum() {
            return costs.stream().reduce(BigInteger.ZERO, BigInteger::add);
        }

        int makers() {
            Set<Integer> makers = new TreeSet<>();
            taken.values().forEach(offer -> makers.add(offer.maker()));
            return makers.size();
        }

        BigInteger costOf(int row) {
            return row < costs.size() ? costs.get(row) : BigInteger.ZERO;
        }
    }

    private static final BigInteger BILLION = BigInteger.valueOf(1_000_000_000L);
    private static final Sheet EMPTY = new Sheet(List.of(), Map.of());

    private int parts = 0;
    private final Map<List<Integer>, TreeMap<Long, Long>> steps = new HashMap<>();
    private final Map<Integer, TreeMap<Long, List<Long>>> rates = new HashMap<>();
    private final Map<String, Long> numbers = new HashMap<>();
    private final List<List<Long>> yields = new ArrayList<>();
    private final Set<List<Integer>> alternates = new java.util.HashSet<>();
    private Sheet latest = EMPTY;
    private Sheet before = EMPTY;

    int part() {
        return parts == 30 ? -1 : parts++;
    }

    boolean price(int part, int maker, long from, long cents) {
        index(part, parts);
        index(maker, 8);
        return step(part, maker, from, cents);
    }

    boolean board(int maker, long from, long cents) {
        index(maker, 8);
        return step(-1, maker, from, cents);
    }

    private boolean step(int part, int maker, long from, long cents) {
        range(from, 1, 1_000_000_000L);
        range(cents, 1, 100_000);
        return put(steps.computeIfAbsent(List.of(part, maker), k -> new TreeMap<>()), from, cents);
    }

    private static <V> boolean put(TreeMap<Long, V> told, long key, V value) {
        if (value.equals(told.get(key)) || (!told.containsKey(key) && told.size() == 6)) {
            return false;
        }
        told.put(key, value);
        return true;
    }

    boolean uses(int part, long n) {
        index(part, parts);
        return number("uses" + part, n, 1_000);
    }

    boolean assembly(int kind, long cents) {
        index(kind, 8);
        return number("assembly" + kind, cents, 1_000_000);
    }

    boolean placed(int kind, long n) {
        index(kind, 8);
        return number("placed" + kind, n, 1_000);
    }

    boolean tooling(long cents) {
        return number("tooling", cents, 1_000_000_000L);
    }

    boolean stock(int part, long n) {
        index(part, parts);
        return number("stock" + part, n, 1_000_000_000L);
    }

    private boolean number(String name, long n, long most) {
        range(n, 0, most);
        Long was = numbers.put(name, n);
        return (was == null ? 0 : was) != n;
    }

    private BigInteger number(String name) {
        return BigInteger.valueOf(numbers.getOrDefault(name, 0L));
    }

    boolean yieldOf(long above, long below) {
        range(above, 1, 1_000);
        range(below, above, 1_000);
        return yields.size() < 8 && yields.add(List.of(above, below));
    }

    boolean currency(int maker, long day, long above, long below) {
        index(maker, 8);
        range(above, 1, 1_000);
        range(below, 1, 1_000);
        return put(rates.computeIfAbsent(maker, k -> new TreeMap<>()), day, List.of(above, below));
    }

    boolean alternate(int part, int other) {
        index(part, parts);
        index(other, parts);
        return part != other && alternates.add(List.of(part, other));
    }

    long total(long quantity, int maker, long day) {
        index(maker, 8);
        range(quantity, 0, 1_000_000);
        Sheet sheet = sheet(quantity, maker, day);
        if (sheet == null) {
            return -1;
        }
        before = latest;
        latest = sheet;
        return sheet.sum().longValueExact();
    }

    int best(long quantity, long day) {
        range(quantity, 0, 1_000_000);
        Sheet best = null;
        int bestMaker = -1;
        Comparator<Sheet> order = Comparator.comparing(Sheet::sum).thenComparing(Sheet::makers);
        for (int maker = 0; maker < 8; maker++) {
            Sheet sheet = sheet(quantity, maker, day);
            if (sheet != null && (best == null || order.compare(sheet, best) < 0)) {
                best = sheet;
                bestMaker = maker;
            }
        }
        return bestMaker;
    }

    long each(long quantity, int maker, long day, int part2) {
        index(maker, 8);
        index(part2, 2);
        range(quantity, 1, 1_000_000);
        Sheet sheet = sheet(quantity, maker, day);
        return sheet == null ? -1
                : sheet.sum().divideAndRemainder(BigInteger.valueOf(quantity))[part2].longValueExact();
    }

    int suppliers(long quantity, int maker) {
        index(maker, 8);
        range(quantity, 0, 1_000_000);
        Sheet sheet = sheet(quantity, maker, Long.MAX_VALUE);
        return sheet == null ? -1 : sheet.makers();
    }

    int changed(int k) {
        List<Integer> rows = new ArrayList<>();
        for (int row = 0; row < latest.costs().size(); row++) {
            if (!latest.costOf(row).equals(before.costOf(row))) {
                rows.add(row);
            }
        }
        return k < 0 || k >= rows.size() ? -1 : rows.get(k);
    }

    int row(int k, int what) {
        index(k, latest.costs().size());
        index(what, 3);
        Offer offer = latest.taken().get(k);
        if (offer == null) {
            return what == 0 ? 0 : -1;
        }
        return what == 0 ? Math.toIntExact(offer.pieces()) : what == 1 ? offer.maker() : offer.part();
    }

    private Sheet sheet(long quantity, int maker, long day) {
        BigInteger started = BigInteger.valueOf(quantity);
        for (int i = yields.size() - 1; i >= 0; i--) {
            started = up(started.multiply(BigInteger.valueOf(yields.get(i).get(1))), yields.get(i).get(0));
        }
        if (started.compareTo(BILLION) > 0) {
            return null;
        }
        List<BigInteger> costs = new ArrayList<>(List.of(number("tooling"), BigInteger.ZERO, BigInteger.ZERO));
        for (int kind = 0; kind < 8; kind++) {
            BigInteger thousandfold = started.multiply(number("placed" + kind)).multiply(number("assembly" + kind));
            costs.set(2, costs.get(2).add(up(thousandfold, 1_000)));
        }
        Map<Integer, Offer> taken = new HashMap<>();
        if (started.signum() > 0 && !take(1, offers(-1, maker, started.longValueExact(), day), costs, taken)) {
            return null;
        }
        for (int part = 0; part < parts; part++) {
            costs.add(BigInteger.ZERO);
            BigInteger left = started.multiply(number("uses" + part)).subtract(number("stock" + part));
            if (left.signum() <= 0) {
                continue;
            }
            if (left.compareTo(BILLION) > 0
                    || !take(3 + part, offersFor(part, left.longValueExact(), day), costs, taken)) {
                return null;
            }
        }
        return new Sheet(costs, taken);
    }

    private static boolean take(int row, List<Offer> offers, List<BigInteger> costs, Map<Integer, Offer> taken) {
        if (offers.isEmpty()) {
            return false;
        }
        Offer offer = offers.stream().min(Offer.ORDER).get();
        costs.set(row, offer.cost());
        taken.put(row, offer);
        return true;
    }

    private List<Offer> offersFor(int part, long needed, long day) {
        List<Offer> offers = new ArrayList<>();
        for (int other = 0; other < parts; other++) {
            if (other == part || alternates.contains(List.of(part, other))) {
                for (int maker = 0; maker < 8; maker++) {
                    offers.addAll(offers(other, maker, needed, day));
                }
            }
        }
        return offers;
    }

    private List<Offer> offers(int part, int maker, long needed, long day) {
        Map.Entry<Long, List<Long>> told = rates.getOrDefault(maker, new TreeMap<>()).floorEntry(day);
        List<Long> rate = told == null ? List.of(1L, 1L) : told.getValue();
        List<Offer> offers = new ArrayList<>();
        steps.getOrDefault(List.of(part, maker), new TreeMap<>()).forEach((from, cents) -> {
            long pieces = Math.max(from, needed);
            BigInteger cost = BigInteger.valueOf(pieces).multiply(BigInteger.valueOf(cents))
                    .multiply(BigInteger.valueOf(rate.get(0)));
            offers.add(new Offer(up(cost, rate.get(1)), part, maker, pieces));
        });
        return offers;
    }

    private static BigInteger up(BigInteger amount, long divisor) {
        BigInteger[] parts = amount.divideAndRemainder(BigInteger.valueOf(divisor));
        return parts[1].signum() == 0 ? parts[0] : parts[0].add(BigInteger.ONE);
    }

    private static void index(int index, int count) {
        if (index < 0 || index >= count) {
            throw new IndexOutOfBoundsException();
        }
    }

    private static void range(long n, long least, long most) {
        if (n < least || n > most) {
            throw new IllegalArgumentException();
        }
    }
}
