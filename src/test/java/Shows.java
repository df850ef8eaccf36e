import java.util.ArrayList;
import java.util.List;
import java.util.NoSuchElementException;

/**
 * All that a PotBook told by a recipe shows. A call that is refused is made on a new one told likewise,
 * and what that shows then is held against it; no object is asked more than 512 times.
 */
final class Shows {
    interface Recipe {
        void tell(PotBook x);
    }

    interface Call {
        long ask(PotBook x);
    }

    /** What page() counts for if it throws. */
    static final long THROWN = Long.MIN_VALUE;

    private static final int ASKED_OF_ONE = 250;

    private final Recipe recipe;
    private final List<String> names = new ArrayList<>();
    private final List<Call> calls = new ArrayList<>();
    private final List<Long> answers = new ArrayList<>();
    private final int[] many = new int[9];

    Shows(Recipe recipe) {
        this.recipe = recipe;
        PotBook x = told();
        for (int what = 0; what < 9; what++) {
            many[what] = x.count(what);
        }
        askOfPages();
        askOfDishes();
        askOfLaws();
        askOfBooks();
        askOfDays();
        askOfMenus();
        askOfTape();
        for (int from = 0; from < calls.size(); from += ASKED_OF_ONE) {
            PotBook y = told();
            for (int k = from; k < Math.min(calls.size(), from + ASKED_OF_ONE); k++) {
                answers.add(calls.get(k).ask(y));
            }
        }
    }

    private PotBook told() {
        PotBook x = new PotBook();
        recipe.tell(x);
        return x;
    }

    /** The call answers what is due and all that is shown behind it is as without it. */
    void refused(String name, Call call, long due) {
        for (int from = 0; from < calls.size(); from += ASKED_OF_ONE) {
            PotBook x = told();
            Due.same(name, call.ask(x), due);
            for (int k = from; k < Math.min(calls.size(), from + ASKED_OF_ONE); k++) {
                Due.same("behind " + name + ": " + names.get(k), calls.get(k).ask(x), answers.get(k));
            }
        }
        goOn(name, call);
    }

    /** What is told behind the call is numbered and shown as without it, too. */
    private void goOn(String name, Call call) {
        PotBook x = told();
        PotBook y = told();
        call.ask(x);
        long[] got = told(x);
        long[] due = told(y);
        for (int k = 0; k < due.length; k++) {
            Due.same("told behind " + name + ": " + k, got[k], due[k]);
        }
    }

    private static long[] told(PotBook x) {
        long[] row = {x.text(0), x.text(1), x.end(0) ? 1 : 0, x.thing(9, 8, 7, true, 12, 2),
            x.thing(1, 2, 3, false, 1, 12), x.sized(0, 1900, 77),
            x.sized(1, 1999, 78), x.size(0, 1999), Due.tell(x, "b1,a;T3R", 0), Due.tell(x, "y:w+b*1000+r*100+t*10+u", 1),
            x.hold(x.count(0) - 1, x.count(1) - 1, -5, 9999), x.dishes(x.count(0) - 1),
            x.worth(x.count(0) - 1, 0, x.count(1) - 1), x.guess(x.count(0) - 1, 0), page(x, x.count(0) - 1, 0),
            page(x, x.count(0) - 1, 1), page(x, x.count(0) - 1, 2), x.hold(0, 0, -1000, 1000000),
            x.dishes(0), x.trial(0, 300, true), x.stand(0, 0, 1), x.book(0), x.slip(0, 1, 2) ? 1 : 0, x.reads(0, 1) ? 1 : 0,
            x.cost(0), x.ways(0), x.first(), x.day(9, false), x.bought(0, 0, 33) ? 1 : 0, x.menu(0, 3, 40, 0),
            x.wrote(0, 1) ? 1 : 0, x.leaves(1, 0, 0), x.twice(0), x.came(x.count(0) - 1), x.tree(), x.most(3) ? 1 : 0,
            x.dishes(0), Due.feed(x, "a1"), x.fault(0), x.count(0), x.count(1), x.count(2), x.count(3), x.count(4),
            x.count(5), x.count(6), x.count(7)};
        return row;
    }

    static long page(PotBook x, int page, int what) {
        try {
            return x.page(page, what);
        } catch (NoSuchElementException e) {
            return THROWN;
        }
    }

    private void add(String name, Call call) {
        names.add(name);
        calls.add(call);
    }

    /** Asked last, as a FAULT that is looked for could hide what an earlier one left behind. */
    private void askOfTape() {
        for (int k = 0; k < 9; k++) {
            int what = k;
            add("count(" + what + ")", x -> x.count(what));
        }
        add("fault(0)", x -> x.fault(0));
        add("fault(1)", x -> x.fault(1));
        for (int k = 0; k <= many[2]; k++) {
            int thing = k;
            for (int year : new int[] {1200, 1400, 1444, 1450, 1500, 1999}) {
                add("size(" + thing + ", " + year + ")", x -> x.size(thing, year));
            }
        }
    }

    private void askOfPages() {
        for (int k = 0; k <= many[0]; k++) {
            int page = k;
            for (int what = 0; what < 4; what++) {
                int sort = what;
                add("page(" + page + ", " + sort + ")", x -> page(x, page, sort));
                add("changed(" + page + ", " + sort + ")", x -> x.changed(page, sort));
            }
            add("months(" + page + ")", x -> x.months(page));
            add("came(" + page + ")", x -> x.came(page));
            add("line(" + page + ")", x -> x.line(page));
            for (int other = 0; other <= k; other++) {
                int there = other;
                add("far(" + page + ", " + there + ")", x -> x.far(page, there));
                add("stem(" + page + ", " + there + ")", x -> x.stem(page, there));
            }
            for (int j = 0; j <= many[2]; j++) {
                int thing = j;
                add("guess(" + page + ", " + thing + ")", x -> x.guess(page, thing));
            }
        }
        add("tree()", x -> x.tree());
        for (int k = 0; k < 6; k++) {
            int writer = k;
            add("twice(" + writer + ")", x -> x.twice(writer));
            for (int j = 0; j <= many[2]; j++) {
                int thing = j;
                add("leaves(" + writer + ", " + thing + ", 0)", x -> x.leaves(writer, thing, 0));
                add("leaves(" + writer + ", " + thing + ", 1)", x -> x.leaves(writer, thing, 1));
            }
        }
    }

    private void askOfDishes() {
        PotBook y = told();
        for (int k = 0; k <= many[0]; k++) {
            int page = k;
            add("dishes(" + page + ")", x -> x.dishes(page));
            add("shared(" + page + ")", x -> x.shared(page));
            add("weigh(" + page + ")", x -> x.weigh(page));
            add("nearest(" + page + ")", x -> x.nearest(page));
            add("serves(" + page + ")", x -> x.serves(page, 1450, 7, 0) * 1000L + x.serves(page, 1450, 7, 1));
            int last = Math.max(y.dishes(page) - 1, 0);
            for (int j = 0; j <= many[2]; j++) {
                int thing = j;
                add("dish(" + page + ", " + last + ", " + thing + ")", x -> x.dish(page, last, thing));
                add("span(" + page + ", " + thing + ", 0)", x -> x.span(page, thing, 0));
                add("span(" + page + ", " + thing + ", 1)", x -> x.span(page, thing, 1));
                add("swapped(" + page + ", " + thing + ")", x -> x.swapped(page, thing, (thing + 1) % Math.max(1, many[2])));
            }
            add("weight(" + page + ", " + last + ")", x -> x.weight(page, last, 1450));
            add("boil(" + page + ", " + last + ")", x -> x.boil(page, last, 9, 20));
        }
    }

    private void askOfLaws() {
        for (int k = 0; k <= many[0]; k++) {
            int page = k;
            for (int j = 0; j <= many[1]; j++) {
                int law = j;
                add("worth(" + page + ", 0, " + law + ")", x -> x.worth(page, 0, law));
                add("range(" + page + ", " + law + ", 0)", x -> x.range(page, law, 0));
                add("range(" + page + ", " + law + ", 1)", x -> x.range(page, law, 1));
                add("stands(" + page + ", 0, " + law + ")", x -> x.stands(page, 0, law));
                add("stand(" + page + ", " + law + ", 0)", x -> x.stand(page, law, 0));
                add("stand(" + page + ", " + law + ", 1)", x -> x.stand(page, law, 1));
                add("softer(" + page + ", " + law + ")", x -> x.softer(page, 0, law));
            }
        }
    }

    private void askOfBooks() {
        add("first()", x -> x.first());
        for (int k = 0; k < 8; k++) {
            int word = k;
            add("cost(" + word + ")", x -> x.cost(word));
            add("ways(" + word + ")", x -> x.ways(word));
        }
        for (int k = 0; k <= many[5]; k++) {
            int book = k;
            add("could(" + book + ")", x -> x.could(book));
        }
    }

    private void askOfDays() {
        for (int k = 0; k <= many[6]; k++) {
            int day = k;
            for (int j = 0; j <= many[0]; j++) {
                int page = j;
                add("may(" + day + ", " + page + ")", x -> x.may(day, page));
                add("enough(" + day + ", " + page + ", 0)", x -> x.enough(day, page, 0));
                add("lacking(" + day + ", " + page + ", 0, 3)", x -> x.lacking(day, page, 0, 3));
            }
        }
    }

    private void askOfMenus() {
        int[] asked = {1, 2, 3, 5, 6, 7, 15};
        for (int k = 0; k < many[6]; k++) {
            int day = k;
            for (int pages : asked) {
                for (int what = 0; what < 5; what++) {
                    int sort = what;
                    add("menu(" + day + ", " + pages + ", 9, " + sort + ")", x -> x.menu(day, pages, 9, sort));
                    add("lean(" + day + ", " + pages + ", 9, " + sort + ")", x -> x.lean(day, pages, 9, sort));
                }
                add("wasted(" + day + ", " + pages + ", 9, 0)", x -> x.wasted(day, pages, 9, 0));
                add("messes(" + day + ", " + pages + ", 9, 0, 1)", x -> x.messes(day, pages, 9, 0, 1));
            }
        }
    }
}
