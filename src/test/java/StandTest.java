/** Promises 16 to 20: LAGS, USE, who stands where. */
public final class StandTest {
    public static void main(String[] args) {
        promise16();
        promise17();
        promise18();
        promise19();
        promise20();
        Check.finish("StandTest");
    }

    private static void promise16() {
        FairSlots x = Check.made(1, "1/2;1/3;1/6");
        Check.due("lag(0)", x.lag(0), 0);
        Check.row("lag(0)", x, 0, 1);
        x.slot();
        x.lag(0);
        Check.row("lag(0) behind a SLOT", x, -1, 2);
        x.lag(1);
        Check.row("lag(1)", x, 1, 3);
        Check.due("lag(3)", x.lag(3), -1);
        Check.due("lag(-1)", x.lag(-1), -1);
        Check.due("lag(8)", x.lag(8), -1);
        Check.row("the ROW stays", x, 1, 3);
        x.slots(2);
        x.lag(2);
        Check.row("lag(2) in lowest terms", x, 1, 2);
        // JOINED later: SLOTS ahead of it do not count.
        x.leaves(1);
        Check.due("joins()", Check.joins(x, "3/9"), 1);
        x.lag(1);
        Check.row("lag of one that came", x, 0, 1);
        x = Check.made(1, "1/12e");
        x.slots(5);
        x.lag(0);
        Check.row("lag of an EARLY one", x, -55, 12);
    }

    private static void promise17() {
        FairSlots x = new FairSlots();
        Check.due("use()", x.use(), 0);
        Check.row("use() of none", x, 0, 1, 1, 1);
        Check.joins(x, "1/4;1/6");
        x.use();
        Check.row("use()", x, 5, 12, 7, 12);
        x.processors(2);
        x.use();
        Check.row("use() of two PROCESSORS", x, 5, 12, 19, 12);
        Check.joins(x, "7/12;1/1");
        Check.due("use()", x.use(), 0);
        Check.row("use() of all", x, 2, 1, 0, 1);
        x.leaves(3);
        x.use();
        Check.row("use() when one left", x, 1, 1, 1, 1);
        x = Check.made(1, "1/7;1/11;1/9;1/8");
        x.use();
        Check.row("use() of many P", x, 2605, 5544, 2939, 5544);
    }

    private static void promise18() {
        FairSlots x = new FairSlots();
        x.use();
        Check.due("order() of none", x.order(), 0);
        Check.row("order() of none", x);
        x = Check.made(1, "1/6;1/3;1/2");
        Check.due("order()", x.order(), 3);
        Check.row("order()", x, 2, 1, 0);
        x.slot();
        Check.due("order() behind a SLOT", x.order(), 2);
        Check.row("order() behind a SLOT", x, 1, 0);
        x.hurries(2);
        Check.due("order() with an EARLY one", x.order(), 3);
        Check.row("order() with an EARLY one", x, 1, 2, 0);
        Check.due("SLOT", x.count(2), 1);
        x = Check.made(4, "1/2;1/2;1/2;1/2;1/2;1/2;1/2;1/2");
        Check.due("order() of all", x.order(), 8);
        Check.row("order() of all", x, 0, 1, 2, 3, 4, 5, 6, 7);
    }

    private static void promise19() {
        FairSlots x = new FairSlots();
        x.use();
        Check.due("behind() of none", x.behind(), -2);
        Check.row("the ROW stays", x, 0, 1, 1, 1);
        x = Check.made(1, "1/2;1/3;1/6");
        Check.due("behind() of equal ones", x.behind(), 0);
        Check.row("behind()", x, 0, 1);
        x.slot();
        Check.due("behind()", x.behind(), 1);
        Check.row("behind()", x, 1, 3);
        x.slot();
        Check.due("behind()", x.behind(), 2);
        Check.row("behind()", x, 1, 3);
        x = Check.made(1, "1/2;2/8;1/4");
        x.slot();
        Check.due("the least of as great ones", x.behind(), 1);
        Check.row("behind()", x, 1, 4);
        x = Check.made(1, "1/5e");
        x.slots(3);
        Check.due("behind() below 0", x.behind(), 0);
        Check.row("behind() below 0", x, -12, 5);
    }

    private static void promise20() {
        FairSlots x = Check.made(1, "1/6;1/3;1/2");
        Check.due("ahead(0)", x.ahead(0), 2);
        Check.row("ahead(0)", x, 2, 1);
        Check.due("ahead(1)", x.ahead(1), 1);
        Check.row("ahead(1)", x, 2);
        Check.due("ahead(2)", x.ahead(2), 0);
        Check.row("ahead(2)", x);
        x.slot();
        x.use();
        Check.due("not READY", x.ahead(2), -2);
        Check.due("none such", x.ahead(3), -1);
        Check.due("ahead(-1)", x.ahead(-1), -1);
        Check.due("ahead(8)", x.ahead(8), -1);
        Check.row("the ROW stays", x, 1, 1, 0, 1);
        x = Check.made(4, "1/2;1/2;1/2;1/2;1/2;1/2;1/2;1/2");
        Check.due("ahead(7)", x.ahead(7), 7);
        Check.row("ahead(7)", x, 0, 1, 2, 3, 4, 5, 6);
    }
}
