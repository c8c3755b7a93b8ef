/** What the tests of edges share: the least and greatest ints, and beds. */
abstract class Edges {
    static final String MIN = String.valueOf(Integer.MIN_VALUE);
    static final String MAX = String.valueOf(Integer.MAX_VALUE);
    static final long NONE = -1;
    static final long THROWS = Checks.THROWS;
    static final String BEDS = "n503;p902;r107;n401";
    static final String EIGHT = "n000;n000;n000;n000;n000;n000;n000;n000";
}
