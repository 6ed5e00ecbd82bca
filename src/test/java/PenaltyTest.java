/** Terms, SQUARE: the mask that is made is the one with the least penalty, the least of several. */
public final class PenaltyTest {
    private static final String[] MASK_BITS = {"0000", "0111", "1011", "1100"};

    public static void main(String[] args) {
        leastPenalty();
        leastOfTwo();
        leastOfThreeOrFour();
        oneLess();
        runOfThree();
        runOfFour();
        countsWhatIsMoreThanTwo();
        runAsLongAsCanBe();
        runsInRowsAndColumns();
        runsAtTheEdge();
        runsDarkAndBright();
        blocksOfEachKind();
        blocksOverlap();
        blocksAtTheEdge();
        blocksCountThree();
        halfOfTheDifference();
        fewerOrMoreDarkOnes();
        Due.end();
    }

    private static void made(int want, long first, long second) {
        BarCodes codes = Rows.given(2, first, second);
        Due.same("make()", codes.make(), 144);
        Due.same("mask() of " + first + " " + second, codes.mask(), want);
        Due.same("the mask's bits", Rows.text(codes, 144).substring(127, 131), MASK_BITS[want]);
    }

    private static void leastPenalty() {
        made(0, 0, 0);
        made(0, 237, 63738809855L);
        made(0, 835, 5);
        made(1, 3045, 52598629800L);
        made(1, 9, 54828373317L);
        made(1, 3398, 34985523300L);
        made(2, 3, 13558573197L);
        made(2, 6, 32529829701L);
        made(2, 589, 62781480523L);
        made(3, 2092, 50430591129L);
        made(3, 1765, 39369751052L);
        made(3, 540, 48575899431L);
    }

    /** Two masks have the least penalty: each pair of them. */
    private static void leastOfTwo() {
        made(0, 3759, 4788755187L);
        made(0, 3505, 22242331732L);
        made(0, 1050, 24365604499L);
        made(0, 3372, 17078232333L);
        made(0, 300, 105);
        made(0, 2, 10770198641L);
        made(1, 2728, 54507766057L);
        made(1, 3882, 12790651972L);
        made(1, 423, 30320245556L);
        made(1, 1331, 57152901041L);
        made(2, 2969, 3581077174L);
        made(2, 3854, 51480970914L);
    }

    private static void leastOfThreeOrFour() {
        made(0, 322, 26715598163L);
        made(0, 4020, 13516199027L);
        made(0, 999, 1);
        made(1, 3932, 55474984810L);
        made(1, 39, 17753982643L);
        made(0, 2068, 11997844445L);
    }

    /** The other side of the pairs: the greater mask's penalty is less by one than the lesser mask's. */
    private static void oneLess() {
        made(1, 3287, 21126871193L);
        made(1, 1585, 52756952738L);
        made(2, 3684, 50310168942L);
        made(2, 4017, 33859249634L);
        made(3, 3038, 9444554721L);
        made(3, 2318, 22993565858L);
        made(2, 2266, 26642549540L);
        made(2, 2262, 3106212425L);
        made(3, 1970, 1765685145L);
        made(3, 2709, 17231443634L);
        made(3, 2177, 17686571631L);
        made(3, 393, 64950541400L);
    }

    /** Another mask would be the best if runs of three counted 1. */
    private static void runOfThree() {
        made(1, 401, 617577);
        made(0, 2072, 64190400997L);
        made(0, 10, 8406);
    }

    /** Another mask would be the best if runs of four did not count. */
    private static void runOfFour() {
        made(1, 401, 617577);
        made(0, 3156, 15114705131L);
        made(0, 3064, 26923334204L);
    }

    /** Not more than 1 or 3, nor the whole run. */
    private static void countsWhatIsMoreThanTwo() {
        made(2, 1757, 26856101813L);
        made(2, 22, 29729524552L);
        made(0, 3481, 5718814746L);
        made(0, 3420, 31846054668L);
        made(0, 534, 23740805116L);
        made(2, 1282, 59556660682L);
    }

    /** Here longer runs would otherwise count 2, or 2 for each four of them. */
    private static void runAsLongAsCanBe() {
        made(1, 401, 617577);
        made(0, 3156, 15114705131L);
        made(2, 1757, 26856101813L);
        made(2, 1282, 59556660682L);
        made(0, 10, 8406);
    }

    private static void runsInRowsAndColumns() {
        made(1, 401, 617577);
        made(0, 3156, 15114705131L);
        made(2, 1282, 59556660682L);
        made(0, 2072, 64190400997L);
    }

    private static void runsAtTheEdge() {
        made(0, 3481, 5718814746L);
        made(2, 1282, 59556660682L);
        made(0, 3420, 31846054668L);
        made(1, 401, 617577);
        made(0, 1445, 66518777191L);
    }

    private static void runsDarkAndBright() {
        made(3, 1441, 8296918676L);
        made(1, 401, 617577);
        made(2, 1282, 59556660682L);
        made(0, 3481, 5718814746L);
        made(0, 3420, 31846054668L);
    }

    private static void blocksOfEachKind() {
        made(1, 401, 617577);
        made(2, 1282, 59556660682L);
        made(0, 2072, 64190400997L);
        made(0, 1042, 26294403929L);
        made(0, 3156, 15114705131L);
    }

    private static void blocksOverlap() {
        made(0, 3481, 5718814746L);
        made(1, 401, 617577);
        made(0, 3156, 15114705131L);
    }

    private static void blocksAtTheEdge() {
        made(0, 3481, 5718814746L);
        made(0, 3156, 15114705131L);
        made(0, 3420, 31846054668L);
        made(0, 1042, 26294403929L);
        made(3, 1441, 8296918676L);
    }

    /** Not 0, 1, 2 or 4. */
    private static void blocksCountThree() {
        made(0, 1042, 26294403929L);
        made(2, 1282, 59556660682L);
        made(0, 3099, 9192643937L);
        made(2, 2127, 42707853921L);
        made(0, 534, 23740805116L);
        made(3, 659, 31400534112L);
        made(2, 22, 29729524552L);
        made(1, 1340, 53935533986L);
    }

    /** Here another mask would be the best if the dark ones counted twice as much, half as much or not. */
    private static void halfOfTheDifference() {
        made(0, 2072, 64190400997L);
        made(2, 2346, 28198519679L);
        made(0, 3481, 5718814746L);
        made(0, 3420, 31846054668L);
        made(0, 3156, 15114705131L);
        made(0, 1445, 66518777191L);
        made(0, 494, 17362845165L);
        made(3, 3309, 20932697988L);
    }

    /** Both too few and too many of them count. */
    private static void fewerOrMoreDarkOnes() {
        made(0, 3481, 5718814746L);
        made(0, 3156, 15114705131L);
        made(0, 2072, 64190400997L);
        made(2, 2777, 7351471490L);
        made(1, 692, 6360231338L);
        made(2, 173, 11743643067L);
    }
}
