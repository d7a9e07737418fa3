/** Promise 34: a stair at rest. */
public final class StairTest {
    public static void main(String[] args) {
        HalfShop x = new HalfShop();
        dueRests(x, 2, 5, 1, 1, 2);
        dueRests(x, 0, 9, 0, 1, 2, 3);
        dueRests(x, 0, 0, 0, 0, 1, 2, 3);
        dueRests(x, 1, 0, 0, 0, 1, 2);
        dueRests(x, 1, 0, 9, 0, 1, 2);
        dueRests(x, 0, 1, 1, 1, 2);
        dueRests(x, 9, 9, 9, 1, 2);
        for (int wrong : new int[] {-1, 10, Integer.MAX_VALUE, Integer.MIN_VALUE}) {
            for (int what = -1; what <= 0; what++) {
                Check.dueNoSuch(x, wrong, 1, 1, what);
                Check.dueNoSuch(x, 1, wrong, 1, what);
                Check.dueNoSuch(x, 1, 1, wrong, what);
            }
        }
        everyStair();
        Check.end();
    }

    private static void dueRests(HalfShop x, int lose, int goes, int stays, int... rests) {
        String call = "rests " + lose + " " + goes + " " + stays + " ";
        Check.due(call + "many", x.rests(lose, goes, stays, -1), rests.length);
        for (int i = 0; i < rests.length; i++) {
            Check.due(call + i, x.rests(lose, goes, stays, i), rests[i]);
        }
        Check.dueNoSuch(x, lose, goes, stays, rests.length);
        Check.dueNoSuch(x, lose, goes, stays, -2);
        Check.dueNoSuch(x, lose, goes, stays, Integer.MAX_VALUE);
        Check.dueNoSuch(x, lose, goes, stays, Integer.MIN_VALUE);
    }

    /** Told case by case, not by payoffs. */
    private static void everyStair() {
        for (int lose = 0; lose <= 9; lose++) {
            HalfShop x = new HalfShop();
            for (int goes = 0; goes <= 9; goes++) {
                for (int stays = 0; stays <= 9; stays++) {
                    int many = 2 + (goes == 0 ? 1 : 0) + (lose == 0 && stays == 0 ? 1 : 0);
                    Check.due("rests " + lose + " " + goes + " " + stays, x.rests(lose, goes, stays, -1), many);
                }
            }
        }
    }
}
