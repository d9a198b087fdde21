/** Promises 32 to 47, and parts 8 to 11. */
final class BoundsOfOthers extends Bounds {
    private static final int[] NO_INDEX = {-1, -2, 8, 9, 16, 32, 33, 256, -32, LEAST, LEAST + 1, GREATEST};

    private BoundsOfOthers() {
    }

    static void test() {
        likes();
        likesRefused();
        pairs();
        pairOf();
        cover();
        crowdOfLeft();
        team();
        games();
        gamesRefused();
        canWin();
        against();
        table();
        tell();
        tellRefused();
        rounded();
        wholeOnes();
        project();
        toolCost();
        best();
        chosen();
    }

    // pairs

    private static CutsetWorks liking(int... sets) {
        CutsetWorks x = new CutsetWorks();
        for (int left = 0; left < sets.length; left++) {
            x.likes(left, sets[left]);
        }
        return x;
    }

    private static void likes() {
        sentence("Part 8", "There are 8 of a left and 8 of a right row, numbered from 0; each left one likes a set "
                + "of right ones, none at first.");
        CutsetWorks x = empty();
        for (int left = 0; left < 8; left++) {
            int l = left;
            asks(x, 0, w -> w.likes(l, 255 - l));
            asks(x, PLACE, w -> w.likes(8, 0));
        }
        for (int left = 0; left < 8; left++) {
            int l = left;
            asks(x, 255 - left, w -> w.likes(l, 1 << l));
        }
        for (int left = 0; left < 8; left++) {
            int l = left;
            asks(x, left, w -> w.pairOf(l));
        }
        promise(32, "- `left`: 0 to 7");
        asks(empty(), 0, w -> w.likes(0, 1));
        asks(empty(), 0, w -> w.likes(7, 1));
        promise(32, "- `set`: the set of right ones, 0 to 255");
        for (int set : new int[] {0, 1, 127, 128, 254, 255}) {
            CutsetWorks y = empty();
            asks(y, 0, w -> w.likes(3, set));
            asks(y, set, w -> w.likes(3, 0));
        }
        returning(32);
        asks(full(), 3, w -> w.likes(0, 0));
        asks(full(), 128, w -> w.likes(7, 0));
        CutsetWorks z = full();
        asks(z, 128, w -> w.likes(7, 255));
        asks(z, 255, w -> w.likes(7, 255));
        asks(z, 255, w -> w.likes(7, 0));
        asks(z, 0, w -> w.likes(7, 0));
    }

    private static void likesRefused() {
        throwing(32, PLACE);
        for (int bad : NO_INDEX) {
            refused(PLACE, Bounds::full, x -> x.likes(bad, 0));
            refused(PLACE, Bounds::full, x -> x.likes(bad, 255));
            first(32, PLACE, Bounds::full, x -> x.likes(bad, 256));
            first(32, PLACE, Bounds::full, x -> x.likes(bad, -1));
        }
        throwing(32, ARGUMENT);
        for (int bad : new int[] {-1, 256, 257, -128, 511, 512, 65535, -255, -256, LEAST, GREATEST}) {
            refused(ARGUMENT, Bounds::full, x -> x.likes(0, bad));
            refused(ARGUMENT, Bounds::some, x -> x.likes(7, bad));
        }
    }

    private static void pairs() {
        returning(33);
        asks(empty(), 0, CutsetWorks::pairs);
        asks(liking(0, 0, 0, 0, 0, 0, 0, 128), 1, CutsetWorks::pairs);
        asks(liking(255, 255, 255, 255, 255, 255, 255, 255), 8, CutsetWorks::pairs);
        asks(liking(128, 64, 32, 16, 8, 4, 2, 1), 8, CutsetWorks::pairs);
        asks(liking(128, 64, 32, 16, 8, 4, 2, 2), 7, CutsetWorks::pairs);
        asks(liking(1, 1, 1, 1, 1, 1, 1, 1), 1, CutsetWorks::pairs);
        sentence("Part 8", "A pairing pairs left ones with right ones that they like, each one once.");
        asks(liking(1, 1), 1, CutsetWorks::pairs);
        asks(liking(3, 3, 3), 2, CutsetWorks::pairs);
        asks(liking(255), 1, CutsetWorks::pairs);
        asks(liking(3, 1), 2, CutsetWorks::pairs);
        asks(liking(3, 5, 1), 3, CutsetWorks::pairs);
        asks(liking(3, 3, 4, 4, 7), 3, CutsetWorks::pairs);
    }

    private static void rowIs(CutsetWorks x, int... dues) {
        for (int left = 0; left < 8; left++) {
            int l = left;
            int due = left < dues.length ? dues[left] : 8;
            asks(x, due == 8 ? NONE : (Object) due, w -> w.pairOf(l));
        }
    }

    private static void pairOf() {
        sentence("Part 8", "Of the greatest pairings the told one has the least row, of right ones by left ones, 8 "
                + "standing for none.");
        rowIs(empty());
        // one that is paired is less than none, so the first ones are
        rowIs(liking(1, 1), 0);
        rowIs(liking(128, 128, 128), 7);
        rowIs(liking(0, 128, 128), 8, 7);
        // as many as possible first, then the least one for the first
        rowIs(liking(3, 1), 1, 0);
        rowIs(liking(3, 3), 0, 1);
        rowIs(liking(6, 3), 1, 0);
        rowIs(liking(7, 3, 3), 2, 0, 1);
        rowIs(liking(255, 255, 255, 255, 255, 255, 255, 255), 0, 1, 2, 3, 4, 5, 6, 7);
        rowIs(liking(255, 1, 2, 4, 8, 16, 32, 64), 7, 0, 1, 2, 3, 4, 5, 6);
        rowIs(liking(3, 3, 3, 4), 0, 1, 8, 2);
        promise(34, "- `left`: 0 to 7");
        rowIs(liking(1, 0, 0, 0, 0, 0, 0, 2), 0, 8, 8, 8, 8, 8, 8, 1);
        returning(34);
        asks(liking(0, 0, 0, 0, 0, 0, 0, 128), 7, x -> x.pairOf(7));
        asks(liking(1), 0, x -> x.pairOf(0));
        throwing(34, PLACE);
        for (int bad : NO_INDEX) {
            refused(PLACE, Bounds::full, x -> x.pairOf(bad));
            first(34, PLACE, Bounds::empty, x -> x.pairOf(bad));
        }
        throwing(34, NONE);
        for (int left = 0; left < 8; left++) {
            int l = left;
            refused(NONE, Bounds::empty, x -> x.pairOf(l));
            asks(full(), left, x -> x.pairOf(l));
        }
        refused(NONE, () -> liking(1, 1), x -> x.pairOf(1));
    }

    private static void coverIs(CutsetWorks x, int left, int right) {
        asks(x, left, w -> w.cover(true));
        asks(x, right, w -> w.cover(false));
    }

    private static void cover() {
        sentence("Part 8", "A cover has, of each left one and each right one that it likes, one of both; of the "
                + "covers with the fewest, the told one has the least set of left ones.");
        coverIs(empty(), 0, 0);
        coverIs(liking(1), 0, 1);
        coverIs(liking(3), 1, 0);
        coverIs(liking(3, 3), 0, 3);
        coverIs(liking(7, 7), 3, 0);
        coverIs(liking(1, 1, 1), 0, 1);
        coverIs(liking(15, 1, 1), 1, 1);
        coverIs(liking(3, 1), 0, 3);
        coverIs(liking(0, 0, 0, 0, 0, 0, 0, 192), 128, 0);
        coverIs(liking(192, 192, 7), 4, 192);
        returning(35);
        coverIs(liking(255, 255, 255, 255, 255, 255, 255, 255), 0, 255);
        coverIs(liking(255, 255, 255, 255, 255, 255, 255, 0), 127, 0);
        coverIs(liking(0, 255, 255, 255, 255, 255, 255, 255), 254, 0);
        promise(35, "- `isLeft`: whether the left ones");
        coverIs(full(), 0, 255);
    }

    private static void crowdOfLeft() {
        sentence("Part 8", "The crowd is the set of left ones that is more than all right ones that they like "
                + "together, by as many as possible; of several sets the one of what is in all of them.");
        asks(empty(), 255, CutsetWorks::crowdOfLeft);
        asks(liking(1, 2, 4, 8, 16, 32, 64, 0), 128, CutsetWorks::crowdOfLeft);
        asks(liking(1, 2, 4, 8, 16, 32, 64, 64), 192, CutsetWorks::crowdOfLeft);
        asks(liking(1, 1, 4, 8, 16, 32, 64, 128), 3, CutsetWorks::crowdOfLeft);
        asks(liking(3, 3, 3, 8, 16, 32, 64, 128), 7, CutsetWorks::crowdOfLeft);
        // two crowds by one each are one by two; those that are no more than what they like stay out
        asks(liking(1, 1, 4, 4, 16, 32, 64, 128), 15, CutsetWorks::crowdOfLeft);
        asks(liking(1, 1, 1, 4, 8, 16, 32, 64), 7, CutsetWorks::crowdOfLeft);
        asks(liking(1, 1, 3, 4, 8, 16, 32, 64), 3, CutsetWorks::crowdOfLeft);
        asks(liking(255, 255, 255, 255, 255, 255, 255, 0), 128, CutsetWorks::crowdOfLeft);
        returning(36);
        asks(liking(0, 255, 255, 255, 255, 255, 255, 255), 1, CutsetWorks::crowdOfLeft);
        asks(liking(127, 127, 127, 127, 127, 127, 127, 127), 255, CutsetWorks::crowdOfLeft);
        throwing(36, NONE);
        refused(NONE, Bounds::full, CutsetWorks::crowdOfLeft);
        refused(NONE, () -> liking(255, 255, 255, 255, 255, 255, 255, 255), CutsetWorks::crowdOfLeft);
        refused(NONE, () -> liking(128, 64, 32, 16, 8, 4, 2, 1), CutsetWorks::crowdOfLeft);
    }

    // a league

    private static CutsetWorks league(int[] wins, int[]... games) {
        CutsetWorks x = new CutsetWorks();
        for (int team : wins) {
            x.team(team);
        }
        for (int[] game : games) {
            x.games(game[0], game[1], game[2]);
        }
        return x;
    }

    private static int[] n(int... numbers) {
        return numbers;
    }

    private static void team() {
        sentence("Part 9", "At most 6 teams are numbered from 0, each with wins, 0 to 99");
        CutsetWorks x = empty();
        for (int team = 0; team < 6; team++) {
            int t = team;
            asks(x, PLACE, w -> w.canWin(t));
            asks(x, team, w -> w.team(99 - t));
            asks(x, team == 0, w -> w.canWin(t));
        }
        asks(x, PLACE, w -> w.canWin(6));
        asks(x, STATE, w -> w.team(0));
        promise(37, "- `wins`: 0 to 99");
        for (int wins : new int[] {0, 1, 98, 99}) {
            CutsetWorks y = empty();
            asks(y, 0, w -> w.team(wins));
            asks(y, 1, w -> w.team(99));
            asks(y, 2, w -> w.team(98));
            asks(y, wins == 99, w -> w.canWin(0));
            CutsetWorks z = league(n(0));
            asks(z, 1, w -> w.team(wins));
            asks(z, wins == 0, w -> w.canWin(0));
            asks(z, 0, w -> w.games(0, 1, 1));
            asks(z, wins <= 1, w -> w.canWin(0));
        }
        returning(37);
        asks(empty(), 0, w -> w.team(0));
        asks(league(n(1, 2, 3, 4, 5)), 5, w -> w.team(0));
        throwing(37, ARGUMENT);
        for (int bad : new int[] {-1, 100, 101, 256, 355, -99, -256, LEAST, GREATEST}) {
            refused(ARGUMENT, Bounds::empty, w -> w.team(bad));
            refused(ARGUMENT, Bounds::some, w -> w.team(bad));
            first(37, ARGUMENT, Bounds::full, w -> w.team(bad));
        }
        throwing(37, STATE);
        refused(STATE, Bounds::full, w -> w.team(0));
        refused(STATE, Bounds::full, w -> w.team(99));
        refused(STATE, () -> league(n(0, 0, 0, 0, 0, 0)), w -> w.team(5));
    }

    private static void games() {
        sentence("Part 9", "and between each two some games, 0 to 9, are left, 0 at first; each game is won by one "
                + "of both.");
        CutsetWorks x = league(n(0, 0, 0, 0, 0, 0));
        int many = 0;
        for (int one = 0; one < 6; one++) {
            for (int other = one + 1; other < 6; other++) {
                int a = one;
                int b = other;
                int left = many++ % 10;
                asks(x, 0, w -> w.games(b, a, left));
            }
        }
        many = 0;
        for (int one = 0; one < 6; one++) {
            for (int other = one + 1; other < 6; other++) {
                int a = one;
                int b = other;
                asks(x, many++ % 10, w -> w.games(a, b, 9));
                asks(x, 9, w -> w.games(b, a, 0));
            }
        }
        promise(38, "- `many`: 0 to 9");
        CutsetWorks y = league(n(0, 9));
        asks(y, 0, w -> w.games(0, 1, 9));
        asks(y, true, w -> w.canWin(0));
        asks(y, 9, w -> w.games(1, 0, 8));
        asks(y, false, w -> w.canWin(0));
        returning(38);
        asks(y, 8, w -> w.games(0, 1, 0));
        asks(y, 0, w -> w.games(0, 1, 0));
        asks(full(), 9, w -> w.games(5, 4, 0));
        asks(full(), 9, w -> w.games(4, 5, 0));
        asks(full(), 1, w -> w.games(0, 1, 0));
    }

    private static void gamesRefused() {
        throwing(38, PLACE);
        for (int teams : new int[] {0, 1, 2, 5, 6}) {
            Making making = () -> league(new int[teams]);
            for (int bad : new int[] {-1, teams, teams + 1, 6, 7, 32, 256, 1 << 30, 715827883, LEAST, GREATEST}) {
                refused(PLACE, making, x -> x.games(bad, 0, 1));
                refused(PLACE, making, x -> x.games(0, bad, 1));
                refused(PLACE, making, x -> x.games(bad, bad, 1));
                first(38, PLACE, making, x -> x.games(bad, bad, 10));
                first(38, PLACE, making, x -> x.games(bad, 0, -1));
                first(38, PLACE, making, x -> x.games(teams - 1, bad, 10));
            }
        }
        throwing(38, ARGUMENT);
        for (int team = 0; team < 6; team++) {
            int t = team;
            refused(ARGUMENT, Bounds::full, x -> x.games(t, t, 0));
            refused(ARGUMENT, Bounds::full, x -> x.games(t, t, 5));
            for (int bad : new int[] {-1, 10, 11, -9, 256, 265, LEAST, GREATEST}) {
                refused(ARGUMENT, Bounds::full, x -> x.games(t, (t + 1) % 6, bad));
            }
        }
        asks(league(n(3, 4)), 0, x -> x.games(0, 1, 0));
    }

    private static void canWin() {
        sentence("Part 9", "A team can win if games can end such that no other team has more wins.");
        asks(league(n(0)), true, x -> x.canWin(0));
        // as many are enough, 1 less is not
        asks(league(n(98, 99)), false, x -> x.canWin(0));
        asks(league(n(99, 99)), true, x -> x.canWin(0));
        asks(league(n(98, 99), n(0, 1, 1)), true, x -> x.canWin(0));
        asks(league(n(0, 9), n(0, 1, 9)), true, x -> x.canWin(0));
        asks(league(n(0, 10), n(0, 1, 9)), false, x -> x.canWin(0));
        asks(league(n(0, 10), n(0, 1, 9)), true, x -> x.canWin(1));
        // what others win of each other
        asks(league(n(10, 10, 10), n(1, 2, 1)), false, x -> x.canWin(0));
        asks(league(n(10, 10, 9), n(1, 2, 1)), true, x -> x.canWin(0));
        asks(league(n(10, 10, 9), n(1, 2, 2)), false, x -> x.canWin(0));
        asks(league(n(10, 10, 8), n(1, 2, 2)), true, x -> x.canWin(0));
        asks(league(n(10, 9, 9, 9), n(1, 2, 1), n(2, 3, 1), n(1, 3, 1)), true, x -> x.canWin(0));
        asks(league(n(10, 9, 9, 9), n(1, 2, 2), n(2, 3, 1), n(1, 3, 1)), false, x -> x.canWin(0));
        // those that it plays itself it wins
        asks(league(n(0, 45, 45, 45, 45, 45), n(0, 1, 9), n(0, 2, 9), n(0, 3, 9), n(0, 4, 9), n(0, 5, 9)), true,
                x -> x.canWin(0));
        asks(league(n(0, 45, 45, 46, 45, 45), n(0, 1, 9), n(0, 2, 9), n(0, 3, 9), n(0, 4, 9), n(0, 5, 9)), false,
                x -> x.canWin(0));
        returning(39);
        asks(full(), true, x -> x.canWin(5));
        throwing(39, PLACE);
        for (int bad : new int[] {-1, 6, 7, 32, 256, LEAST, GREATEST}) {
            refused(PLACE, Bounds::full, x -> x.canWin(bad));
        }
        refused(PLACE, Bounds::some, x -> x.canWin(3));
        refused(PLACE, Bounds::empty, x -> x.canWin(0));
        asks(some(), true, x -> x.canWin(2));
    }

    private static void against() {
        sentence("Part 9", "If it cannot, there is a set of other teams whose wins, and games left among "
                + "themselves, together, are more than as many times what it has if it wins all of its games; the "
                + "least such set is told.");
        asks(league(n(5, 6)), 2, x -> x.against(0));
        asks(league(n(6, 5)), 1, x -> x.against(1));
        asks(league(n(5, 5)), NONE, x -> x.against(0));
        asks(league(n(5, 6, 6)), 2, x -> x.against(0));
        asks(league(n(5, 5, 6)), 4, x -> x.against(0));
        asks(league(n(5, 5, 5), n(1, 2, 1)), 6, x -> x.against(0));
        asks(league(n(5, 5, 4), n(1, 2, 1)), NONE, x -> x.against(0));
        asks(league(n(5, 5, 4), n(1, 2, 2)), 6, x -> x.against(0));
        // two whose set is less, ahead of one alone; none of its own games counts for the others
        asks(league(n(5, 5, 5, 6), n(1, 2, 1)), 6, x -> x.against(0));
        asks(league(n(5, 5, 5, 6), n(1, 2, 1), n(0, 3, 1)), NONE, x -> x.against(0));
        asks(league(n(5, 5, 5, 7), n(1, 2, 3), n(0, 3, 1)), 6, x -> x.against(0));
        asks(league(n(5, 5, 5, 7), n(1, 2, 1), n(0, 3, 1)), 8, x -> x.against(0));
        // all of the others together, and only so
        asks(league(n(1, 1, 1, 1, 1, 1), n(1, 2, 1), n(0, 5, 1)), NONE, x -> x.against(0));
        asks(league(n(3, 3, 3, 3, 3, 3), n(0, 1, 1), n(1, 2, 1), n(2, 3, 1), n(3, 4, 1), n(4, 0, 1), n(5, 0, 1)), NONE,
                x -> x.against(5));
        asks(league(n(3, 3, 3, 3, 3, 3), n(0, 1, 1), n(1, 2, 1), n(2, 3, 1), n(3, 4, 1), n(4, 0, 1), n(5, 0, 1),
                n(2, 0, 1)), 31, x -> x.against(5));
        returning(40);
        asks(league(n(99, 0, 0, 0, 0, 0)), 1, x -> x.against(5));
        asks(league(n(0, 0, 0, 0, 0, 99)), 32, x -> x.against(0));
        asks(league(n(3, 3, 3, 3, 3, 3), n(1, 2, 1), n(2, 3, 1), n(3, 4, 1), n(4, 5, 1), n(5, 1, 1), n(1, 3, 1),
                n(0, 1, 1)), 62, x -> x.against(0));
        throwing(40, PLACE);
        for (int bad : new int[] {-1, 6, 7, 32, 256, LEAST, GREATEST}) {
            refused(PLACE, Bounds::full, x -> x.against(bad));
            first(40, PLACE, Bounds::full, x -> x.against(bad));
        }
        refused(PLACE, Bounds::some, x -> x.against(3));
        refused(PLACE, Bounds::empty, x -> x.against(0));
        throwing(40, NONE);
        refused(NONE, Bounds::full, x -> x.against(5));
        refused(NONE, () -> league(n(0)), x -> x.against(0));
        refused(NONE, () -> league(n(7, 7)), x -> x.against(0));
        asks(league(n(7, 8)), 2, x -> x.against(0));
    }

    // a table

    private static void table() {
        promise(41, "- `rows`: 1 to 4");
        for (int rows = 1; rows <= 4; rows++) {
            for (int columns = 1; columns <= 4; columns++) {
                int r = rows;
                int c = columns;
                CutsetWorks x = full();
                promise(41, "- `rows`: 1 to 4");
                asks(x, rows * columns, w -> w.table(r, c));
                asks(x, 0, w -> w.tell(r - 1, 0, 1));
                asks(x, PLACE, w -> w.tell(r, 0, 1));
                promise(41, "- `columns`: 1 to 4");
                asks(x, rows * columns == 1 || columns == 1 ? 1 : 0, w -> w.tell(r - 1, c - 1, 1));
                asks(x, PLACE, w -> w.tell(0, c, 1));
                asks(x, PLACE, w -> w.rounded(r, c - 1));
                asks(x, PLACE, w -> w.rounded(r - 1, c));
            }
        }
        sentence("Part 10", "a table has 1 to 4 rows and 1 to 4 columns of numbers of tenths, 0 to 999, 0 at first.");
        for (int[] size : new int[][] {{4, 4}, {4, 1}, {1, 4}, {1, 1}, {3, 2}}) {
            CutsetWorks x = full();
            x.table(size[0], size[1]);
            for (int place = 0; place < size[0] * size[1]; place++) {
                int row = place / size[1];
                int column = place % size[1];
                asks(x, 0, w -> w.rounded(row, column));
                asks(x, 0, w -> w.tell(row, column, 999));
            }
            asks(x, size[0] * size[1], w -> w.table(size[0], size[1]));
            asks(x, 0, w -> w.tell(size[0] - 1, size[1] - 1, 0));
        }
        returning(41);
        asks(empty(), 1, x -> x.table(1, 1));
        asks(empty(), 16, x -> x.table(4, 4));
        asks(empty(), 8, x -> x.table(2, 4));
        throwing(41, ARGUMENT);
        for (int bad : new int[] {0, 5, -1, 6, 8, 257, -4, LEAST, LEAST + 1, GREATEST}) {
            for (int good = 1; good <= 4; good++) {
                int g = good;
                refused(ARGUMENT, Bounds::full, x -> x.table(bad, g));
                refused(ARGUMENT, Bounds::full, x -> x.table(g, bad));
                refused(ARGUMENT, Bounds::empty, x -> x.table(g, bad));
            }
            refused(ARGUMENT, Bounds::some, x -> x.table(bad, bad));
        }
    }

    private static void tell() {
        promise(42, "- `tenths`: 0 to 999");
        for (int tenths : new int[] {0, 1, 9, 10, 990, 998, 999}) {
            CutsetWorks x = empty();
            asks(x, 0, w -> w.tell(0, 0, tenths));
            asks(x, tenths / 10, w -> w.rounded(0, 0));
            asks(x, tenths, w -> w.tell(0, 0, 0));
        }
        returning(42);
        // each of the sixteen places is a place of its own
        CutsetWorks x = empty();
        x.table(4, 4);
        for (int place = 0; place < 16; place++) {
            int p = place;
            asks(x, 0, w -> w.tell(p / 4, p % 4, 999 - p));
        }
        for (int place = 0; place < 16; place++) {
            int p = place;
            asks(x, 999 - place, w -> w.tell(p / 4, p % 4, p));
        }
        CutsetWorks y = empty();
        y.table(3, 2);
        for (int place = 0; place < 6; place++) {
            int p = place;
            asks(y, 0, w -> w.tell(p / 2, p % 2, 100 + p));
        }
        for (int place = 0; place < 6; place++) {
            int p = place;
            asks(y, 100 + place, w -> w.tell(p / 2, p % 2, 0));
        }
    }

    private static void tellRefused() {
        for (int rows : new int[] {1, 2, 4}) {
            for (int columns : new int[] {1, 3, 4}) {
                Making making = () -> {
                    CutsetWorks x = empty();
                    x.table(rows, columns);
                    x.tell(0, 0, 123);
                    x.tell(rows - 1, columns - 1, 345);
                    return x;
                };
                for (int bad : new int[] {-1, 4, 5, 16, 256, 1 << 30, LEAST, GREATEST}) {
                    tellRefused(making, bad, 0);
                    tellRefused(making, 0, bad);
                    tellRefused(making, bad, columns - 1);
                    tellRefused(making, rows - 1, bad);
                    tellRefused(making, bad, bad);
                }
                tellRefused(making, rows, 0);
                tellRefused(making, rows, -columns);
                tellRefused(making, 0, columns);
                tellRefused(making, -1, columns);
                throwing(42, ARGUMENT);
                for (int bad : new int[] {-1, 1000, 1001, -10, 1024, 65536, LEAST, GREATEST}) {
                    refused(ARGUMENT, making, x -> x.tell(0, 0, bad));
                    refused(ARGUMENT, making, x -> x.tell(rows - 1, columns - 1, bad));
                }
            }
        }
    }

    private static void tellRefused(Making making, int row, int column) {
        throwing(42, PLACE);
        refused(PLACE, making, x -> x.tell(row, column, 0));
        refused(PLACE, making, x -> x.tell(row, column, 999));
        first(42, PLACE, making, x -> x.tell(row, column, 1000));
        first(42, PLACE, making, x -> x.tell(row, column, -1));
        throwing(43, PLACE);
        refused(PLACE, making, x -> x.rounded(row, column));
    }

    /** The rows of tenths, and behind them the rows that are due. */
    private static void tableIs(int[][] tenths, int[]... dues) {
        CutsetWorks x = empty();
        int columns = tenths[0].length;
        x.table(tenths.length, columns);
        for (int place = 0; place < tenths.length * columns; place++) {
            x.tell(place / columns, place % columns, tenths[place / columns][place % columns]);
        }
        for (int place = 0; place < tenths.length * columns; place++) {
            int p = place;
            asks(x, dues[place / columns][place % columns], w -> w.rounded(p / columns, p % columns));
        }
    }

    private static void rounded() {
        sentence("Part 10", "It is rounded so: each number becomes a whole one, just below or just above it, or is "
                + "whole and stays, such that the sum of each row, that of each column, and that of all is just "
                + "below or just above what it was, likewise, or is whole and stays; of all tables that are so the "
                + "told one has the least row of numbers, row by row.");
        tableIs(new int[][] {{0}}, n(0));
        tableIs(new int[][] {{1}}, n(0));
        tableIs(new int[][] {{9}}, n(0));
        tableIs(new int[][] {{10}}, n(1));
        tableIs(new int[][] {{999}}, n(99));
        // the sum of a row: 0.9 may be 0, 1.0 is 1, 1.1 may be 1, 2.0 is 2
        tableIs(new int[][] {{5, 4}}, n(0, 0));
        tableIs(new int[][] {{5, 5}}, n(0, 1));
        tableIs(new int[][] {{5, 6}}, n(0, 1));
        tableIs(new int[][] {{9, 9}}, n(0, 1));
        tableIs(new int[][] {{9, 9, 2}}, n(0, 1, 1));
        tableIs(new int[][] {{9, 9, 1}}, n(0, 0, 1));
        // that of a column
        tableIs(new int[][] {{5}, {4}}, n(0), n(0));
        tableIs(new int[][] {{5}, {5}}, n(0), n(1));
        tableIs(new int[][] {{9}, {9}, {2}}, n(0), n(1), n(1));
        tableIs(new int[][] {{5}, {5}, {5}, {5}}, n(0), n(0), n(1), n(1));
        // that of all: rows and columns alone would let all be 0
        tableIs(new int[][] {{4, 0}, {0, 5}}, n(0, 0), n(0, 0));
        tableIs(new int[][] {{5, 0}, {0, 5}}, n(0, 0), n(0, 1));
        tableIs(new int[][] {{9, 0}, {0, 9}}, n(0, 0), n(0, 1));
        tableIs(new int[][] {{7, 0, 0}, {0, 7, 0}, {0, 0, 7}}, n(0, 0, 0), n(0, 1, 0), n(0, 0, 1));
        // row by row: the first numbers are the least
        tableIs(new int[][] {{5, 5}, {5, 5}}, n(0, 1), n(1, 0));
        tableIs(new int[][] {{5, 5, 5, 5}, {5, 5, 5, 5}, {5, 5, 5, 5}, {5, 5, 5, 5}}, n(0, 0, 1, 1), n(0, 0, 1, 1),
                n(1, 1, 0, 0), n(1, 1, 0, 0));
        tableIs(new int[][] {{3, 3, 4}, {3, 3, 4}}, n(0, 0, 1), n(0, 1, 0));
        // column by column the least row would be another one
        tableIs(new int[][] {{2, 5}, {5, 8}}, n(0, 0), n(1, 1));
        returning(43);
        tableIs(new int[][] {{5, 995}}, n(0, 100));
        tableIs(new int[][] {{5, 994}}, n(0, 99));
        tableIs(new int[][] {{999, 1}}, n(99, 1));
        tableIs(new int[][] {{1, 999}}, n(0, 100));
        tableIs(new int[][] {{999, 999, 999, 999}, {999, 999, 999, 999}, {999, 999, 999, 999}, {999, 999, 999, 999}},
                n(99, 100, 100, 100), n(100, 99, 100, 100), n(100, 100, 100, 100), n(100, 100, 100, 100));
    }

    private static void wholeOnes() {
        sentence("Part 10", "or is whole and stays");
        tableIs(new int[][] {{10, 20}, {30, 990}}, n(1, 2), n(3, 99));
        tableIs(new int[][] {{20, 5}, {5, 995}}, n(2, 0), n(0, 100));
        tableIs(new int[][] {{10, 5}, {5, 10}}, n(1, 0), n(1, 1));
        tableIs(new int[][] {{0, 990}, {990, 0}}, n(0, 99), n(99, 0));
        tableIs(new int[][] {{10, 9, 1}}, n(1, 0, 1));
        // what is told anew counts, and no more what was told ahead of it
        CutsetWorks x = empty();
        x.tell(0, 0, 19);
        asks(x, 1, w -> w.rounded(0, 0));
        x.tell(0, 0, 20);
        asks(x, 2, w -> w.rounded(0, 0));
        x.table(1, 2);
        asks(x, 0, w -> w.rounded(0, 0));
        asks(x, 0, w -> w.rounded(0, 1));
    }

    // projects

    private static void project() {
        sentence("Part 11", "At most 8 projects are numbered from 0, each with a gain, 0 to 99, and a set of tools "
                + "that it needs, of 0 to 7, each of which has a cost, 0 to 99, 0 at first.");
        CutsetWorks x = empty();
        for (int number = 0; number < 8; number++) {
            int p = number;
            asks(x, number, w -> w.project(p + 1, 1 << p));
            asks(x, (number + 1) * (number + 2) / 2, CutsetWorks::best);
            asks(x, (2 << number) - 1, w -> w.chosen(true));
        }
        asks(x, STATE, w -> w.project(0, 0));
        promise(44, "- `gain`: 0 to 99");
        for (int gain : new int[] {0, 1, 98, 99}) {
            CutsetWorks y = empty();
            asks(y, 0, w -> w.project(gain, 0));
            asks(y, gain, CutsetWorks::best);
        }
        promise(44, "- `tools`: the set of tools, 0 to 255");
        for (int tools : new int[] {0, 1, 128, 254, 255}) {
            CutsetWorks y = empty();
            for (int tool = 0; tool < 8; tool++) {
                y.toolCost(tool, 1 + tool);
            }
            asks(y, 0, w -> w.project(99, tools));
            int costs = tools == 0 ? 0 : tools == 1 ? 1 : tools == 128 ? 8 : tools == 254 ? 35 : 36;
            asks(y, 99 - costs, CutsetWorks::best);
        }
        returning(44);
        asks(empty(), 0, w -> w.project(5, 5));
        asks(some(), 1, w -> w.project(5, 5));
        throwing(44, ARGUMENT);
        for (int bad : new int[] {-1, 100, 101, 256, 355, -99, LEAST, GREATEST}) {
            refused(ARGUMENT, Bounds::some, w -> w.project(bad, 0));
            refused(ARGUMENT, Bounds::empty, w -> w.project(bad, 255));
            first(44, ARGUMENT, Bounds::full, w -> w.project(bad, 0));
        }
        throwing(44, ARGUMENT);
        for (int bad : new int[] {-1, 256, 257, 511, 512, -255, -256, LEAST, GREATEST}) {
            refused(ARGUMENT, Bounds::some, w -> w.project(0, bad));
            refused(ARGUMENT, Bounds::empty, w -> w.project(99, bad));
            first(44, ARGUMENT, Bounds::full, w -> w.project(99, bad));
        }
        throwing(44, STATE);
        refused(STATE, Bounds::full, w -> w.project(0, 0));
        refused(STATE, Bounds::full, w -> w.project(99, 255));
    }

    private static void toolCost() {
        promise(45, "- `tool`: 0 to 7");
        for (int tool = 0; tool < 8; tool++) {
            int t = tool;
            CutsetWorks x = empty();
            x.project(50, 1 << tool);
            asks(x, 50, CutsetWorks::best);
            asks(x, 0, w -> w.toolCost(t, 20));
            asks(x, 30, CutsetWorks::best);
            asks(x, 20, w -> w.toolCost(t, 0));
            asks(x, 50, CutsetWorks::best);
        }
        promise(45, "- `cost`: 0 to 99");
        for (int cost : new int[] {0, 1, 98, 99}) {
            CutsetWorks x = empty();
            x.project(99, 8);
            asks(x, 0, w -> w.toolCost(3, cost));
            asks(x, 99 - cost, CutsetWorks::best);
            asks(x, cost, w -> w.toolCost(3, 0));
        }
        returning(45);
        asks(full(), 5, w -> w.toolCost(0, 1));
        asks(full(), 12, w -> w.toolCost(7, 1));
        CutsetWorks x = full();
        asks(x, 12, w -> w.toolCost(7, 99));
        asks(x, 99, w -> w.toolCost(7, 99));
        throwing(45, PLACE);
        for (int bad : NO_INDEX) {
            refused(PLACE, Bounds::full, w -> w.toolCost(bad, 0));
            refused(PLACE, Bounds::full, w -> w.toolCost(bad, 99));
            first(45, PLACE, Bounds::full, w -> w.toolCost(bad, 100));
            first(45, PLACE, Bounds::full, w -> w.toolCost(bad, -1));
        }
        throwing(45, ARGUMENT);
        for (int bad : new int[] {-1, 100, 101, 256, 355, -99, LEAST, GREATEST}) {
            refused(ARGUMENT, Bounds::full, w -> w.toolCost(0, bad));
            refused(ARGUMENT, Bounds::some, w -> w.toolCost(7, bad));
        }
    }

    /** Each project: its gain and its tools. */
    private static CutsetWorks projects(int[] costs, int[]... projects) {
        CutsetWorks x = new CutsetWorks();
        for (int tool = 0; tool < costs.length; tool++) {
            x.toolCost(tool, costs[tool]);
        }
        for (int[] project : projects) {
            x.project(project[0], project[1]);
        }
        return x;
    }

    private static void bestIs(CutsetWorks x, int best, int inAll, int inSome) {
        asks(x, best, CutsetWorks::best);
        asks(x, inAll, w -> w.chosen(false));
        asks(x, inSome, w -> w.chosen(true));
    }

    private static void best() {
        sentence("Part 11", "What is best is the greatest sum of gains of some projects, perhaps of none, less the "
                + "costs of all tools that they need, each once.");
        bestIs(empty(), 0, 0, 0);
        bestIs(projects(n(9), n(8, 1)), 0, 0, 0);
        bestIs(projects(n(9), n(9, 1)), 0, 0, 1);
        bestIs(projects(n(9), n(10, 1)), 1, 1, 1);
        // a tool that two need is paid once
        bestIs(projects(n(9), n(5, 1), n(5, 1)), 1, 3, 3);
        bestIs(projects(n(10), n(5, 1), n(5, 1)), 0, 0, 3);
        bestIs(projects(n(11), n(5, 1), n(5, 1)), 0, 0, 0);
        bestIs(projects(n(3, 9), n(10, 3), n(4, 2)), 2, 3, 3);
        // one that needs no tool, one that gains nothing
        bestIs(projects(n(9), n(1, 0)), 1, 1, 1);
        bestIs(projects(n(9), n(0, 0)), 0, 0, 1);
        bestIs(projects(n(0), n(0, 1)), 0, 0, 1);
        bestIs(projects(n(1), n(0, 1)), 0, 0, 0);
        returning(46);
        CutsetWorks x = empty();
        for (int number = 0; number < 8; number++) {
            x.project(99, 0);
        }
        asks(x, 792, CutsetWorks::best);
        CutsetWorks y = projects(n(99, 99, 99, 99, 99, 99, 99, 99), n(99, 255));
        bestIs(y, 0, 0, 0);
        for (int number = 1; number < 8; number++) {
            y.project(99, 255);
        }
        bestIs(y, 0, 0, 255);
    }

    private static void chosen() {
        sentence("Part 11", "Of the sets of projects that are best, one is in all of them, and all of them are in "
                + "one.");
        bestIs(projects(n(5, 5), n(5, 1), n(5, 2)), 0, 0, 3);
        bestIs(projects(n(5, 4), n(5, 1), n(5, 2)), 1, 2, 3);
        bestIs(projects(n(5, 6), n(5, 1), n(5, 2)), 0, 0, 1);
        bestIs(projects(n(5, 4, 4), n(5, 1), n(5, 2), n(9, 4), n(4, 4)), 10, 14, 15);
        bestIs(projects(n(5, 4, 4), n(5, 1), n(5, 2), n(4, 4)), 1, 2, 7);
        returning(47);
        asks(projects(n(), n(5, 0)), 1, x -> x.chosen(false));
        asks(projects(n(), n(5, 0)), 1, x -> x.chosen(true));
        bestIs(full(), 5 * 8, 255, 255);
        CutsetWorks x = empty();
        for (int number = 0; number < 8; number++) {
            x.project(0, 255);
        }
        bestIs(x, 0, 0, 255);
        promise(47, "- `isAll`: whether that in which all are");
        asks(x, 0, w -> w.chosen(false));
        asks(x, 255, w -> w.chosen(true));
    }
}
