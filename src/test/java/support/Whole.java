/** All that an object answers when it is asked, as one text, but for the TAPE and the FAULT. */
final class Whole {
    private Whole() {
    }

    static String of(InvariantLearner x) {
        StringBuilder all = new StringBuilder();
        for (int what = 0; what < 11; what++) {
            all.append(x.count(what)).append(' ').append(x.many(what)).append(' ');
        }
        all.append(x.ended()).append(' ').append(x.shortMany()).append(' ')
                .append(x.bySteps()).append(' ').append(x.togetherProves()).append('\n');
        states(x, all);
        learned(x, all);
        rows(x, all);
        for (int way = 0; way < 4; way++) {
            all.append(x.needed(way / 2, way % 2)).append(' ')
                    .append(x.ifLearned(way / 2, way % 2, -1, 1)).append(' ');
        }
        return all.toString();
    }

    private static void states(InvariantLearner x, StringBuilder all) {
        for (int s = 0; s < x.many(0); s++) {
            for (int what = 0; what < 7; what++) {
                all.append(x.is(s, what)).append(' ');
            }
            for (int k = 0; k < x.count(3); k++) {
                all.append(x.next(s, k)).append(' ');
            }
            for (int t = 0; t < x.count(4); t++) {
                all.append(x.holds(t, s)).append(' ');
            }
            for (int v = 0; v < x.count(0); v++) {
                all.append(Tape.value(x, s, v)).append(' ');
            }
        }
        all.append('\n');
    }

    private static void learned(InvariantLearner x, StringBuilder all) {
        for (int i = 0; i < 3; i++) {
            all.append(x.brought(i)).append(' ').append(x.trace(i)).append(' ');
        }
        for (int i = 0; i < x.count(5); i++) {
            for (int what = 0; what < 5; what++) {
                all.append(x.point(i, what)).append(' ');
            }
        }
        for (int i = 0; i < x.count(6); i++) {
            all.append(x.pair(i, 0)).append(' ').append(x.pair(i, 1)).append(' ');
        }
        for (int i = 0; i < x.count(7); i++) {
            for (int what = 0; what < 7; what++) {
                all.append(x.node(i, what)).append(' ');
            }
        }
        for (int t = 0; t < x.count(4); t++) {
            all.append(x.cost(t)).append(' ');
        }
        all.append('\n');
    }

    private static void rows(InvariantLearner x, StringBuilder all) {
        for (int which = 0; which < 2; which++) {
            boolean isShort = which == 1;
            int rows = x.rows(0, isShort);
            all.append(rows).append(' ').append(x.rows(1, isShort)).append(' ')
                    .append(x.together(which)).append(' ');
            for (int k = 0; k < rows; k++) {
                for (int i = 0; x.row(k, i, isShort) >= 0; i++) {
                    all.append(x.row(k, i, isShort)).append(' ');
                }
            }
        }
        all.append('\n');
    }
}
