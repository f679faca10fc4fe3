/** Promise 5: goal (the parents that refuse: AddTest). */
public final class GoalTest {
    public static void main(String[] args) {
        CountDesk desk = new CountDesk();
        for (int kind = 0; kind < 5; kind++) {
            Due.is("goal(0, " + kind + ")", desk.goal(0, kind), kind + 1);
            Due.is("sort", desk.node(kind + 1, 0), 4);
            Due.is("told kind", desk.node(kind + 1, 2), kind);
            Due.is("kind", desk.kind(kind + 1), kind);
        }
        int[] refused = {-1, 5, 6, Integer.MIN_VALUE, Integer.MAX_VALUE};
        for (int kind : refused) {
            Due.is("goal(0, " + kind + ")", desk.goal(0, kind), -1);
        }
        Due.is("parts", desk.node(0, 1), 5);

        // Only the GOAL that comes right behind the puts MAKES the variables.
        desk.clear();
        int choice = desk.add(0, 1);
        int row = desk.add(choice, 0);
        desk.put(8);
        int maker = desk.goal(0, 0);
        desk.goal(row, 0);
        desk.take(row, 8, 0, 3);
        desk.take(choice, 8, 1, 3);
        Due.is("maker", maker, 3);
        Due.is("made elsewhere", desk.switches(choice), 8);
        Due.finish();
    }
}
