import java.util.function.Consumer;
import java.util.function.Supplier;

/** A call that throws, held against a like object on which it was never made. */
final class Refused {
    private Refused() {
    }

    /** The call throws and changes nothing, the list neither. */
    static void keepingAll(String what, Class<? extends RuntimeException> due,
            Supplier<WeaveCore> made, Consumer<WeaveCore> call) {
        WeaveCore x = made.get();
        Check.fails(what, due, () -> call.accept(x));
        Check.same(what + ": what is then", Picture.of(x), Picture.of(made.get()));
    }

    /** The call throws on a list that was filled, and leaves the object as it was before that. */
    static void emptyingTheList(String what, Class<? extends RuntimeException> due,
            Supplier<WeaveCore> made, Consumer<WeaveCore> filled, Consumer<WeaveCore> call) {
        WeaveCore x = made.get();
        filled.accept(x);
        Check.fails(what, due, () -> call.accept(x));
        Check.same(what + ": what is then", Picture.of(x), Picture.of(made.get()));
    }
}
