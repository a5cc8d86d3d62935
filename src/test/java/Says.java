import java.lang.annotation.Retention;
import java.lang.annotation.RetentionPolicy;

/** The sentence of the document for which a test stands, word for word. */
@Retention(RetentionPolicy.RUNTIME)
@interface Says {
    /** The heading under which it stands: "What it is", "Terms", or "Promise n". */
    String at();

    String words();
}
