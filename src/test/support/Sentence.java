import java.lang.annotation.Retention;
import java.lang.annotation.RetentionPolicy;

/** The sentence of the document that a test is of. */
@Retention(RetentionPolicy.RUNTIME)
@interface Sentence {
    String value();
}
