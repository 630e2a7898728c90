import java.lang.annotation.ElementType;
import java.lang.annotation.Retention;
import java.lang.annotation.RetentionPolicy;
import java.lang.annotation.Target;

/** The words of the document that a test asks; SentencesTest looks whether they stand there. */
@Retention(RetentionPolicy.RUNTIME)
@Target(ElementType.METHOD)
@interface Says {
    /** The number of the promise in which they stand; TERMS, or WHAT for 'What it is'. */
    int in();

    String[] value();

    int TERMS = 0;
    int WHAT = -1;
}
