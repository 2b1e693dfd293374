import java.lang.annotation.Retention;
import java.lang.annotation.RetentionPolicy;

/** The document's words that a test holds the class to; the test's name tells where they stand (see Edge). */
@Retention(RetentionPolicy.RUNTIME)
@interface Says {
    String[] value();
}
