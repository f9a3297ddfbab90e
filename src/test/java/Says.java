import java.lang.annotation.ElementType;
import java.lang.annotation.Retention;
import java.lang.annotation.RetentionPolicy;
import java.lang.annotation.Target;

/** Which promise and which sentence of the document a test is for, and which boundary case it looks at. */
@Retention(RetentionPolicy.RUNTIME)
@Target(ElementType.METHOD)
@interface Says {
    int promise();

    /** In the document's own words; they stand under the promise, in 'What it is' or in 'Terms'. */
    String sentence();

    String edge();
}
