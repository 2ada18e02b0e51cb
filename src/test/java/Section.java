import java.lang.annotation.ElementType;
import java.lang.annotation.Retention;
import java.lang.annotation.RetentionPolicy;
import java.lang.annotation.Target;

/** The heading of the document under which the sentences stand that a test class holds. */
@Retention(RetentionPolicy.RUNTIME)
@Target(ElementType.TYPE)
@interface Section {
    String value();
}
