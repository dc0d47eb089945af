import java.lang.annotation.ElementType;
import java.lang.annotation.Retention;
import java.lang.annotation.RetentionPolicy;
import java.lang.annotation.Target;

/** The section of ../shared/DOC.md whose sentences a class tests, by the words that begin it. */
@Retention(RetentionPolicy.RUNTIME)
@Target(ElementType.TYPE)
@interface Section {
    String value();
}
