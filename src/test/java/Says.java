import java.lang.annotation.ElementType;
import java.lang.annotation.Retention;
import java.lang.annotation.RetentionPolicy;
import java.lang.annotation.Target;

/** The sentence of the document for which a test stands: word by word, so that it can be found there. */
@Retention(RetentionPolicy.RUNTIME)
@Target(ElementType.METHOD)
@interface Says {
  /** 1 to 47; 0 for "Terms" and what stands ahead of them. */
  int promise();

  String text();
}
