import java.io.ByteArrayOutputStream;
import java.io.IOException;
import java.io.InputStream;
import java.io.OutputStream;
import java.net.URI;
import java.util.ArrayList;
import java.util.List;
import java.util.Map;
import java.util.TreeMap;
import javax.tools.Diagnostic;
import javax.tools.DiagnosticCollector;
import javax.tools.FileObject;
import javax.tools.ForwardingJavaFileManager;
import javax.tools.JavaCompiler;
import javax.tools.JavaFileManager;
import javax.tools.JavaFileObject;
import javax.tools.SimpleJavaFileObject;
import javax.tools.ToolProvider;

/**
 * A class compiled from a text, in a room of its own: it stands there in front of the one of the same name,
 * and the tests are loaded anew beside it, so that they ask it and not the other.
 */
final class Built extends ClassLoader {
    private final Map<String, byte[]> classes;

    private Built(Map<String, byte[]> classes) {
        super(Built.class.getClassLoader());
        this.classes = classes;
    }

    /** Says why it cannot be compiled by an IllegalStateException. */
    static Built of(String name, String source) {
        JavaCompiler compiler = ToolProvider.getSystemJavaCompiler();
        DiagnosticCollector<JavaFileObject> said = new DiagnosticCollector<>();
        Outputs outputs = new Outputs(compiler.getStandardFileManager(said, null, null));
        List<String> options = List.of("-proc:none", "-cp", System.getProperty("java.class.path"));
        if (!compiler.getTask(null, outputs, said, options, null, List.of(new Source(name, source))).call()) {
            List<String> why = new ArrayList<>();
            for (Diagnostic<? extends JavaFileObject> d : said.getDiagnostics()) {
                why.add(d.toString());
            }
            throw new IllegalStateException(String.join("\n", why));
        }
        return new Built(outputs.classes());
    }

    @Override
    protected Class<?> loadClass(String name, boolean resolve) throws ClassNotFoundException {
        synchronized (getClassLoadingLock(name)) {
            Class<?> loaded = findLoadedClass(name);
            if (loaded != null) {
                return loaded;
            }
            byte[] bytes = name.contains(".") ? null : bytesOf(name);
            return bytes == null ? super.loadClass(name, resolve) : defineClass(name, bytes, 0, bytes.length);
        }
    }

    private byte[] bytesOf(String name) throws ClassNotFoundException {
        if (classes.containsKey(name)) {
            return classes.get(name);
        }
        try (InputStream in = getParent().getResourceAsStream(name + ".class")) {
            return in == null ? null : in.readAllBytes();
        } catch (IOException e) {
            throw new ClassNotFoundException(name, e);
        }
    }

    private static final class Source extends SimpleJavaFileObject {
        private final String text;

        Source(String name, String text) {
            super(URI.create("string:///" + name + ".java"), Kind.SOURCE);
            this.text = text;
        }

        @Override
        public CharSequence getCharContent(boolean ignoreEncodingErrors) {
            return text;
        }
    }

    private static final class Output extends SimpleJavaFileObject {
        private final ByteArrayOutputStream bytes = new ByteArrayOutputStream();

        Output(String name) {
            super(URI.create("bytes:///" + name + ".class"), Kind.CLASS);
        }

        @Override
        public OutputStream openOutputStream() {
            return bytes;
        }
    }

    private static final class Outputs extends ForwardingJavaFileManager<JavaFileManager> {
        private final Map<String, Output> made = new TreeMap<>();

        Outputs(JavaFileManager files) {
            super(files);
        }

        @Override
        public JavaFileObject getJavaFileForOutput(Location location, String name, JavaFileObject.Kind kind, FileObject sibling) {
            Output output = new Output(name);
            made.put(name, output);
            return output;
        }

        Map<String, byte[]> classes() {
            Map<String, byte[]> classes = new TreeMap<>();
            made.forEach((name, output) -> classes.put(name, output.bytes.toByteArray()));
            return classes;
        }
    }
}
