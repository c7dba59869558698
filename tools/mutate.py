"""Changes the class at one place at a time and tells which changed programs no test of the edges notices:
python3 tools/mutate.py [FIRST_LINE LAST_LINE]. A change of the whole file takes about a quarter of an hour."""
import concurrent.futures, os, re, shutil, subprocess, sys, tempfile
ROOT = os.path.dirname(os.path.dirname(os.path.abspath(__file__)))
SOURCE = ROOT + '/src/main/java/BentPenny.java'
TESTS = ['EdgesOfTexts', 'EdgesOfTerms', 'EdgesOfChances', 'EdgesOfRows', 'EdgesOfWays', 'EdgesOfSentences']
OTHERS = {'<': ['<=', '>='], '>': ['>=', '<='], '<=': ['<', '>'], '>=': ['>', '<'], '==': ['!='], '!=': ['=='],
          '&&': ['||'], '||': ['&&'], '+': ['-'], '-': ['+'], '*': ['/'], '/': ['*'], '%': ['*'], '&': ['|'],
          '|': ['&'], '^': ['|'], '<<': ['>>'], '>>>': ['>>'], '>>': ['<<'], '+=': ['-='], '-=': ['+='],
          '*=': ['+='], '^=': ['|='], '>>=': ['<<=']}
FAST = '-XX:TieredStopAtLevel=1'


def changes(line):
    """The line, changed at one place, in each way."""
    text = line.strip()
    if text.startswith(('//', '*', '/*', 'import')):
        return
    for m in re.finditer(r'(?<= )(\S+)(?= )', line):
        for other in OTHERS.get(m.group(), []):
            yield line[:m.start()] + other + line[m.end():]
    for m in re.finditer(r"(?<![\w.'])\d+(?![\w.'])", line):
        for other in (int(m.group()) + 1, int(m.group()) - 1):
            yield line[:m.start()] + str(other) + line[m.end():]
    for m in re.finditer(r'\b(true|false)\b', line):
        yield line[:m.start()] + ('false' if m.group() == 'true' else 'true') + line[m.end():]
    for m in re.finditer(r'(?<!\w)!(?=[\w(])', line):
        yield line[:m.start()] + line[m.end():]
    for m in re.finditer(r'Math\.(min|max)', line):
        yield line[:m.start()] + 'Math.' + ('max' if m.group(1) == 'min' else 'min') + line[m.end():]
    if 'static final' not in line:
        for m in re.finditer(r'\b[A-Z][A-Z_]+\b', line):
            for other in (' + 1)', ' - 1)'):
                yield line[:m.start()] + '(' + m.group() + other + line[m.end():]
    call = re.match(r'^\s+[\w.\[\] +*]+(\(.*\)|\s*[+\-*^]?=\s.*|\+\+|--);$', line)
    if call and not re.match(r'(return|throw|private|int|long|boolean|byte|State|public|final)\b', text):
        yield ';'


def tell(work, lines, at, changed):
    folder = tempfile.mkdtemp(dir=work)
    try:
        with open(folder + '/BentPenny.java', 'w') as out:
            out.write('\n'.join(lines[:at] + [changed] + lines[at + 1:]))
        if subprocess.run(['javac', '-J' + FAST, '-nowarn', '-d', folder, folder + '/BentPenny.java'],
                          capture_output=True).returncode:
            return 'no program'
        try:
            run = subprocess.run(['java', FAST, '-cp', folder + ':' + work, 'Runner'], cwd=ROOT, capture_output=True,
                                 timeout=60)
        except subprocess.TimeoutExpired:
            return 'noticed'
        return 'noticed' if run.returncode else 'not noticed'
    finally:
        shutil.rmtree(folder)


def main():
    lines = open(SOURCE).read().split('\n')
    first, last = (int(sys.argv[1]), int(sys.argv[2])) if len(sys.argv) > 2 else (1, len(lines))
    work = tempfile.mkdtemp()
    with open(work + '/Runner.java', 'w') as out:
        out.write('public class Runner { public static void main(String[] a) {'
                  + ''.join(f' {t}Test.main(a);' for t in TESTS) + ' } }')
    tests = [f'{ROOT}/src/test/java/{name}.java' for name in [t + 'Test' for t in TESTS] + ['Cases', 'Bench']]
    subprocess.run(['javac', '-d', work, SOURCE, work + '/Runner.java'] + tests, check=True)
    todo = [(at, new) for at in range(first - 1, last) for new in changes(lines[at])]
    told = {}
    with concurrent.futures.ThreadPoolExecutor(os.cpu_count()) as pool:
        answers = pool.map(lambda each: tell(work, lines, *each), todo)
        for (at, new), answer in zip(todo, answers):
            told[answer] = told.get(answer, 0) + 1
            if answer == 'not noticed':
                print(f'{at + 1}: {new.strip()}    was    {lines[at].strip()}', flush=True)
    shutil.rmtree(work)
    print(told)


main()
