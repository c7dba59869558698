"""Writes random runs of calls with the answers that model.py gives, for RecordedRunsTest:
python3 tools/fuzz.py SEED RUNS FILE; then java -cp .. RecordedRunsTest FILE"""
import random,sys
from model import *
seed=int(sys.argv[1]); runs=int(sys.argv[2]); R=random.Random(seed)
NAMES=['p','q','w','x','y','z','u','v','aa','bent','wheely','longer','a','b']
def ws(): return R.choice(['','','','',' ',' ','\n','  '])
def gap(): return R.choice([' ',' ',' ','\n','  '])
def gen_table():
    names=NAMES[:]; R.shuffle(names); L=[]
    openat=R.random()<.6
    nt=R.choice([0,1,2,3,3,3]); 
    for i in range(nt):
        n=names.pop()
        if R.random()<.65:
            if openat and R.random()<.5: openat=False; L.append(f'coin{gap()}{n}{gap()}open{ws()};')
            else:
                m=R.randint(2,9); k=R.randint(0,m) if R.random()<.5 else m//2; L.append(f'coin{gap()}{n} {k}{gap()}{m}{ws()};')
        else:
            s=R.randint(2,6); parts=[1]*s
            for _ in range(R.randint(0,9-s)): parts[R.randrange(s)]+=1
            L.append(f'wheel {n} '+' '.join(map(str,parts))+ws()+';')
    ne=R.choice([0,1,2,2,2,3,4,5,6,6])
    mode=R.random()
    if mode<.6 and ne:
        m=R.randint(1,20); cuts=sorted(R.randint(0,m) for _ in range(ne-1)); ks=[b-a for a,b in zip([0]+cuts,cuts+[m])]
        for k in ks: L.append(f'end {names.pop()} {k} {m};')
    else:
        for _ in range(ne):
            if R.random()<.5: L.append(f'end {names.pop()};')
            else:
                m=R.randint(1,20); L.append(f'end {names.pop()} {R.randint(0,m)} {m}{ws()};')
    if R.random()<.3: R.shuffle(L)
    return ws().join(L)
def gen_way(T,d=None,budget=None):
    big=R.random()<.3
    md=R.choice([0,1,2,2,3,3,4,5,6,6]) if not big else 6
    left=[R.choice([10,30,79]) if not big else 82]
    def go(d):
        left[0]-=1
        if T.things and d<md and left[0]>6 and R.random()<.75:
            t=R.randrange(len(T.things)); S=len(T.things[t][2]); left[0]-=0
            return T.things[t][0]+ws()+'('+(ws()+':'+ws()).join(go(d+1) for _ in range(S))+')'
        if T.ends and R.random()<.8: return R.choice(T.ends)[0]
        return 'again' if R.random()<.95 or not T.ends else T.ends[0][0]
    return go(0)
def even_way(T):
    o=T.open()
    if o is None or len(T.ends)<2: return gen_way(T)
    p=T.things[o][0]; x,y=R.sample([e[0] for e in T.ends],2)
    return R.choice([f'{p}({p}(again:{x}):{p}({y}:again))', f'{p}({p}({p}(again:{x}):{p}({y}:again)):{p}({p}({y}:again):{p}(again:{x})))', f'{p}({x}:{y})'])
def gen_evening(T,W):
    L=[]; cur=W
    for _ in range(R.choice([0,1,2,3,5,8,12])):
        if cur is None or not T.things: break
        if R.random()<.12 or cur[0]!='t':
            if cur[0]!='t' and R.random()<.8: break
            t=R.randrange(len(T.things)); L.append(f'{T.things[t][0]} {R.randint(0,7)};'); continue
        s=R.randrange(len(cur[2])) if R.random()<.95 else R.randint(0,9)
        L.append(f'{T.things[cur[1]][0]} {s}{ws()};')
        if s<len(cur[2]):
            cur=cur[2][s]
            if cur[0]=='a': cur=W
    if R.random()<.6 and T.ends:
        e=cur[1] if cur and cur[0]=='e' and R.random()<.7 else R.randrange(len(T.ends))
        L.append(f'so {T.ends[e][0]};')
    return ws().join(L)
def gen_sentence(T):
    def one(d):
        r=R.random()
        if d<R.choice([3,8,9]) and r<.2: return 'not '+one(d+1)
        if d<R.choice([3,8,9]) and r<.4: return '('+ws()+cond(d+1)+')'
        if r<.55 and T.ends: return 'like '+R.choice(T.ends)[0]
        if r<.65: return 'comes'
        if r<.75: return 'shares'
        return R.choice(['place','knots'])+ws()+R.choice('<=>')+ws()+str(R.choice([0,1,1,2,2,3,4,5,10]))
    def alls(d): return ' and '.join(one(d) for _ in range(R.choice([1,1,1,2,3])))
    def cond(d): return ' or '.join(alls(d) for _ in range(R.choice([1,1,1,2,2,4])))
    s=cond(0)
    return s
FRAG=['coin','open','wheel','end','again','so','or','and','not','like','comes','shares','place','knots','p','q','x','y','zz','toolong','1','9','10','20','21','999','1000','0','007',';',':','(',')','<','=','>','.',' ','\n','\t','A','x1','1x','\xff','%']
def mutate(s):
    for _ in range(R.choice([1,1,1,2,3])):
        r=R.random(); i=R.randint(0,len(s))
        if r<.3: s=s[:i]+s[i+R.randint(1,4):]
        elif r<.75: s=s[:i]+R.choice(['',' '])+R.choice(FRAG)+R.choice(['',' '])+s[i:]
        elif r<.85: s=s[:i]
        else:
            j=R.randint(0,len(s)); a,b=min(i,j),max(i,j); s=s[:b]+s[a:b]+s[b:]
    return s
def pad(s,most):
    n=R.choice([most-1,most,most+1,most+3,640])
    if len(s)>=n: return s
    if R.random()<.5:
        i=R.randint(0,len(s)); return s[:i]+(' ' if R.random()<.8 else '\n')*(n-len(s))+s[i:]
    return s+' '*(n-len(s))
cmds=[];exp=[]
class Run:
    def __init__(s): s.m=Model(); s.n=0; cmds.append('new')
    def call(s,name,*a):
        s.n+=1
        cmds.append(' '.join([name]+[str(x) for x in a]))
        try: r=str(int(getattr(s.m,name)(*a)))
        except Throw: r='T:NoSuchElementException'
        exp.append((len(cmds)-1,r))
        return r
    def put(s,t):
        b=t if isinstance(t,bytes) else t.encode('latin1')
        b=b[:640]
        for i in range(0,len(b),20):
            c=b[i:i+20].ljust(20,b'\0')
            s.call('feed',*[int.from_bytes(c[j:j+4],'big',signed=True) for j in range(0,20,4)])
        s.call('end',len(b))
def small(lo,hi): return R.randint(lo,hi) if R.random()<.97 else R.choice([-1000000,-2147483648,2147483647,-5,99,640])
def rnd_text(run):
    T=run.m.T; W=run.m.W
    k=R.random()
    which=R.choice(['table','way','way','way','evening','evening','sentence','sentence'])
    if run.m.T.ends==[] and R.random()<.8: which='table'
    if W is None and which=='evening' and R.random()<.9: which='way'
    if which=='table': t=gen_table(); most=500
    elif which=='way': t=gen_way(T) if R.random()<.85 else even_way(T); most=600
    elif which=='evening': t=gen_evening(T,W); most=600
    else: t=gen_sentence(T); most=200
    if k<.3: t=mutate(t)
    if R.random()<.08: t=pad(t,most)
    if R.random()<.02: t=mutate(t)
    run.put(t); run.call(which); run.call('fault')
    if R.random()<.3: run.call('count',4)
def rnd_row(run):
    which=R.choice(['pairs','spared','pasts','counted','shared','runs'])
    n=R.choice([0,1,2,3,5,8,13,16,17,30,59,60,61,100,300,599,600,601,640]) if R.random()<.6 else R.randint(0,40)
    if which in('counted',) and R.random()<.85: n=R.randint(1,16)
    if which in('runs',) and R.random()<.85: n=R.randint(1,60)
    if which=='shared': n=R.choice([0,1,2,3,4,5,6,10,20])
    p=R.choice([0,.1,.3,.5,.5,.5,.7,.9,1]); t=''.join('h' if R.random()<p else 't' for _ in range(n))
    if R.random()<.05 and t: i=R.randrange(len(t)); t=t[:i]+R.choice('HT hx\n')+t[i+1:]
    run.put(t); r=run.call(which)
    for i in range(R.choice([0,2,4])): run.call('bit',R.randint(-1,max(2,int(r))))
    run.call('took')
    if which=='runs': run.call('seldom',0); run.call('seldom',1)
def q(run):
    T=run.m.T; w=small(-1,2) if R.random()<.1 else R.choice([0,1]); e=small(-1,len(T.ends)); k=R.randint(0,9); m=R.randint(1,9); 
    if R.random()<.85: k=min(k,m)
    c=run.call
    o=R.randrange(34)
    [lambda:c('thing',small(-1,3),small(-1,3)),lambda:c('side',small(-1,3),small(-1,6)),lambda:c('share',e,small(-1,2)),
     lambda:c('node',small(-1,80)),lambda:c('nodeOf',small(-1,30)),lambda:c('next',small(-1,30),small(-1,6)),lambda:c('deep'),
     lambda:c('chance',e,w),lambda:c('chanceAt',e,k,m,w),lambda:c('chanceAt',e,k,m,w),lambda:c('mean',k,m,w),lambda:c('mean',k,m,w),
     lambda:c('poly',e,small(-1,7),w),lambda:c('poly',e,small(-1,7),w),lambda:c('like',e,small(-1,len(T.ends))),lambda:c('even'),
     lambda:c('judged',small(-1,4)),lambda:c('countedMean',small(0,17) if R.random()<.3 else R.randint(1,16),k,m+R.choice([0,1]),w),lambda:c('fewest',w),
     lambda:c('nearest',small(-1,21),e),lambda:c('off',small(-1,21),w),lambda:c('mixed',small(-1,8),small(-1,6),w),
     lambda:c('luck',small(0,61),small(-1,61),w),lambda:c('luck',R.randint(1,60),R.randint(0,20),w),lambda:c('best'),lambda:c('bestMean',w),lambda:c('take'),
     lambda:[c('write')]+[c('byteAt',small(-1,30)) for _ in range(3)],lambda:[c('cast',R.choice([1,2,5,20,400]) if R.random()<.9 else small(0,401),R.randint(-2**31,2**31-1)),c('tosses')],
     lambda:c('casts',R.choice([1,5,20]) if R.random()<.9 else small(0,201),R.randint(-2**31,2**31-1),e),lambda:[c('said',-1),c('said',small(-2,6)),c('said',0)],
     lambda:c('image',small(-1,2)),lambda:[c('restore',small(-1,2)),c('count',2)],lambda:c('count',small(-1,5))][o]()
for r in range(runs):
    run=Run()
    first=R.random()<.9
    if first:
        run.put(gen_table()); run.call('table')
        if R.random()<.9: run.put(gen_way(run.m.T) if R.random()<.8 else even_way(run.m.T)); run.call('way')
    while run.n<430:
        x=R.random()
        if x<.10: rnd_text(run)
        elif x<.15: rnd_row(run)
        elif x<.16 and run.m.T.ends!=[]: 
            run.put(gen_table()); run.call('table'); run.put(gen_way(run.m.T)); run.call('way')
        else: q(run)
dues=dict(exp)
with open(sys.argv[3],'w') as out:
    for i,c in enumerate(cmds):
        out.write((c if c=='new' else c+' = '+dues[i].replace('T:NoSuchElementException','throws'))+'\n')
