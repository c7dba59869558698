"""An independent reading of the document, by brute force where that can be had."""
from fractions import Fraction as F
from itertools import product
from functools import lru_cache
from math import comb
import re
NONE=-1
class Throw(Exception): pass
class Fault(Exception):
    def __init__(s,kind,place): s.kind=kind; s.place=place
RES={'coin','open','wheel','end','again','so','or','and','not','like','comes','shares','place','knots'}
def lex(b,most):
    """list of (sort,val,place); last is ('eof',None,place) or ('long',None,most)"""
    toks=[];i=0;n=len(b)
    s=b.decode('latin1')
    while True:
        while i<n and s[i] in ' \n': i+=1
        if i>=n or i>=most: break
        m=re.compile(r'[a-z0-9]+').match(s,i)
        if m:
            t=m.group()
            if re.fullmatch('[a-z]{1,6}',t): toks.append(('w',t,i))
            elif re.fullmatch('[0-9]{1,3}',t): toks.append(('n',int(t),i))
            else: toks.append(('bad',t,i))
            i=m.end()
        else:
            toks.append(('s',s[i],i) if s[i] in ';:()<=>.' else ('bad',s[i],i)); i+=1
    if n>most: toks.append(('long',None,most))
    else: toks.append(('eof',None,n))
    return toks
class P:
    def __init__(s,b,most): s.t=lex(b,most); s.i=0
    @property
    def c(s): return s.t[s.i]
    def fault(s,k): raise Fault(k,s.c[2])
    def isw(s,w): return s.c[0]=='w' and s.c[1]==w
    def iss(s,w): return s.c[0]=='s' and s.c[1]==w
    def adv(s): t=s.c; s.i+=1; return t
    def sign(s,x):
        if not s.iss(x): s.fault(1)
        s.adv()
    def name(s):
        if s.c[0]!='w' or s.c[1] in RES: s.fault(1)
        return s.c[1]
    def num(s,ok):
        if s.c[0]!='n': s.fault(1)
        if not ok(s.c[1]): s.fault(2)
        return s.adv()[1]
    def done(s):
        if s.c[0]!='eof': s.fault(1)
class Table:
    def __init__(s): s.things=[]; s.ends=[]
    # things: (name, kind, parts, openflag); ends: (name, None|(k,m))
    def thing(s,n): return next((i for i,t in enumerate(s.things) if t[0]==n),None)
    def end(s,n): return next((i for i,t in enumerate(s.ends) if t[0]==n),None)
    def open(s): return next((i for i,t in enumerate(s.things) if t[3]),None)
def parse_table(b):
    p=P(b,500); T=Table()
    while p.c[0] not in('eof','long'):
        def nm():
            p.adv(); n=p.name()
            if T.thing(n) is not None or T.end(n) is not None: p.fault(3)
            p.adv(); return n
        if p.isw('coin'):
            if len(T.things)==3: p.fault(4)
            n=nm()
            if p.isw('open'):
                if T.open() is not None: p.fault(3)
                p.adv(); T.things.append((n,'coin',[0,0],True))
            else:
                k=p.num(lambda v:v<=9); m=p.num(lambda v:2<=v<=9 and v>=k)
                T.things.append((n,'coin',[k,m-k],False))
        elif p.isw('wheel'):
            if len(T.things)==3: p.fault(4)
            n=nm(); parts=[]
            while True:
                if len(parts)>=2 and p.iss(';'): break
                if p.c[0]!='n': p.fault(1)
                v=p.c[1]
                if not 1<=v<=9 or sum(parts)+v>9: p.fault(2)
                if len(parts)==6: p.fault(4)
                parts.append(v); p.adv()
            T.things.append((n,'wheel',parts,False))
        elif p.isw('end'):
            if len(T.ends)==6: p.fault(4)
            n=nm(); sh=None
            if not p.iss(';'):
                k=p.num(lambda v:v<=20); m=p.num(lambda v:1<=v<=20 and v>=k); sh=(k,m)
            T.ends.append((n,sh))
        else: p.fault(1)
        p.sign(';')
    p.done()
    return T
# tree: ('e',i) | ('a',) | ('t',i,[kids])
def parse_way(b,T):
    p=P(b,600); cnt=[0]
    def node(d):
        if p.isw('again'): leaf=('a',)
        else:
            n=p.name(); e=T.end(n); t=T.thing(n)
            if e is None and t is None: p.fault(3)
            if t is not None:
                if d==6 or cnt[0]==80: p.fault(4)
                cnt[0]+=1; p.adv(); p.sign('('); kids=[]; S=len(T.things[t][2])
                while True:
                    kids.append(node(d+1))
                    if p.iss(':'):
                        if len(kids)>=S: p.fault(5)
                        p.adv()
                    elif p.iss(')'):
                        if len(kids)<S: p.fault(5)
                        p.adv(); return ('t',t,kids)
                    else: p.fault(1)
            leaf=('e',e)
        if cnt[0]==80: p.fault(4)
        cnt[0]+=1; p.adv(); return leaf
    r=node(0); p.done(); return r
def flat(tree):
    out=[]
    def go(n):
        k=len(out); out.append([n,[]])
        if n[0]=='t':
            for c in n[2]: out[k][1].append(go(c))
        return k
    if tree: go(tree)
    return out
def depth(n): return 0 if n[0]!='t' else 1+max(map(depth,n[2]))
def text(n,T):
    if n[0]=='a': return 'again'
    if n[0]=='e': return T.ends[n[1]][0]
    return T.things[n[1]][0]+'('+':'.join(text(c,T) for c in n[2])+')'
def uses(n,t): return n[0]=='t' and (n[1]==t or any(uses(c,t) for c in n[2]))
def probs(T,t,bend):
    _,_,parts,o=T.things[t]
    if o: return [bend,1-bend]
    return [F(x,sum(parts)) for x in parts]
def spread(n,T,bend):
    """dict leaf->prob, mean throws"""
    if n[0]!='t': return {n:F(1)},F(0)
    d={};m=F(1)
    for q,c in zip(probs(T,n[1],bend),n[2]):
        dd,mm=spread(c,T,bend); m+=q*mm
        for k,v in dd.items(): d[k]=d.get(k,0)+q*v
    return d,m
def pmul(a,b):
    r=[F(0)]*(len(a)+len(b)-1)
    for i,x in enumerate(a):
        for j,y in enumerate(b): r[i+j]+=x*y
    return r
def padd(a,b):
    n=max(len(a),len(b)); return [(a[i] if i<len(a) else 0)+(b[i] if i<len(b) else 0) for i in range(n)]
def poly(n,T,target):
    if n[0]!='t': return [F(1 if n==target else 0)]
    _,_,parts,o=T.things[n[1]]
    qs=[[F(0),F(1)],[F(1),F(-1)]] if o else [[F(x,sum(parts))] for x in parts]
    r=[F(0)]
    for q,c in zip(qs,n[2]): r=padd(r,pmul(q,poly(c,T,target)))
    return r
def trim(p):
    p=list(p)
    while p and p[-1]==0: p.pop()
    return p
def parse_sentence(b,T):
    p=P(b,200); cnt=[0]
    def cond(d):
        r=[alls(d)]
        while p.isw('or'): p.adv(); r.append(alls(d))
        return ('or',r)
    def alls(d):
        r=[one(d)]
        while p.isw('and'): p.adv(); r.append(one(d))
        return ('and',r)
    def one(d):
        if not(p.iss('(') or p.c[0]=='w' and p.c[1] in('not','like','comes','shares','place','knots')): p.fault(1)
        if cnt[0]==20 or d==8: p.fault(4)
        cnt[0]+=1; t=p.adv()[1]
        if t=='not': return ('not',one(d+1))
        if t=='(':
            r=cond(d+1); p.sign(')'); return r
        if t=='like':
            n=p.name(); e=T.end(n)
            if e is None: p.fault(3)
            p.adv(); return ('like',e)
        if t in('comes','shares'): return (t,)
        if not(p.c[0]=='s' and p.c[1] in '<=>'): p.fault(1)
        s=p.adv()[1]
        if p.c[0]!='n': p.fault(1)
        return (t,s,p.adv()[1])
    r=cond(0); p.done(); return r,cnt[0]
def pairs(r): return [1 if r[i]=='h' else 0 for i in range(0,len(r)-1,2) if r[i]!=r[i+1]]
def spared(r):
    if len(r)<2: return []
    pr=[(r[i],r[i+1]) for i in range(0,len(r)-1,2)]
    return pairs(r)+spared(''.join('h' if a!=b else 't' for a,b in pr))+spared(''.join(a for a,b in pr if a==b))
def pasts(r):
    out=[]
    for c in 'ht':
        out+=pairs(''.join(r[i+1] for i in range(len(r)-1) if r[i]==c)[:-1])
    return out
def bitsof(rank,c):
    left=rank
    for j in range(20,-1,-1):
        if c>>j&1:
            if left<1<<j: return [left>>i&1 for i in range(j-1,-1,-1)]
            left-=1<<j
@lru_cache(None)
def rowsof(n,h):
    return {''.join(r):i for i,r in enumerate(x for x in product('th',repeat=n) if x.count('h')==h)}
def counted(r):
    rows=rowsof(len(r),r.count('h')); return bitsof(rows[r],len(rows))
@lru_cache(None)
def bitsum(n,h):
    c=comb(n,h); return sum(len(bitsof(i,c)) for i in range(c))
@lru_cache(None)
def countedMean(n,k,m):
    return sum(F(k,m)**h*F(m-k,m)**(n-h)*bitsum(n,h) for h in range(n+1))
@lru_cache(None)
def runcount(h,t,runs,last):
    """rows with h heads and t tails, exactly runs runs ending in last"""
    if h<0 or t<0 or runs<1: return 0
    if (h,t)==((1,0) if last=='h' else (0,1)): return 1 if runs==1 else 0
    a,b=(h-1,t) if last=='h' else (h,t-1)
    if a<0 or b<0: return 0
    return runcount(a,b,runs,last)+runcount(a,b,runs-1,'t' if last=='h' else 'h')
@lru_cache(None)
def best(coins,):
    """coins: tuple of (thing,k,m)"""
    cs={t:(k,m) for t,k,m in coins}
    leaves=[('e',0),('e',1),('a',)]
    opts=list(leaves)
    for t,_,_ in coins:
        for a in leaves:
            for b in leaves: opts.append(('t',t,(a,b)))
    def sp(n):
        if n[0]!='t': return (F(n==('e',0)),F(n==('e',1)),F(n==('a',)),F(0))
        k,m=cs[n[1]]; q=F(k,m); a=spc(n[2][0]); b=spc(n[2][1])
        return tuple(q*x+(1-q)*y+(1 if i==3 else 0) for i,(x,y) in enumerate(zip(a,b)))
    @lru_cache(None)
    def spc(n): return sp(n)
    res=None
    for t,_,_ in coins:
        for a in opts:
            for b in opts:
                w=('t',t,(a,b)); x,y,g,m=sp(w)
                if g==1: continue
                if x/(1-g)==F(1,2)==y/(1-g):
                    mm=m/(1-g)
                    if res is None or mm<res[1]: res=(w,mm)
    return res
def listify(n): return n if n[0]!='t' else ('t',n[1],[listify(c) for c in n[2]])
def tupl(n): return n if n[0]!='t' else ('t',n[1],tuple(tupl(c) for c in n[2]))
@lru_cache(None)
def fewest(shares):
    M=shares[0][1]; s=F(0)
    for k,m in shares:
        if k==m: continue
        r=k
        for i in range(1,400):
            r*=2
            if r>=m: r-=m; s+=F(i,2**i)
    return s.limit_denominator(10**9)
def i32(x):
    x&=0xffffffff
    return x-(1<<32) if x>>31 else x
class Model:
    def __init__(s):
        s.tape=b''; s.T=Table(); s.tid=0; s.ids=0; s.W=None; s.S=None; s.f=0; s.jud=None; s.bits=None
        s.tk=NONE; s.rn=None; s.bst=None; s.txt=b''; s.ts=NONE; s.img=[None,None]
    def feed(s,*v):
        if len(s.tape)+20>640: return NONE
        for x in v: s.tape+=(x&0xffffffff).to_bytes(4,'big')
        return len(s.tape)
    def end(s,n):
        if n<0 or n>len(s.tape): return 0
        s.tape=s.tape[:n]; return 1
    def takes(s): t=s.tape; s.tape=b''; return t
    def table(s):
        try: T=parse_table(s.takes())
        except Fault as e: s.f=e.kind; return -1-e.place
        s.f=0; s.ids+=1; s.tid=s.ids; s.T=T; s.W=s.S=None
        return len(T.things)+len(T.ends)
    def fault(s): return s.f
    def thing(s,t,w):
        if not 0<=t<len(s.T.things) or not 0<=w<=2: raise Throw
        x=s.T.things[t]; return [len(x[2]),sum(x[2]),int(x[3])][w]
    def side(s,t,d):
        if not 0<=t<len(s.T.things) or not 0<=d<len(s.T.things[t][2]): return NONE
        return s.T.things[t][2][d]
    def share(s,e,w):
        if not 0<=e<len(s.T.ends) or not 0<=w<=1 or s.T.ends[e][1] is None: return NONE
        return s.T.ends[e][1][w]
    def way(s):
        try: W=parse_way(s.takes(),s.T)
        except Fault as e: s.f=e.kind; return -1-e.place
        s.f=0; s.W=W; return len(flat(W))
    def nd(s,k):
        f=flat(s.W); return f[k] if 0<=k<len(f) else None
    def node(s,k):
        n=s.nd(k); return NONE if n is None else {'e':0,'a':1,'t':2}[n[0][0]]
    def nodeOf(s,k):
        n=s.nd(k); return NONE if n is None or n[0][0]=='a' else n[0][1]
    def next(s,k,d):
        n=s.nd(k); return n[1][d] if n is not None and 0<=d<len(n[1]) else NONE
    def deep(s): return depth(s.W) if s.W else 0
    def hasopen(s): o=s.T.open(); return o is not None and uses(s.W,o)
    def fr(s,f,w):
        if w not in(0,1): raise Throw
        return f.numerator if w==0 else f.denominator
    def chance(s,e,w):
        if not 0<=e<len(s.T.ends) or w not in(0,1) or not s.W or s.hasopen(): raise Throw
        d,m=spread(s.W,s.T,F(1,3)); g=d.get(('a',),0)
        if g==1: raise Throw
        return s.fr(F(d.get(('e',e),0))/(1-g),w)
    def chanceAt(s,e,k,m,w):
        if not 0<=e<len(s.T.ends) or not 1<=m<=9 or not 0<=k<=m or w not in(0,1) or not s.W: raise Throw
        d,_=spread(s.W,s.T,F(k,m)); g=d.get(('a',),0)
        if g==1: raise Throw
        return s.fr(F(d.get(('e',e),0))/(1-g),w)
    def mean(s,k,m,w):
        if not 1<=m<=9 or not 0<=k<=m or w not in(0,1) or not s.W: raise Throw
        d,mm=spread(s.W,s.T,F(k,m)); g=d.get(('a',),0)
        if g==1: raise Throw
        return s.fr(F(mm)/(1-g),w)
    def poly(s,e,i,w):
        if not s.W or not -1<=e<len(s.T.ends) or not 0<=i<=6: raise Throw
        p=poly(s.W,s.T,('a',) if e==-1 else ('e',e))
        return s.fr(F(p[i]) if i<len(p) else F(0),w)
    def pl(s,e): return trim(poly(s.W,s.T,('e',e)))
    def like(s,a,b):
        n=len(s.T.ends)
        if not 0<=a<n or not 0<=b<n or not s.W: return NONE
        return int(s.pl(a)==s.pl(b))
    def even(s):
        if not s.W or not s.T.ends: return NONE
        ps=[s.pl(e) for e in range(len(s.T.ends))]
        return int(all(p==ps[0] for p in ps) and all(ps))
    def evening(s):
        b=s.takes()
        if not s.W: return -1000
        p=P(b,600); L=[]
        try:
            while p.c[0] not in('eof','long'):
                if p.isw('so'):
                    p.adv(); n=p.name(); e=s.T.end(n)
                    if e is None: p.fault(3)
                    p.adv(); p.sign(';'); L.append(('so',e)); break
                n=p.name(); t=s.T.thing(n)
                if t is None: p.fault(3)
                p.adv(); v=p.num(lambda v:True); p.sign(';'); L.append(('t',t,v))
            p.done()
        except Fault as f: s.f=f.kind; return -2-f.place
        s.f=0
        cur=s.W; new=True; thr=0; rounds=0; why=0; wl=NONE
        for i,l in enumerate(L):
            if l[0]=='so':
                if cur[0]!='e': why=4
                elif cur[1]!=l[1]: why=5
            else:
                if cur[0]=='e': why=1
                elif cur[0]!='t' or cur[1]!=l[1]: why=2
                elif l[2]>=len(cur[2]): why=3
            if why: wl=i; break
            if l[0]=='t':
                thr+=1
                if new: rounds+=1; new=False
                cur=cur[2][l[2]]
                if cur[0]=='a': cur=s.W; new=True
        s.jud=[why,thr,rounds,cur[1] if cur[0]=='e' else NONE]
        return wl
    def judged(s,w): return s.jud[w] if s.jud and 0<=w<4 else NONE
    def row(s,a,b):
        t=s.takes()
        if not a<=len(t)<=b or any(c not in b'ht' for c in t): return None
        return t.decode()
    def bt(s,a,b,f):
        r=s.row(a,b)
        if r is None: return NONE
        s.bits=f(r); return len(s.bits)
    def pairs(s): return s.bt(0,600,pairs)
    def spared(s): return s.bt(0,600,spared)
    def pasts(s): return s.bt(0,600,pasts)
    def counted(s): return s.bt(1,16,counted)
    def bit(s,i): return s.bits[i] if s.bits is not None and 0<=i<len(s.bits) else NONE
    def countedMean(s,n,k,m,w):
        if not 1<=n<=16 or not 2<=m<=9 or not 0<=k<=m: raise Throw
        return s.fr(F(countedMean(n,k,m)),w)
    def shs(s):
        x=[e[1] for e in s.T.ends]
        if not x or None in x or len({m for k,m in x})!=1 or sum(k for k,m in x)!=x[0][1]: return None
        return tuple(x)
    def shared(s):
        r=s.row(0,600); x=s.shs()
        if r is None or x is None: return -2
        M=x[0][1]
        for e,(k,m) in enumerate(x):
            if k==m: s.tk=0; return e
        d=0
        for i,c in enumerate(r):
            d=2*d+(c=='h')
            for e,(k,m) in enumerate(x):
                if (k*2**(i+1)//m)%2:
                    d-=1
                    if d<0: s.tk=i+1; return e
        return NONE
    def took(s): return s.tk
    def fewest(s,w):
        x=s.shs()
        if x is None: raise Throw
        return s.fr(fewest(x),w)
    def near(s,n):
        x=s.shs(); c=[2**n*k//m for k,m in x]; r=[2**n*k%m for k,m in x]
        left=2**n-sum(c)
        for e in sorted(range(len(x)),key=lambda e:(-r[e],e))[:left]: c[e]+=1
        return c
    def nearest(s,n,e):
        if s.shs() is None or not 0<=n<=20 or not 0<=e<len(s.T.ends): return NONE
        return s.near(n)[e]
    def off(s,n,w):
        if s.shs() is None or not 0<=n<=20: raise Throw
        return s.fr(sum(abs(F(c,2**n)-F(k,m)) for c,(k,m) in zip(s.near(n),s.shs()))/2+F(0),w)
    def mixed(s,st,rest,w):
        if st<1 or st>=1<<len(s.T.things): raise Throw
        ts=[t for i,t in enumerate(s.T.things) if st>>i&1]
        if any(t[3] for t in ts) or len({len(t[2]) for t in ts})!=1: raise Throw
        S=len(ts[0][2])
        if not 0<=rest<S: raise Throw
        tot=F(0)
        for combo in product(range(S),repeat=len(ts)):
            if sum(combo)%S==rest:
                q=F(1)
                for c,t in zip(combo,ts): q*=F(t[2][c],sum(t[2]))
                tot+=q
        return s.fr(tot,w)
    def luck(s,n,k,w):
        if not 1<=n<=60 or not 0<=k<=n: raise Throw
        return s.fr(F(sum(comb(n,j) for j in range(n+1) if abs(F(n,2)-j)>=abs(F(n,2)-k)),2**n),w)
    def runs(s):
        r=s.row(1,60)
        if r is None: return NONE
        n=1+sum(a!=b for a,b in zip(r,r[1:])); h=r.count('h'); t=len(r)-h
        s.rn=F(sum(runcount(h,t,i,'h')+runcount(h,t,i,'t') for i in range(1,n+1)),comb(h+t,h))
        return n
    def seldom(s,w):
        if s.rn is None: raise Throw
        return s.fr(s.rn,w)
    def best(s):
        if len(s.T.ends)<2: return NONE
        b=best(tuple((i,t[2][0],sum(t[2])) for i,t in enumerate(s.T.things) if t[1]=='coin' and not t[3]))
        if b is None: return NONE
        s.bst=(listify(b[0]),b[1],s.tid); return len(flat(s.bst[0]))
    def bestMean(s,w):
        if s.bst is None: raise Throw
        return s.fr(s.bst[1],w)
    def take(s):
        if s.bst is None or s.bst[2]!=s.tid: return 0
        s.W=s.bst[0]; return 1
    def write(s):
        if not s.W: return NONE
        s.txt=text(s.W,s.T).encode(); return len(s.txt)
    def byteAt(s,i): return s.txt[i] if 0<=i<len(s.txt) else NONE
    def cast1(s,n,seed):
        x=seed; cur=s.W; c=0
        while c<n and cur[0]=='t':
            parts=s.T.things[cur[1]][2]
            x=i32(x*1103515245+12345); d=((x&0xffffffff)>>8)%sum(parts)
            lab=[i for i,q in enumerate(parts) for _ in range(q)]
            cur=cur[2][lab[d]]; c+=1
            if cur[0]=='a': cur=s.W
        return (cur[1] if cur[0]=='e' else NONE),c
    def cast(s,n,seed):
        if not 1<=n<=400 or not s.W or s.hasopen(): return -2
        r,s.ts=s.cast1(n,seed); return r
    def tosses(s): return s.ts
    def casts(s,n,seed,e):
        if not 1<=n<=200 or not 0<=e<len(s.T.ends) or not s.W or s.hasopen(): return NONE
        return sum(s.cast1(400,i32(seed+i))[0]==e for i in range(n))
    def sentence(s):
        try: S=parse_sentence(s.takes(),s.T)
        except Fault as f: s.f=f.kind; return -1-f.place
        s.f=0; s.S=S; return S[1]
    def holds(s,x,e,ks):
        k=x[0]
        if k=='or': return any(s.holds(y,e,ks) for y in x[1])
        if k=='and': return all(s.holds(y,e,ks) for y in x[1])
        if k=='not': return not s.holds(x[1],e,ks)
        if k=='like': return s.pl(e)==s.pl(x[1])
        if k=='comes': return bool(s.pl(e))
        if k=='shares': return s.T.ends[e][1] is not None
        v=e if k=='place' else ks[e]
        return {'<':v<x[2],'=':v==x[2],'>':v>x[2]}[x[1]]
    def said(s,k):
        if not s.S or not s.W or k<-1: return NONE
        ks=[sum(n[0]==('e',e) for n in flat(s.W)) for e in range(len(s.T.ends))]
        L=[e for e in range(len(s.T.ends)) if s.holds(s.S[0],e,ks)]
        if k==-1: return len(L)
        return L[k] if k<len(L) else NONE
    def image(s,k):
        if k not in(0,1): return 0
        s.img[k]=(s.T,s.tid,s.W,s.S); return 1
    def restore(s,k):
        if k not in(0,1) or s.img[k] is None: return 0
        s.T,s.tid,s.W,s.S=s.img[k]; return 1
    def count(s,w):
        if w==3: o=s.T.open(); return NONE if o is None else o
        return {0:len(s.T.things),1:len(s.T.ends),2:len(flat(s.W)) if s.W else 0,4:len(s.tape)}.get(w,NONE)
