/-! THE PLAIN MACHINE: what the methods do, said over numbers alone (an address, a place: a number). 'gx_stp' is one instruction, 'gx_wp' a walk up to the places where it is cut, as a proposition. -/
abbrev vi (x : Int) : AV := (0, x)
abbrev vl (x : Int) : AV := (1, x)
abbrev vr (x : Int) : AV := (2, x)
abbrev vn : AV := (3, 0)
abbrev ve (x : Int) : AV := (4, x)
def w32 (x : Int) : Int := (Int32.ofInt x).toInt
def w64 (x : Int) : Int := (Int64.ofInt x).toInt
def w8 (x : Int) : Int := (Int32.ofInt x).toInt8.toInt32.toInt
def w16 (x : Int) : Int := ((Int32.ofInt x).toUInt32 % 65536).toInt32.toInt
def iadd (x y : Int) : Int := w32 (x + y)
def isub (x y : Int) : Int := w32 (x - y)
def imul (x y : Int) : Int := w32 (x * y)
def idiv (x y : Int) : Int := (Int32.ofInt x / Int32.ofInt y).toInt
def irem (x y : Int) : Int := (Int32.ofInt x - Int32.ofInt x / Int32.ofInt y * Int32.ofInt y).toInt
def iand (x y : Int) : Int := (Int32.ofInt x &&& Int32.ofInt y).toInt
def ior (x y : Int) : Int := (Int32.ofInt x ||| Int32.ofInt y).toInt
def ishl (x y : Int) : Int := (Int32.ofInt x <<< (Int32.ofInt y &&& 31)).toInt
def ishr (x y : Int) : Int := (Int32.ofInt x >>> (Int32.ofInt y &&& 31)).toInt
def ladd (x y : Int) : Int := w64 (x + y)
def lmul (x y : Int) : Int := w64 (x * y)
def lor (x y : Int) : Int := (Int64.ofInt x ||| Int64.ofInt y).toInt
def lshl (x y : Int) : Int := (Int64.ofInt x <<< ((Int32.ofInt y).toInt64 &&& 63)).toInt
def lcmp (x y : Int) : Int := if y < x then 1 else if x = y then 0 else -1
def imax (x y : Int) : Int := if x < y then y else x
def imin (x y : Int) : Int := if y < x then y else x
def zr (M : MEM) (a : Int) (v : Int) : MEM := fun q i => if q = a then v else M q i
def stm (M : MEM) (a i v : Int) : MEM := fun q j => if q = a ∧ j = i then v else M q j
def cpm (M : MEM) (a sp b dp n : Int) : MEM := fun q j => if q = b ∧ dp ≤ j ∧ j < dp + n then M a (sp + (j - dp)) else M q j
def shk (sh : SHP) (a : Int) : Nat × Nat := match a with
  | .ofNat n => sh.getD n (999, 0)
  | .negSucc _ => (999, 0)
def ook (sh : SHP) (ci : Nat) (a : Int) (P : Prop) : Prop := match Nat.beq (shk sh a).1 ci with
  | true => P
  | false => False
def aok (sh : SHP) (kd : Nat) (a i : Int) (P : Prop) : Prop := match Nat.beq (shk sh a).1 kd with
  | true => 0 ≤ i ∧ i < Int.ofNat (shk sh a).2 ∧ P
  | false => False
def bq (x : Int) (P : Prop) : Prop := match x with
  | .ofNat 0 => P
  | .ofNat 1 => P
  | _ => (x = 0 ∨ x = 1) ∧ P
def pI (s : List AV) (f : Int → List AV → Prop) : Prop := match s with
  | (0, x) :: t => f x t
  | _ => False
def pL (s : List AV) (f : Int → List AV → Prop) : Prop := match s with
  | (1, x) :: t => f x t
  | _ => False
def pR (s : List AV) (f : Int → List AV → Prop) : Prop := match s with
  | (2, x) :: t => f x t
  | _ => False
def pE (s : List AV) (f : Int → List AV → Prop) : Prop := match s with
  | (4, x) :: t => f x t
  | _ => False
def pII (s : List AV) (f : Int → Int → List AV → Prop) : Prop := pI s fun y t => pI t fun x t => f x y t
def pLL (s : List AV) (f : Int → Int → List AV → Prop) : Prop := pL s fun y t => pL t fun x t => f x y t
def popn : Nat → List AV → List AV → (List AV → List AV → Prop) → Prop
  | 0, acc, s, f => f acc s
  | n + 1, acc, v :: s, f => popn n (v :: acc) s f
  | _ + 1, _, [], _ => False
def catv (v : AV) : Nat := match v.1 with
  | 1 => 2
  | _ => 1
def cats : List AV → Nat
  | [] => 0
  | v :: s => catv v + cats s
def one1 (v : AV) : Bool := match v.1 with
  | 0 => true
  | 2 => true
  | 4 => true
  | _ => false
/-- a store of one word: it spoils a long that began a place ahead -/
def lst1 : List AV → Nat → AV → List AV
  | [], _, _ => []
  | _ :: t, 0, v => v :: t
  | a :: t, 1, v => (match a.1 with | 1 => vn | _ => a) :: lst1 t 0 v
  | a :: t, i + 2, v => a :: lst1 t (i + 1) v
/-- a store of two words -/
def lst2 : List AV → Nat → AV → List AV
  | [], _, _ => []
  | [_], _, _ => []
  | _ :: _ :: t, 0, v => v :: vn :: t
  | a :: t, 1, v => (match a.1 with | 1 => vn | _ => a) :: lst2 t 0 v
  | a :: t, i + 2, v => a :: lst2 t (i + 1) v
def lgt : List AV → Nat → AV
  | [], _ => vn
  | v :: _, 0 => v
  | _ :: t, i + 1 => lgt t i
def gI (v : AV) (f : Int → Prop) : Prop := match v with
  | (0, x) => f x
  | _ => False
def gL (v : AV) (f : Int → Prop) : Prop := match v with
  | (1, x) => f x
  | _ => False
def gR (v : AV) (f : AV → Prop) : Prop := match v with
  | (2, x) => f (2, x)
  | (4, x) => f (4, x)
  | _ => False
def pick (r : List Nat) (i : Nat) : Nat := match r, i with
  | [], _ => 0
  | a :: _, 0 => a
  | _ :: t, i + 1 => pick t i
def tsw (lo : Int) (x : Int) (J : Nat → Prop) (d : Nat) : List Nat → Prop
  | [] => J d
  | t :: r => if x = lo then J t else tsw (lo + 1) x J d r
def lsw (x : Int) (J : Nat → Prop) (d : Nat) : List (Int × Int) → List Nat → Prop
  | [], _ => J d
  | _, [] => J d
  | (k, _) :: ps, t :: r => if x = k then J t else lsw x J d ps r
def bud (b : Bool) (P : Prop) : Prop := match b with
  | true => P
  | false => False
/-- what a call's answer is to its caller -/
def rtk (rt : Nat) (s : List AV) (k : List AV → SHP → MEM → MEM → Prop) : RES := match rt with
  | 9 => fun _ sh R M => k s sh R M
  | 5 => fun x sh R M => (x = 0 ∨ x = 1) → k ((0, x) :: s) sh R M
  | _ => fun x sh R M => k ((rt, x) :: s) sh R M
def strB : Nat → List Int
  | 1 => [115, 116, 97, 114, 116, 32, 106, 111, 105, 110, 32, 115, 112, 108, 105, 116, 32, 111, 100, 100, 32, 100, 117, 115, 107, 32, 112, 111, 110, 100, 32, 102, 111, 120, 32, 98, 114, 101, 97, 100, 32, 119, 105, 110, 100, 32, 119, 97, 121, 32, 99, 108, 97, 105, 109, 32, 100, 114, 97, 119, 32, 116, 111, 32, 105, 110, 32, 97, 116, 32, 111, 114, 32, 97, 110, 100, 32, 110, 111, 116, 32]
  | 2 => [59, 40, 41, 60, 62, 61, 43, 45, 42, 47, 37]
  | _ => []
def idxOf (x : Int) : List Int → Int → Int
  | [], _ => -1
  | y :: t, i => if x = y then i else idxOf x t (i + 1)
def callp (C : CLL) (op : Nat) (r : List Nat) (ls s : List AV) (sh : SHP) (R M : MEM) (cb sb : Nat) (k : NXT) : Prop := match op with
  | 0 => popn (pick r 2) [] s fun as t => bud (Nat.ble (pick r 4) cb && Nat.ble (pick r 5) sb && Nat.ble (cats t) 8) (C (pick r 1) as sh R M (pick r 4) (pick r 5) (rtk (pick r 3) t fun t sh R M => k ls t sh R M (cb - pick r 4) (sb - pick r 5)))
  | 3 => bud (Nat.ble (cats s) 10) (pII s fun x y t => k ls (vi (imax x y) :: t) sh R M cb sb)
  | 4 => bud (Nat.ble (cats s) 10) (pII s fun x y t => k ls (vi (imin x y) :: t) sh R M cb sb)
  | 5 => bud (Nat.ble (cats s) 13) (pI s fun n s => pI s fun dp s => pR s fun b s => pI s fun sp s => pR s fun a s => aok sh 100 a sp (aok sh 100 b dp (0 ≤ n ∧ sp + n ≤ Int.ofNat (shk sh a).2 ∧ dp + n ≤ Int.ofNat (shk sh b).2 ∧ k ls s sh R (cpm M a sp b dp n) cb sb)))
  | 6 => bud (Nat.ble (cats s) 8) (pE s fun q t => bud (Nat.ble 1 q.toNat && Nat.ble q.toNat 2) (k ls (vi ((strB q.toNat).length : Int) :: t) sh R M cb sb))
  | 7 => bud (Nat.ble (cats s) 8) (pI s fun i t => pE t fun q t => bud (Nat.ble 1 q.toNat && Nat.ble q.toNat 2) (0 ≤ i ∧ i < ((strB q.toNat).length : Int) ∧ k ls (vi ((strB q.toNat).getD i.toNat 0) :: t) sh R M cb sb))
  | 8 => bud (Nat.ble (cats s) 8) (pI s fun c t => pE t fun q t => bud (Nat.ble 1 q.toNat && Nat.ble q.toNat 2) (k ls (vi (idxOf c (strB q.toNat) 0) :: t) sh R M cb sb))
  | 9 => bud (Nat.ble (cats s) 8) (pR s fun a t => 0 ≤ a ∧ k ls t sh R M cb sb)
  | _ => popn (pick r 2) [] s fun as t => pR t fun a t => ook sh (pick r 6) a (bud (Nat.ble (pick r 4) cb && Nat.ble (pick r 5) sb && Nat.ble (cats t) 8) (C (pick r 1) ((2, a) :: as) sh R M (pick r 4) (pick r 5) (rtk (pick r 3) t fun t sh R M => k ls t sh R M (cb - pick r 4) (sb - pick r 5))))
def cmpI (c : Jvm.ClassFile.Cond) (x y : Int) (A B : Prop) : Prop := match c with
  | .eq => if x = y then A else B
  | .ne => if x = y then B else A
  | .lt => if x < y then A else B
  | .ge => if x < y then B else A
  | .gt => if y < x then A else B
  | .le => if y < x then B else A
def newk (kd n : Nat) (sh : SHP) (R M : MEM) : SHP × MEM × MEM := (sh ++ [(kd, n)], zr R (sh.length : Int) (-1), zr M (sh.length : Int) 0)
/-- the outer array at 'length', its N rows of n behind it -/
def new2 (N n : Nat) (sh : SHP) (R M : MEM) : SHP × MEM × MEM := (sh ++ (105, N) :: List.replicate N (100, n), (fun q i => if q = (sh.length : Int) then (if 0 ≤ i ∧ i < (N : Int) then (sh.length : Int) + 1 + i else -1) else if (sh.length : Int) < q then -1 else R q i), fun q i => if (sh.length : Int) ≤ q then 0 else M q i)
def gx_stp (C : CLL) (X : Int × (Int → Int)) (i : Jvm.ClassFile.Instr) (r : List Nat) (ls s : List AV) (sh : SHP) (R M : MEM) (cb sb : Nat) (k : NXT) (J : Nat → NXT) (Q : RES) : Prop := match i with
  | .iconst n => k ls (vi n :: s) sh R M cb sb
  | .bipush n => k ls (vi n :: s) sh R M cb sb
  | .sipush n => k ls (vi n :: s) sh R M cb sb
  | .lconst n => k ls (vl (Int.ofNat n.val) :: s) sh R M cb sb
  | .iload n => gI (lgt ls n) fun x => k ls (vi x :: s) sh R M cb sb
  | .iload_n n => gI (lgt ls n.val) fun x => k ls (vi x :: s) sh R M cb sb
  | .lload n => gL (lgt ls n) fun x => k ls (vl x :: s) sh R M cb sb
  | .lload_n n => gL (lgt ls n.val) fun x => k ls (vl x :: s) sh R M cb sb
  | .aload n => gR (lgt ls n) fun v => k ls (v :: s) sh R M cb sb
  | .aload_n n => gR (lgt ls n.val) fun v => k ls (v :: s) sh R M cb sb
  | .istore n => pI s fun x t => k (lst1 ls n (vi x)) t sh R M cb sb
  | .istore_n n => pI s fun x t => k (lst1 ls n.val (vi x)) t sh R M cb sb
  | .lstore n => pL s fun x t => k (lst2 ls n (vl x)) t sh R M cb sb
  | .lstore_n n => pL s fun x t => k (lst2 ls n.val (vl x)) t sh R M cb sb
  | .astore n => pR s fun x t => k (lst1 ls n (vr x)) t sh R M cb sb
  | .astore_n n => pR s fun x t => k (lst1 ls n.val (vr x)) t sh R M cb sb
  | .iinc n d => gI (lgt ls n) fun x => k (lst1 ls n (vi (iadd x d))) s sh R M cb sb
  | .iadd => pII s fun x y t => k ls (vi (iadd x y) :: t) sh R M cb sb
  | .isub => pII s fun x y t => k ls (vi (isub x y) :: t) sh R M cb sb
  | .imul => pII s fun x y t => k ls (vi (imul x y) :: t) sh R M cb sb
  | .iand => pII s fun x y t => k ls (vi (iand x y) :: t) sh R M cb sb
  | .ior => pII s fun x y t => k ls (vi (ior x y) :: t) sh R M cb sb
  | .ishl => pII s fun x y t => k ls (vi (ishl x y) :: t) sh R M cb sb
  | .ishr => pII s fun x y t => k ls (vi (ishr x y) :: t) sh R M cb sb
  | .idiv => pII s fun x y t => y ≠ 0 ∧ k ls (vi (idiv x y) :: t) sh R M cb sb
  | .irem => pII s fun x y t => y ≠ 0 ∧ k ls (vi (irem x y) :: t) sh R M cb sb
  | .ladd => pLL s fun x y t => k ls (vl (ladd x y) :: t) sh R M cb sb
  | .lmul => pLL s fun x y t => k ls (vl (lmul x y) :: t) sh R M cb sb
  | .lor => pLL s fun x y t => k ls (vl (lor x y) :: t) sh R M cb sb
  | .lshl => pI s fun y t => pL t fun x t => k ls (vl (lshl x y) :: t) sh R M cb sb
  | .lcmp => pLL s fun x y t => k ls (vi (lcmp x y) :: t) sh R M cb sb
  | .i2l => pI s fun x t => k ls (vl x :: t) sh R M cb sb
  | .l2i => pL s fun x t => k ls (vi (w32 x) :: t) sh R M cb sb
  | .i2b => pI s fun x t => k ls (vi (w8 x) :: t) sh R M cb sb
  | .i2c => pI s fun x t => k ls (vi (w16 x) :: t) sh R M cb sb
  | .dup => match s with
    | v :: t => bud (one1 v) (k ls (v :: v :: t) sh R M cb sb)
    | [] => False
  | .dup2 => match s with
    | (1, x) :: t => k ls ((1, x) :: (1, x) :: t) sh R M cb sb
    | v :: u :: t => bud (one1 v && one1 u) (k ls (v :: u :: v :: u :: t) sh R M cb sb)
    | _ => False
  | .ifCond c _ => pI s fun x t => cmpI c x 0 (J (pick r 0) ls t sh R M cb sb) (k ls t sh R M cb sb)
  | .if_icmp c _ => pII s fun x y t => cmpI c x y (J (pick r 0) ls t sh R M cb sb) (k ls t sh R M cb sb)
  | .goto _ => J (pick r 0) ls s sh R M cb sb
  | .tableswitch _ lo _ _ => pI s fun x t => tsw lo x (fun j => J j ls t sh R M cb sb) (pick r 0) r.tail
  | .lookupswitch _ ps => pI s fun x t => lsw x (fun j => J j ls t sh R M cb sb) (pick r 0) ps.toList r.tail
  | .ireturn => match s with
    | [(0, x)] => (match pick r 0 with
      | 5 => bq x (Q x sh R M)
      | _ => Q x sh R M)
    | _ => False
  | .lreturn => match s with
    | [(1, x)] => Q x sh R M
    | _ => False
  | .areturn => match s with
    | [(2, x)] => Q x sh R M
    | _ => False
  | .return_ => match s with
    | [] => Q 0 sh R M
    | _ => False
  | .getfield _ => pR s fun a t => ook sh (pick r 0) a (match pick r 2 with
    | 2 => k ls (vr (R a (pick r 1 : Nat)) :: t) sh R M cb sb
    | 1 => k ls (vl (M a (pick r 1 : Nat)) :: t) sh R M cb sb
    | _ => k ls (vi (M a (pick r 1 : Nat)) :: t) sh R M cb sb)
  | .putfield _ => match pick r 2 with
    | 2 => pR s fun v t => pR t fun a t => ook sh (pick r 0) a (k ls t sh (stm R a (pick r 1 : Nat) v) M cb sb)
    | 1 => pL s fun v t => pR t fun a t => ook sh (pick r 0) a (k ls t sh R (stm M a (pick r 1 : Nat) v) cb sb)
    | 5 => pI s fun v t => pR t fun a t => ook sh (pick r 0) a (bq v (k ls t sh R (stm M a (pick r 1 : Nat) v) cb sb))
    | _ => pI s fun v t => pR t fun a t => ook sh (pick r 0) a (k ls t sh R (stm M a (pick r 1 : Nat) v) cb sb)
  | .iaload => pI s fun j t => match t with
    | (2, a) :: t => aok sh 100 a j (k ls (vi (M a j) :: t) sh R M cb sb)
    | (4, x) :: t => x = 0 ∧ 0 ≤ j ∧ j < X.1 ∧ k ls (vi (X.2 j) :: t) sh R M cb sb
    | _ => False
  | .laload => pI s fun j t => pR t fun a t => aok sh 101 a j (k ls (vl (M a j) :: t) sh R M cb sb)
  | .baload => pI s fun j t => pR t fun a t => aok sh (pick r 0) a j (k ls (vi (M a j) :: t) sh R M cb sb)
  | .aaload => pI s fun j t => pR t fun a t => aok sh (pick r 0) a j (k ls (vr (R a j) :: t) sh R M cb sb)
  | .iastore => pI s fun v t => pI t fun j t => pR t fun a t => aok sh 100 a j (k ls t sh R (stm M a j v) cb sb)
  | .lastore => pL s fun v t => pI t fun j t => pR t fun a t => aok sh 101 a j (k ls t sh R (stm M a j v) cb sb)
  | .bastore => pI s fun v t => pI t fun j t => pR t fun a t => aok sh (pick r 0) a j (match pick r 0 with
    | 103 => bq v (k ls t sh R (stm M a j v) cb sb)
    | _ => k ls t sh R (stm M a j (w8 v)) cb sb)
  | .aastore => pR s fun v t => pI t fun j t => pR t fun a t => aok sh 104 a j (ook sh 8 v (k ls t sh (stm R a j v) M cb sb))
  | .arraylength => match s with
    | (2, a) :: t => bud (Nat.ble 100 (shk sh a).1 && Nat.ble (shk sh a).1 105 && Nat.ble (shk sh a).2 100000) (k ls (vi (Int.ofNat (shk sh a).2) :: t) sh R M cb sb)
    | (4, x) :: t => x = 0 ∧ 0 ≤ X.1 ∧ k ls (vi X.1 :: t) sh R M cb sb
    | _ => False
  | .new _ => bud (Nat.ble 1 cb && Nat.ble (pick r 1) sb) (k ls (vr (sh.length : Int) :: s) (newk (pick r 0) 0 sh R M).1 (newk (pick r 0) 0 sh R M).2.1 (newk (pick r 0) 0 sh R M).2.2 (cb - 1) (sb - pick r 1))
  | .newarray _ => pI s fun n t => 0 ≤ n ∧ bud (Nat.ble n.toNat 100000 && Nat.ble 1 cb && Nat.ble n.toNat sb) (k ls (vr (sh.length : Int) :: t) (newk (pick r 0) n.toNat sh R M).1 (newk (pick r 0) n.toNat sh R M).2.1 (newk (pick r 0) n.toNat sh R M).2.2 (cb - 1) (sb - n.toNat))
  | .anewarray _ => pI s fun n t => 0 ≤ n ∧ bud (Nat.ble n.toNat 100000 && Nat.ble 1 cb && Nat.ble n.toNat sb) (k ls (vr (sh.length : Int) :: t) (newk 104 n.toNat sh R M).1 (newk 104 n.toNat sh R M).2.1 (newk 104 n.toNat sh R M).2.2 (cb - 1) (sb - n.toNat))
  | .multianewarray _ _ => pI s fun n t => pI t fun N t => 0 ≤ n ∧ 0 ≤ N ∧ bud (Nat.ble n.toNat 100000 && Nat.ble N.toNat 100000 && Nat.ble (1 + N.toNat) cb && Nat.ble (N.toNat + N.toNat * n.toNat) sb) (k ls (vr (sh.length : Int) :: t) (new2 N.toNat n.toNat sh R M).1 (new2 N.toNat n.toNat sh R M).2.1 (new2 N.toNat n.toNat sh R M).2.2 (cb - (1 + N.toNat)) (sb - (N.toNat + N.toNat * n.toNat)))
  | .ldc _ => match r with
    | [v, _] => k ls (vi (Int.ofNat v) :: s) sh R M cb sb
    | [v, _, _] => k ls (ve (Int.ofNat v) :: s) sh R M cb sb
    | _ => False
  | .ldc_w _ => k ls (vi (Int.ofNat (pick r 0)) :: s) sh R M cb sb
  | .ldc2_w _ => k ls (vl (Int.ofNat (pick r 0)) :: s) sh R M cb sb
  | .invokestatic _ => callp C (pick r 0) r ls s sh R M cb sb k
  | .invokevirtual _ => callp C (pick r 0) r ls s sh R M cb sb k
  | .invokespecial _ => callp C (pick r 0) r ls s sh R M cb sb k
  | _ => False
/-- what is live stays known at a cut -/
def msk : List Nat → List AV → List AV
  | 0 :: m, _ :: l => vn :: msk m l
  | _ :: m, v :: l => v :: msk m l
  | _, _ => []
def cutAt (cuts : List (Nat × List Nat)) (i : Nat) : Option (List Nat) := match cuts with
  | [] => none
  | (j, m) :: t => match Nat.beq j i with
    | true => some m
    | false => cutAt t i
/-- the walk: at most n instructions a path; at a cut (but the first) it is G's business -/
def gx_wp (C : CLL) (X : Int × (Int → Int)) (G : Nat → NXT) (Q : RES) (cuts : List (Nat × List Nat)) (code : List INS) : Nat → List INS → List AV → List AV → SHP → MEM → MEM → Nat → Nat → Prop
  | 0, _, _, _, _, _, _, _, _ => False
  | _ + 1, [], _, _, _, _, _, _, _ => False
  | n + 1, (_, _, i, _, r) :: rest, ls, s, sh, R, M, cb, sb => gx_stp C X i r ls s sh R M cb sb
      (fun ls s sh R M cb sb => match rest with
        | [] => False
        | (j, _) :: _ => match cutAt cuts j with
          | some m => G j (msk m ls) s sh R M cb sb
          | none => gx_wp C X G Q cuts code n rest ls s sh R M cb sb)
      (fun t ls s sh R M cb sb => match cutAt cuts t with
        | some m => G t (msk m ls) s sh R M cb sb
        | none => gx_wp C X G Q cuts code n (code.drop t) ls s sh R M cb sb)
      Q
