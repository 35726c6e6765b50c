/-! THE PARSER, as numbers -/
abbrev RSP : Type := Sum (Int × Int) (Nat × NTW)
def bnd (r : RSP) (f : Nat → NTW → RSP) : RSP := match r with
  | .inl e => .inl e
  | .inr s => f s.1 s.2
/-- the first place of a number in a row -/
def fnd (f : Int → Int) (x : Int) : Nat → Int → Int
  | 0, _ => -1
  | n + 1, i => if f i = x then i else fnd f x n (i + 1)
def emG (G : NTW) (x : Int) : NTW := stm (stm G 12 (G 0 7) x) 0 7 (G 0 7 + 1)
def unG (G : NTW) : NTW := stm (stm G 0 8 (G 0 8 + 1)) 0 4 (G 0 4 + 1)
def twH (G : NTW) (x : Int) : Int := fnd (G 10) x (G 0 0).toNat 0
def stH (G : NTW) (x : Int) : Int := fnd (fun s => G 10 (G 5 s)) x (G 0 1).toNat 0
def opB (l kd v : Int) : Bool := if l = 0 then decide (kd = 2 ∧ v = 15) else if l = 1 then decide (kd = 2 ∧ v = 16) else if l = 2 then decide (kd = 5 ∧ (v = 60 ∨ v = 62 ∨ v = 61)) else if l = 3 then decide (kd = 5 ∧ (v = 43 ∨ v = 45)) else decide (kd = 5 ∧ (v = 42 ∨ v = 47 ∨ v = 37))
section
variable (B : Int → Int) (z : Int)
def flt (k : Nat) (w : Int) : RSP := .inl (if tkd B z k = 0 then 1 else w, tpl B z k)
def pSg (k : Nat) (s : Int) (c : RSP) : RSP := if tkd B z k = 5 ∧ tvl B z k = s then c else flt B z k 2
def pWd (k : Nat) (w : Int) (c : RSP) : RSP := if tkd B z k = 2 ∧ tvl B z k = w then c else flt B z k 2
def pNm (k : Nat) (lo hi : Int) (c : Int → RSP) : RSP := if tkd B z k = 4 then (if tvl B z k < lo ∨ hi < tvl B z k then flt B z k 4 else c (tvl B z k)) else flt B z k 2
/-- a tower told ahead -/
def pTw (k : Nat) (G : NTW) (c : Int → RSP) : RSP := if tkd B z k = 3 then (if twH G (tvl B z k) < 0 then flt B z k 5 else c (twH G (tvl B z k))) else flt B z k 2
def unP (f : Nat → NTW → RSP) (dep : Int) (k : Nat) (G : NTW) : RSP :=
  if tkd B z k = 5 ∧ tvl B z k = 40 then
    (if (G 0 8 = 30 ∨ G 0 4 = 90) ∨ 6 < dep then flt B z k 2
     else bnd (f (k + 1) (unG G)) fun k1 G1 => pSg B z k1 41 (.inr (k1 + 1, G1)))
  else if tkd B z k = 4 then
    (if G 0 8 = 30 ∨ G 0 4 = 90 then flt B z k 2 else .inr (k + 1, emG (unG G) (tvl B z k)))
  else if tkd B z k = 3 then
    (if G 0 8 = 30 ∨ G 0 4 = 90 then flt B z k 2 else if stH G (tvl B z k) < 0 then flt B z k 5 else .inr (k + 1, emG (unG G) (10000 + stH G (tvl B z k))))
  else flt B z k 2
def lpP (f : Nat → NTW → RSP) (l : Int) : Nat → Nat → NTW → RSP
  | 0, k, G => .inr (k, G)
  | m + 1, k, G => if opB l (tkd B z k) (tvl B z k) = true then bnd (f (k + 1) G) fun k1 G1 => lpP f l m k1 (emG G1 (20000 + tvl B z k)) else .inr (k, G)
def fmP : Nat → Int → Int → Nat → NTW → RSP
  | 0, _, _, k, _ => flt B z k 2
  | n + 1, l, dep, k, G =>
    if 5 ≤ l then unP B z (fmP n 0 (dep + 1)) dep k G
    else if l = 2 ∧ (tkd B z k = 2 ∧ tvl B z k = 17) then (if 6 < dep then flt B z k 2 else bnd (fmP n 2 (dep + 1) (k + 1) G) fun k1 G1 => .inr (k1, emG G1 20017))
    else bnd (fmP n (l + 1) dep k G) fun k1 G1 => lpP B z (fmP n (l + 1) dep) l (if l = 2 then 1 else 1600) k1 G1
def adT (G : NTW) (s v : Int) : NTW :=
  stm (if s = 0 then stm (stm (stm (stm (stm (stm G 1 (G 0 0) s) 2 (G 0 0) v) 3 (G 0 0) (-1)) 4 (G 0 0) (-1)) 5 (G 0 1) (G 0 0)) 0 1 (G 0 1 + 1) else stm (stm (stm (stm G 1 (G 0 0) s) 2 (G 0 0) v) 3 (G 0 0) (-1)) 4 (G 0 0) (-1)) 0 0 (G 0 0 + 1)
def pTow (s : Int) (k : Nat) (G : NTW) : RSP :=
  if (s = 0 ∧ G 0 1 = 3) ∨ G 0 0 = 10 then flt B z k 2
  else if tkd B z (k + 1) = 3 then
    (if twH G (tvl B z (k + 1)) < 0 then
      (if s < 5 then pSg B z (k + 2) 59 (.inr (k + 3, adT (stm G 10 (G 0 0) (tvl B z (k + 1))) s 0))
       else pNm B z (k + 2) 1 99 fun v => pSg B z (k + 3) 59 (.inr (k + 4, adT (stm G 10 (G 0 0) (tvl B z (k + 1))) s v)))
     else flt B z (k + 1) 3)
  else flt B z (k + 1) 2
def rmG (G : NTW) (t : Int) : Prop := G 1 t ≠ 4 ∧ (G 3 t < 0 ∨ ((G 1 t = 2 ∨ G 1 t = 3) ∧ G 4 t < 0))
def adW (G : NTW) (a b v : Int) : NTW :=
  stm (stm (stm (stm (stm G 6 (G 0 2) a) 7 (G 0 2) b) 8 (G 0 2) v) (if G 3 a < 0 then 3 else 4) a (G 0 2)) 0 2 (G 0 2 + 1)
noncomputable def pWay (k : Nat) (G : NTW) : RSP :=
  if G 0 2 = 16 then flt B z k 2
  else pTw B z (k + 1) G fun a => @ite RSP (rmG G a) (Classical.propDecidable _) (pWd B z (k + 2) 12 (pTw B z (k + 3) G fun b => pWd B z (k + 4) 13 (pNm B z (k + 5) 1 9 fun v => pSg B z (k + 6) 59 (.inr (k + 7, adW G a b v))))) (flt B z (k + 1) 6)
def adC (G : NTW) (t : Int) : NTW := stm (stm (stm G 9 (G 0 3) t) 13 (G 0 3) (G 0 7)) 0 3 (G 0 3 + 1)
def pClm (k : Nat) (G : NTW) : RSP :=
  if G 0 3 = 6 then flt B z k 2
  else if tkd B z (k + 1) = 3 then
    (if fnd (G 11) (tvl B z (k + 1)) (G 0 3).toNat 0 < 0 then
      pWd B z (k + 2) 14 (pTw B z (k + 3) G fun t => if G 1 t = 4 then bnd (fmP B z 48 0 0 (k + 4) (stm (stm G 11 (G 0 3) (tvl B z (k + 1))) 0 8 0)) fun k1 G1 => pSg B z k1 59 (.inr (k1 + 1, adC G1 t)) else flt B z (k + 3) 6)
     else flt B z (k + 1) 3)
  else flt B z (k + 1) 2
def pDrw (k : Nat) (G : NTW) : RSP :=
  if G 0 6 = 0 then pNm B z (k + 1) 0 999 fun v => pSg B z (k + 2) 59 (.inr (k + 3, stm (stm G 0 6 1) 0 5 v)) else flt B z k 2
noncomputable def pLin (k : Nat) (G : NTW) : RSP :=
  if tkd B z k = 2 then (if tvl B z k ≤ 8 then pTow B z (tvl B z k) k G else if tvl B z k = 9 then pWay B z k G else if tvl B z k = 10 then pClm B z k G else if tvl B z k = 11 then pDrw B z k G else flt B z k 2) else flt B z k 2
noncomputable def pAll : Nat → Nat → NTW → RSP
  | 0, k, G => .inr (k, G)
  | n + 1, k, G => if tkd B z k = 1 then .inr (k, G) else bnd (pLin B z k G) fun k1 G1 => pAll n k1 G1
end
