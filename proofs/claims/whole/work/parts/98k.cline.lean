/-! THE PARSER, the class: lines -/
def FPL (n : Int) (X X' : MEM) : Prop := (∀ q, q ≠ 27 → q ≠ 33 → q ≠ 34 → q ≠ 35 → ¬ (n ≤ q ∧ q ≤ n + 11) → X' q = X q) ∧ ∀ j, j < 7 ∨ 10 < j → X' 27 j = X 27 j
def CPL (X : MEM) (B : Int → Int) (z n : Int) (K k : Nat) (G : NTW) : Prop := CT X B z K k ∧ k ≤ K ∧ CNG X n G
def CLS (B : Int → Int) (z n : Int) (K : Nat) (r : RSP) (v : Int) (X : MEM) : Prop := match r with
  | .inl e => v = 0 ∧ X 33 0 = e.1 ∧ X 33 1 = e.2
  | .inr s => v = 1 ∧ CPL X B z n K s.1 s.2
/-- what a line may rely on -/
def LGd (k : Nat) (G : NTW) : Prop := BG G ∧ (∀ t, 0 ≤ t → t < G 0 0 → -1 ≤ G 3 t ∧ -1 ≤ G 4 t) ∧ (0 ≤ G 0 2 ∧ G 0 2 ≤ 16) ∧ (0 ≤ G 0 3 ∧ G 0 3 ≤ 6) ∧ G 0 7 ≤ (k : Int)
theorem twH_b {G : NTW} {x : Int} (hT : 0 ≤ G 0 0) : twH G x = -1 ∨ (0 ≤ twH G x ∧ twH G x < G 0 0 ∧ G 10 (twH G x) = x) := by
  have h : twH G x = -1 ∨ (0 ≤ twH G x ∧ twH G x < 0 + ((G 0 0).toNat : Int) ∧ G 10 (twH G x) = x) := fnd_b (G 0 0).toNat 0 (Int.le_refl _)
  rcases h with h | ⟨h1, h2, h3⟩
  · exact Or.inl h
  · exact Or.inr ⟨h1, by omega, h3⟩
section
variable {d : Nat} {R X X1 X2 : MEM} {B : Int → Int} {z n x y v w l s : Int} {K k : Nat} {G G1 : NTW} {Q : RES}
theorem FPL_C (h : FPC n X X1) : FPL n X X1 := ⟨fun q q1 q2 _ _ q5 => h.1 q q1 q2 q5, h.2⟩
theorem FPL_tr (h : FPL n X X1) (g : FPL n X1 X2) : FPL n X X2 := ⟨fun q q1 q2 q3 q4 q5 => (g.1 q q1 q2 q3 q4 q5).trans (h.1 q q1 q2 q3 q4 q5), fun j hj => (g.2 j hj).trans (h.2 j hj)⟩
theorem FPL_FT (h : FT X X1) : FPL n X X1 := FPL_C (FPC_FT h)
theorem FPL_33 {j : Int} : FPL n X (stm X 33 j v) := FPL_C FPC_33
theorem FPL_nm {q i : Int} (hq : q = 34 ∨ q = 35) : FPL n X (stm X q i v) := ⟨fun r _ _ r3 r4 _ => stm_ne (by omega), fun j hj => stm_neq (by omega)⟩
theorem FPL_net (n1 : n = 1 ∨ n = 14) (h : ∀ q, ¬ (n ≤ q ∧ q ≤ n + 11) → X1 q = X q) : FPL n X X1 := ⟨fun q _ _ _ _ h5 => h q h5, fun j _ => by rw [h 27 (by omega)]⟩
theorem FPL_fl (h : FPL n X X1) : FPL n X (flM X1 B z k w) := FPL_tr h (FPL_C FPC_fl)
theorem CLS_fl : CLS B z n K (flt B z k w) 0 (flM X B z k w) := ⟨rfl, fl_0.1, fl_0.2⟩
theorem CNG_33 {j : Int} (hG : CNG X n G) (hj : j ≠ 6 ∧ j ≠ 0 ∧ j ≠ 1) (n1 : n = 1 ∨ n = 14) : CNG (stm X 33 j v) n G := CNG_of hG (fun q _ _ => stm_ne (by omega)) (fun i _ => stm_neq (by omega)) (stm_ne (by decide)) (stm_ne (by decide))
theorem CT_net (hT : CT X B z K k) (n1 : n = 1 ∨ n = 14) (h : ∀ q, ¬ (n ≤ q ∧ q ≤ n + 11) → X1 q = X q) : CT X1 B z K k := CT_of hT (fun j => by rw [h 27 (by omega)]) (h 30 (by omega)) (h 31 (by omega)) (h 32 (by omega))
/-- a name is written -/
theorem CNG_nmT (hG : CNG X n G) (n1 : n = 1 ∨ n = 14) : CNG (stm X 34 (G 0 0) v) n G := by
  obtain ⟨a, bT, bS, bW, bC, bK⟩ := hG
  refine ⟨?_, fun t t0 t1 => ?_, fun u u0 u1 => ?_, fun w w0 w1 => ?_, fun c c0 c1 => ?_, fun i i0 i1 => ?_⟩
  · simp (disch := omega) only [stm_neq]; exact a
  · simp (disch := omega) only [stm_neq]; exact bT t t0 t1
  · simp (disch := omega) only [stm_neq]; exact bS u u0 u1
  · simp (disch := omega) only [stm_neq]; exact bW w w0 w1
  · simp (disch := omega) only [stm_neq]; exact bC c c0 c1
  · simp (disch := omega) only [stm_neq]; exact bK i i0 i1
theorem CNG_nmC (hG : CNG X n G) (n1 : n = 1 ∨ n = 14) (v : Int) : CNG (stm X 35 (G 0 3) v) n (stm G 11 (G 0 3) v) := by
  obtain ⟨a, bT, bS, bW, bC, bK⟩ := hG
  refine ⟨?_, fun t t0 t1 => ?_, fun u u0 u1 => ?_, fun w w0 w1 => ?_, fun c c0 c1 => ?_, fun i i0 i1 => ?_⟩
  · simp (disch := omega) only [stm_neq]; exact a
  · simp (disch := omega) only [stm_neq] at t1 ⊢; exact bT t t0 t1
  · simp (disch := omega) only [stm_neq] at u1 ⊢; exact bS u u0 u1
  · simp (disch := omega) only [stm_neq] at w1 ⊢; exact bW w w0 w1
  · simp (disch := omega) only [stm_neq] at c1
    simp (disch := omega) only [stm_neq]; exact bC c c0 c1
  · simp (disch := omega) only [stm_neq] at i1 ⊢; exact bK i i0 i1
theorem CNG_08 (hG : CNG X n G) : CNG X n (stm G 0 8 v) := by
  obtain ⟨a, bT, bS, bW, bC, bK⟩ := hG
  refine ⟨?_, fun t t0 t1 => ?_, fun u u0 u1 => ?_, fun w w0 w1 => ?_, fun c c0 c1 => ?_, fun i i0 i1 => ?_⟩
  · simp (disch := omega) only [stm_neq]; exact a
  · simp (disch := omega) only [stm_neq] at t1 ⊢; exact bT t t0 t1
  · simp (disch := omega) only [stm_neq] at u1 ⊢; exact bS u u0 u1
  · simp (disch := omega) only [stm_neq] at w1 ⊢; exact bW w w0 w1
  · simp (disch := omega) only [stm_neq] at c1 ⊢; exact bC c c0 c1
  · simp (disch := omega) only [stm_neq] at i1 ⊢; exact bK i i0 i1
theorem c_towerLine (hc : RC R) (hP : R 33 5 = n) (hN : NR R n) (n1 : n = 1 ∨ n = 14) (hk1 : tkd B z k ≠ 1) (hS : CPL X B z n K k G) (hL : LGd k G) (hs : 0 ≤ s ∧ s ≤ 8) (hq : ∀ X' v, CLS B z n K (pTow B z s k G) v X' → FPL n X X' → Q v SHX R X') : Mw (d + 3) 37 [vr 33, vi s] SHX R X 0 0 Q := by
  obtain ⟨hT, hk, hG⟩ := hS
  obtain ⟨hB, h34, hW, hC, h7⟩ := hL
  have hB' := hB
  obtain ⟨bT, bS, bs, bU, bK⟩ := hB'
  have hlt := CT_lt hT hk hk1
  have e0 : X n 0 = G 0 0 := hG.1.1
  have e5 : X n 5 = G 0 1 := hG.1.2.1
  have bad : ∀ (k' : Nat) (Y : MEM) (w : Int), CT Y B z K k' → FPL n X Y → pTow B z s k G = flt B z k' w → Cd (d + 3) 35 [vr 33, vi w] SHX R Y 0 0 (fun (x27 : Int) (sh27 : SHP) (R27 M27 : MEM) => (x27 = 0 ∨ x27 = 1) → bq x27 (Q x27 sh27 R27 M27)) := fun k' Y w hY fY hw => by
    refine c_fail (d := d + 2) hc hY fun _ => ?_
    exact hq _ 0 (by rw [hw]; exact CLS_fl) (FPL_fl fY)
  have eu : pTow B z s k G = if (s = 0 ∧ G 0 1 = 3) ∨ G 0 0 = 10 then flt B z k 2 else if tkd B z (k + 1) = 3 then (if twH G (tvl B z (k + 1)) < 0 then (if s < 5 then pSg B z (k + 2) 59 (.inr (k + 3, adT (stm G 10 (G 0 0) (tvl B z (k + 1))) s 0)) else pNm B z (k + 2) 1 99 fun v => pSg B z (k + 3) 59 (.inr (k + 4, adT (stm G 10 (G 0 0) (tvl B z (k + 1))) s v))) else flt B z (k + 1) 3) else flt B z (k + 1) 2 := rfl
  -- the end of the line, behind the tower
  have fin : ∀ (k' : Nat) (Y : MEM) (G' : NTW), CT Y B z K k' → k' ≤ K → CNG Y n G' → FPL n X Y → pTow B z s k G = pSg B z k' 59 (.inr (k' + 1, G')) → Cd (d + 3) 50 [vr 33, vi 59] SHX R Y 0 0 (fun (x16 : Int) (sh16 : SHP) (R16 M16 : MEM) => (x16 = 0 ∨ x16 = 1) → bq x16 (Q x16 sh16 R16 M16)) := fun k' Y G' hY kY gY fY he => by
    unfold pSg at he
    refine c_takeSign (d := d + 1) hc hY (fun h _ => ?_) fun h X' hX' hF' _ => ?_
    · rw [if_neg h] at he
      exact hq _ 0 (by rw [he]; exact CLS_fl) (FPL_fl fY)
    · rw [if_pos h] at he
      exact hq X' 1 (by rw [he]; exact ⟨rfl, hX', CT_lt hY kY (by omega), CNG_FT gY hF' n1⟩) (FPL_tr fY (FPL_FT hF'))
  have main : ¬ ((s = 0 ∧ G 0 1 = 3) ∨ G 0 0 = 10) → ook SHX 9 (R 33 2) (Cd (d + 3) 94 [vr (R 33 2)] SHX R X 0 0 (fun (_ : Int) (sh1 : SHP) (R1 M1 : MEM) => ook sh1 5 33 (ook sh1 9 (R1 33 2) ((if (M1 (R1 33 2) 8) = 3 then ook sh1 5 33 (Cd (d + 3) 46 [vr 33] sh1 R1 M1 0 0 (fun (x2 : Int) (sh2 : SHP) (R2 M2 : MEM) => (if x2 = (-1) then ook sh2 5 33 (ook sh2 5 33 (ook sh2 4 (R2 33 5) (ook sh2 5 33 (ook sh2 9 (R2 33 2) (aok sh2 101 (R2 33 3) (M2 (R2 33 5) 0) (ook sh2 5 33 (ook sh2 9 (R2 33 2) (Cd (d + 3) 94 [vr (R2 33 2)] sh2 R2 (stm M2 (R2 33 3) (M2 (R2 33 5) 0) (M2 (R2 33 2) 10)) 0 0 (fun (_ : Int) (sh3 : SHP) (R3 M3 : MEM) => ook sh3 5 33 ((if s < 5 then ook sh3 5 33 (ook sh3 5 33 (ook sh3 4 (R3 33 5) (Cd (d + 3) 24 [vr (R3 33 5), vi s, vi ((stm M3 33 7 0) 33 7)] sh3 R3 (stm M3 33 7 0) 0 0 (fun (_ : Int) (sh4 : SHP) (R4 M4 : MEM) => ook sh4 5 33 (Cd (d + 3) 50 [vr 33, vi 59] sh4 R4 M4 0 0 (fun (x5 : Int) (sh5 : SHP) (R5 M5 : MEM) => (x5 = 0 ∨ x5 = 1) → bq x5 (Q x5 sh5 R5 M5))))))) else ook sh3 5 33 (Cd (d + 3) 51 [vr 33, vi 1, vi 99] sh3 R3 (stm M3 33 7 0) 0 0 (fun (x6 : Int) (sh6 : SHP) (R6 M6 : MEM) => (x6 = 0 ∨ x6 = 1) → (if x6 = 0 then Q 0 sh6 R6 M6 else ook sh6 5 33 (ook sh6 5 33 (ook sh6 4 (R6 33 5) (Cd (d + 3) 24 [vr (R6 33 5), vi s, vi (M6 33 7)] sh6 R6 M6 0 0 (fun (_ : Int) (sh7 : SHP) (R7 M7 : MEM) => ook sh7 5 33 (Cd (d + 3) 50 [vr 33, vi 59] sh7 R7 M7 0 0 (fun (x8 : Int) (sh8 : SHP) (R8 M8 : MEM) => (x8 = 0 ∨ x8 = 1) → bq x8 (Q x8 sh8 R8 M8))))))))))))))))))))) else ook sh2 5 33 (Cd (d + 3) 35 [vr 33, vi 3] sh2 R2 M2 0 0 (fun (x9 : Int) (sh9 : SHP) (R9 M9 : MEM) => (x9 = 0 ∨ x9 = 1) → bq x9 (Q x9 sh9 R9 M9)))))) else ook sh1 5 33 (Cd (d + 3) 35 [vr 33, vi 2] sh1 R1 M1 0 0 (fun (x10 : Int) (sh10 : SHP) (R10 M10 : MEM) => (x10 = 0 ∨ x10 = 1) → bq x10 (Q x10 sh10 R10 M10)))))))) := fun hno => by
    rw [if_neg hno] at eu
    rw [rc33_2 hc, ok27]
    refine c_step (d := d + 2) hc hT fun X1 hT1 hF1 => ?_
    have hG1 := CNG_FT hG hF1 n1
    rw [ok33, rc33_2 hc, ok27, hT1.2.2.1]
    by_cases k3 : tkd B z (k + 1) = 3
    · rw [if_pos k3] at eu
      rw [if_pos k3, ok33]
      have hlt2 := CT_lt hT1 hlt (by omega)
      refine c_towerHere (d := d + 1) hc hP hN hT1 hG1 hB ?_
      have tb := twH_b (x := tvl B z (k + 1)) bT.1
      by_cases hw : twH G (tvl B z (k + 1)) < 0
      · rw [if_pos hw] at eu
        have f1 : X1 n 0 = G 0 0 := hG1.1.1
        rw [if_pos (by omega), ok33, ok33, hP, okN hN, ok33, rc33_2 hc, ok27, rc33_3 hc, ak34, ok33, ok27, f1, hT1.2.2.2.2]
        refine ⟨bT.1, by omega, c_step (d := d + 2) hc (CT_in hT1 (by decide) (by decide)) fun X3 hT3 hF3 => ?_⟩
        have hG3 := CNG_FT (CNG_nmT hG1 n1) hF3 n1
        have g34 : X3 34 (G 0 0) = tvl B z (k + 1) := by rw [hF3.1 _ (by decide), stm_hit]
        have fr3 : FPL n X X3 := FPL_tr (FPL_FT hF1) (FPL_tr (FPL_nm (Or.inl rfl)) (FPL_FT hF3))
        rw [ok33]
        by_cases h5 : s < 5
        · rw [if_pos h5] at eu
          rw [if_pos h5, ok33, ok33, hP, okN hN, stm_hit]
          refine c_addTower (d := d + 2) (nm := tvl B z (k + 1)) hN n1 (CNG_33 hG3 (by decide) n1) (by rw [stm_neq (by omega)]; exact g34) (by omega) (fun q => by omega) fun X4 hG4 hF4 => ?_
          rw [ok33]
          exact fin (k + 2) X4 _ (CT_net (CT_33 hT3) n1 hF4) hlt2 hG4 (FPL_tr fr3 (FPL_tr FPL_33 (FPL_net n1 hF4))) eu
        · rw [if_neg h5] at eu
          unfold pNm at eu
          rw [if_neg h5, ok33]
          refine c_takeNumber (d := d + 1) hc (CT_33 hT3) (fun h _ => ?_) (fun h g _ => ?_) fun h g X4 hT4 hF4 _ => ?_
          · rw [if_neg h] at eu
            rw [if_pos rfl]
            exact hq _ 0 (by rw [eu]; exact CLS_fl) (FPL_fl (FPL_tr fr3 FPL_33))
          · rw [if_pos h, if_pos g] at eu
            rw [if_pos rfl]
            exact hq _ 0 (by rw [eu]; exact CLS_fl) (FPL_fl (FPL_tr fr3 (FPL_tr FPL_33 FPL_33)))
          · rw [if_pos h, if_neg g] at eu
            dsimp only at eu
            have hlt3 := CT_lt hT3 hlt2 (by omega)
            have e7 : X4 33 7 = tvl B z (k + 2) := by rw [hF4.1 _ (by decide), stm_hit]
            rw [if_neg (by decide), ok33, ok33, hP, okN hN, e7]
            refine c_addTower (d := d + 2) (nm := tvl B z (k + 1)) hN n1 (CNG_FT (CNG_33 (CNG_33 hG3 (by decide) n1) (by decide) n1) hF4 n1) (by rw [hF4.1 _ (by decide), stm_neq (by omega), stm_neq (by omega)]; exact g34) (by omega) (fun q => by omega) fun X5 hG5 hF5 => ?_
            rw [ok33]
            exact fin (k + 3) X5 _ (CT_net hT4 n1 hF5) hlt3 hG5 (FPL_tr fr3 (FPL_tr FPL_33 (FPL_tr FPL_33 (FPL_tr (FPL_FT hF4) (FPL_net n1 hF5))))) eu
      · rw [if_neg hw] at eu
        rw [if_neg (by omega), ok33]
        exact bad (k + 1) X1 3 hT1 (FPL_FT hF1) eu
    · rw [if_neg k3] at eu
      rw [if_neg k3, ok33]
      exact bad (k + 1) X1 2 hT1 (FPL_FT hF1) eu
  refine Mw_of mok37 rfl fun _ _ => b_X5_towerLine_0 ?_
  by_cases hs0 : s = 0
  · rw [if_pos hs0, ok33, hP, okN hN, e5]
    by_cases h3 : G 0 1 = 3
    · rw [if_pos (Or.inl ⟨hs0, h3⟩)] at eu
      rw [if_pos h3, ok33]
      exact bad k X 2 hT (FPL_C FPC_self) eu
    · rw [if_neg h3, ok33, okN hN, e0]
      by_cases h10 : G 0 0 = 10
      · rw [if_pos (Or.inr h10)] at eu
        rw [if_pos h10, ok33]
        exact bad k X 2 hT (FPL_C FPC_self) eu
      · rw [if_neg h10, ok33]
        exact main (by omega)
  · rw [if_neg hs0, ok33, hP, okN hN, e0]
    by_cases h10 : G 0 0 = 10
    · rw [if_pos (Or.inr h10)] at eu
      rw [if_pos h10, ok33]
      exact bad k X 2 hT (FPL_C FPC_self) eu
    · rw [if_neg h10, ok33]
      exact main (by omega)
theorem c_wayLine (hc : RC R) (hP : R 33 5 = n) (hN : NR R n) (n1 : n = 1 ∨ n = 14) (hk1 : tkd B z k ≠ 1) (hS : CPL X B z n K k G) (hL : LGd k G) (hq : ∀ X' v, CLS B z n K (pWay B z k G) v X' → FPL n X X' → Q v SHX R X') : Mw (d + 3) 38 [vr 33] SHX R X 0 0 Q := by
  obtain ⟨hT, hk, hG⟩ := hS
  obtain ⟨hB, h34, hW, hC, h7⟩ := hL
  have hB' := hB
  obtain ⟨bT, bS, bs, bU, bK⟩ := hB'
  have hlt := CT_lt hT hk hk1
  have e7 : X n 7 = G 0 2 := hG.1.2.2.1
  have eu : pWay B z k G = if G 0 2 = 16 then flt B z k 2 else pTw B z (k + 1) G fun a => @ite RSP (rmG G a) (Classical.propDecidable _) (pWd B z (k + 2) 12 (pTw B z (k + 3) G fun b => pWd B z (k + 4) 13 (pNm B z (k + 5) 1 9 fun v => pSg B z (k + 6) 59 (.inr (k + 7, adW G a b v))))) (flt B z (k + 1) 6) := rfl
  refine Mw_of mok38 rfl fun _ _ => b_X5_wayLine_0 ?_
  rw [ok33, hP, okN hN, e7]
  by_cases h16 : G 0 2 = 16
  · rw [if_pos h16] at eu
    rw [if_pos h16, ok33]
    exact c_fail (d := d + 2) hc hT fun _ => hq _ 0 (by rw [eu]; exact CLS_fl) (FPL_C FPC_fl)
  · rw [if_neg h16] at eu
    rw [if_neg h16, ok33, rc33_2 hc, ok27]
    refine c_step (d := d + 2) hc hT fun X1 hT1 hF1 => ?_
    have hG1 := CNG_FT hG hF1 n1
    have fr1 : FPL n X X1 := FPL_FT hF1
    rw [ok33]
    refine c_towerHere (d := d + 1) hc hP hN hT1 hG1 hB ?_
    have tb := twH_b (x := tvl B z (k + 1)) bT.1
    unfold pTw at eu
    rw [ok33]
    refine c_isTowerHere (d := d + 1) hc hT1 (fun h _ => ?_) (fun h g _ => ?_) fun h g _ => ?_
    · rw [if_neg h] at eu
      rw [if_pos rfl]
      exact hq _ 0 (by rw [eu]; exact CLS_fl) (FPL_fl fr1)
    · rw [if_pos h, if_pos (by omega)] at eu
      rw [if_pos rfl]
      exact hq _ 0 (by rw [eu]; exact CLS_fl) (FPL_fl fr1)
    · rw [if_pos h, if_neg (by omega)] at eu
      dsimp only at eu
      have ta := h34 (twH G (tvl B z (k + 1))) (by omega) (by omega)
      have hlt2 := CT_lt hT1 hlt (by omega)
      rw [if_neg (by decide), ok33, hP, okN hN]
      refine c_hasRoom (d := d + 2) hN hG1 (by omega) (by omega) bT.2 ta (fun hr _ => ?_) fun hr _ => ?_
      · rw [if_pos hr] at eu
        unfold pWd at eu
        rw [if_neg (by decide), ok33, rc33_2 hc, ok27]
        refine c_step (d := d + 2) hc hT1 fun X2 hT2 hF2 => ?_
        have hG2 := CNG_FT hG1 hF2 n1
        have fr2 : FPL n X X2 := FPL_tr fr1 (FPL_FT hF2)
        rw [ok33]
        refine c_takeWord (d := d + 1) hc hT2 (fun h _ => ?_) fun h X3 hT3 hF3 _ => ?_
        · rw [if_neg h] at eu
          rw [if_pos rfl]
          exact hq _ 0 (by rw [eu]; exact CLS_fl) (FPL_fl fr2)
        · rw [if_pos h] at eu
          have hlt3 := CT_lt hT2 hlt2 (by omega)
          have hG3 := CNG_FT hG2 hF3 n1
          have fr3 : FPL n X X3 := FPL_tr fr2 (FPL_FT hF3)
          rw [if_neg (by decide), ok33]
          refine c_towerHere (d := d + 1) hc hP hN hT3 hG3 hB ?_
          have tb3 := twH_b (x := tvl B z (k + 3)) bT.1
          rw [ok33]
          refine c_isTowerHere (d := d + 1) hc hT3 (fun h _ => ?_) (fun h g _ => ?_) fun h g _ => ?_
          · rw [if_neg h] at eu
            rw [if_pos rfl]
            exact hq _ 0 (by rw [eu]; exact CLS_fl) (FPL_fl fr3)
          · rw [if_pos h, if_pos (show twH G (tvl B z (k + 3)) < 0 by have g' : twH G (tvl B z (k + 3)) = -1 := g; omega)] at eu
            rw [if_pos rfl]
            exact hq _ 0 (by rw [eu]; exact CLS_fl) (FPL_fl fr3)
          · have g' : twH G (tvl B z (k + 3)) ≠ -1 := g
            rw [if_pos h, if_neg (show ¬ twH G (tvl B z (k + 3)) < 0 by omega)] at eu
            have hlt4 := CT_lt hT3 hlt3 (by omega)
            rw [if_neg (by decide), ok33, rc33_2 hc, ok27]
            refine c_step (d := d + 2) hc hT3 fun X4 hT4 hF4 => ?_
            have hG4 := CNG_FT hG3 hF4 n1
            have fr4 : FPL n X X4 := FPL_tr fr3 (FPL_FT hF4)
            rw [ok33]
            refine c_takeWord (d := d + 1) hc hT4 (fun h _ => ?_) fun h X5 hT5 hF5 _ => ?_
            · rw [if_neg h] at eu
              rw [if_pos rfl]
              exact hq _ 0 (by rw [eu]; exact CLS_fl) (FPL_fl fr4)
            · rw [if_pos h] at eu
              have hlt5 := CT_lt hT4 hlt4 (by omega)
              have hG5 := CNG_FT hG4 hF5 n1
              have fr5 : FPL n X X5 := FPL_tr fr4 (FPL_FT hF5)
              unfold pNm at eu
              rw [if_neg (by decide), ok33]
              refine c_takeNumber (d := d + 1) hc hT5 (fun h _ => ?_) (fun h g _ => ?_) fun h g X6 hT6 hF6 _ => ?_
              · rw [if_neg h] at eu
                rw [if_pos rfl]
                exact hq _ 0 (by rw [eu]; exact CLS_fl) (FPL_fl fr5)
              · rw [if_pos h, if_pos g] at eu
                rw [if_pos rfl]
                exact hq _ 0 (by rw [eu]; exact CLS_fl) (FPL_fl (FPL_tr fr5 FPL_33))
              · rw [if_pos h, if_neg g] at eu
                dsimp only at eu
                have hlt6 := CT_lt hT5 hlt5 (by omega)
                have ev : X6 33 7 = tvl B z (k + 5) := by rw [hF6.1 _ (by decide), stm_hit]
                rw [if_neg (by decide), ok33, ok33, hP, okN hN, ev]
                refine c_addWay (d := d + 2) hN n1 (CNG_FT (CNG_33 hG5 (by decide) n1) hF6 n1) (by omega) (by omega) bT.2 (by omega) ta.1 fun X7 hG7 hF7 => ?_
                rw [ok33]
                have hT7 := CT_net hT6 n1 hF7
                have fr7 : FPL n X X7 := FPL_tr fr5 (FPL_tr FPL_33 (FPL_tr (FPL_FT hF6) (FPL_net n1 hF7)))
                unfold pSg at eu
                refine c_takeSign (d := d + 1) hc hT7 (fun h _ => ?_) fun h X8 hX8 hF8 _ => ?_
                · rw [if_neg h] at eu
                  exact hq _ 0 (by rw [eu]; exact CLS_fl) (FPL_fl fr7)
                · rw [if_pos h] at eu
                  exact hq X8 1 (by rw [eu]; exact ⟨rfl, hX8, CT_lt hT7 hlt6 (show tkd B z (k + 6) ≠ 1 by have q : tkd B z (k + 6) = 5 := h.1; omega), CNG_FT hG7 hF8 n1⟩) (FPL_tr fr7 (FPL_FT hF8))
      · rw [if_neg hr] at eu
        rw [if_pos rfl, ok33]
        exact c_fail (d := d + 2) hc hT1 fun _ => hq _ 0 (by rw [eu]; exact CLS_fl) (FPL_fl fr1)
theorem c_drawLine (hc : RC R) (hP : R 33 5 = n) (hN : NR R n) (n1 : n = 1 ∨ n = 14) (hk1 : tkd B z k ≠ 1) (hS : CPL X B z n K k G) (hq : ∀ X' v, CLS B z n K (pDrw B z k G) v X' → FPL n X X' → Q v SHX R X') : Mw (d + 3) 40 [vr 33] SHX R X 0 0 Q := by
  obtain ⟨hT, hk, hG⟩ := hS
  have hlt := CT_lt hT hk hk1
  have p6 : p33 X (G 0 6) := hG.1.2.2.2.2.2.2.1
  have e6 : X 33 6 = G 0 6 := p6.1
  have eu : pDrw B z k G = if G 0 6 = 0 then pNm B z (k + 1) 0 999 fun v => pSg B z (k + 2) 59 (.inr (k + 3, stm (stm G 0 6 1) 0 5 v)) else flt B z k 2 := rfl
  refine Mw_of mok40 rfl fun _ _ => b_X5_drawLine_0 ?_
  rw [ok33, e6]
  by_cases h0 : G 0 6 = 0
  · rw [if_pos h0] at eu
    unfold pNm at eu
    rw [if_pos h0, ok33, ok33, rc33_2 hc, ok27]
    refine c_step (d := d + 2) hc (CT_33 hT) fun X1 hT1 hF1 => ?_
    have fr1 : FPL n X X1 := FPL_tr FPL_33 (FPL_FT hF1)
    rw [ok33]
    refine c_takeNumber (d := d + 1) hc hT1 (fun h _ => ?_) (fun h g _ => ?_) fun h g X2 hT2 hF2 _ => ?_
    · rw [if_neg h] at eu
      rw [if_pos rfl]
      exact hq _ 0 (by rw [eu]; exact CLS_fl) (FPL_fl fr1)
    · rw [if_pos h, if_pos g] at eu
      rw [if_pos rfl]
      exact hq _ 0 (by rw [eu]; exact CLS_fl) (FPL_fl (FPL_tr fr1 FPL_33))
    · rw [if_pos h, if_neg g] at eu
      dsimp only at eu
      have hlt2 := CT_lt hT1 hlt (by omega)
      have ev : X2 33 7 = tvl B z (k + 1) := by rw [hF2.1 _ (by decide), stm_hit]
      have f33 : p33 (stm X2 n 18 (tvl B z (k + 1))) 1 := by
        refine ⟨?_, ?_, ?_⟩
        · rw [stm_neq (by omega), hF2.1 _ (by decide), stm_neq (by omega), hF1.1 _ (by decide), stm_hit]
        · rw [stm_neq (by omega), hF2.1 _ (by decide), stm_neq (by omega), hF1.1 _ (by decide), stm_neq (by omega)]; exact p6.2.1
        · rw [stm_neq (by omega), hF2.1 _ (by decide), stm_neq (by omega), hF1.1 _ (by decide), stm_neq (by omega)]; exact p6.2.2
      have fq : ∀ q, q ≠ 27 → q ≠ 33 → X2 q = X q := fun q q1 q2 => by rw [hF2.1 q q1, stm_ne q2, hF1.1 q q1, stm_ne q2]
      rw [if_neg (by decide), ok33, ok33, hP, okN hN, ok33, ev]
      have hGn : CNG (stm X2 n 18 (tvl B z (k + 1))) n (stm (stm G 0 6 1) 0 5 (tvl B z (k + 1))) := by
        obtain ⟨⟨s0, s1, s2, s3, s4, s5, s6, s7⟩, bT, bS, bW, bC, bK⟩ := hG
        refine ⟨⟨?_, ?_, ?_, ?_, ?_, ?_, ?_, ?_⟩, fun t t0 t1 => ?_, fun u u0 u1 => ?_, fun w w0 w1 => ?_, fun c c0 c1 => ?_, fun i i0 i1 => ?_⟩
        · simp (disch := omega) only [stm_neq, stm_hit, fq]; exact s0
        · simp (disch := omega) only [stm_neq, stm_hit, fq]; exact s1
        · simp (disch := omega) only [stm_neq, stm_hit, fq]; exact s2
        · simp (disch := omega) only [stm_neq, stm_hit, fq]; exact s3
        · simp (disch := omega) only [stm_neq, stm_hit, fq]; exact s4
        · simp (disch := omega) only [stm_neq, stm_hit, fq]
        · simp (disch := omega) only [stm_neq, stm_hit, fq]; exact f33
        · simp (disch := omega) only [stm_neq, stm_hit, fq]; exact s7
        · simp (disch := omega) only [stm_neq, stm_hit, fq] at t1 ⊢; exact bT t t0 t1
        · simp (disch := omega) only [stm_neq, stm_hit, fq] at u1 ⊢; exact bS u u0 u1
        · simp (disch := omega) only [stm_neq, stm_hit, fq] at w1 ⊢; exact bW w w0 w1
        · simp (disch := omega) only [stm_neq, stm_hit, fq] at c1 ⊢; exact bC c c0 c1
        · simp (disch := omega) only [stm_neq, stm_hit, fq] at i1 ⊢; exact bK i i0 i1
      have hT3 : CT (stm X2 n 18 (tvl B z (k + 1))) B z K (k + 2) := CT_in hT2 (by omega) (by omega)
      have fr3 : FPL n X (stm X2 n 18 (tvl B z (k + 1))) := FPL_tr fr1 (FPL_tr FPL_33 (FPL_tr (FPL_FT hF2) (FPL_C (FPC_in (Or.inl rfl) n1))))
      unfold pSg at eu
      refine c_takeSign (d := d + 1) hc hT3 (fun h _ => ?_) fun h X8 hX8 hF8 _ => ?_
      · rw [if_neg h] at eu
        exact hq _ 0 (by rw [eu]; exact CLS_fl) (FPL_fl fr3)
      · rw [if_pos h] at eu
        exact hq X8 1 (by rw [eu]; exact ⟨rfl, hX8, CT_lt hT3 hlt2 (by omega), CNG_FT hGn hF8 n1⟩) (FPL_tr fr3 (FPL_FT hF8))
  · rw [if_neg h0] at eu
    rw [if_neg h0, ok33]
    exact c_fail (d := d + 2) hc hT fun _ => hq _ 0 (by rw [eu]; exact CLS_fl) (FPL_C FPC_fl)
theorem c_claimLine (hc : RC R) (hP : R 33 5 = n) (hN : NR R n) (n1 : n = 1 ∨ n = 14) (hk1 : tkd B z k ≠ 1) (hS : CPL X B z n K k G) (hL : LGd k G) (hq : ∀ X' v, CLS B z n K (pClm B z k G) v X' → FPL n X X' → Q v SHX R X') : Mw (d + 100) 39 [vr 33] SHX R X 0 0 Q := by
  obtain ⟨hT, hk, hG⟩ := hS
  obtain ⟨hB, h34, hW, hC, h7⟩ := hL
  have hB' := hB
  obtain ⟨bT, bS, bs, bU, bK⟩ := hB'
  have hlt := CT_lt hT hk hk1
  have e11 : X n 11 = G 0 3 := hG.1.2.2.2.1
  have eu : pClm B z k G = if G 0 3 = 6 then flt B z k 2 else if tkd B z (k + 1) = 3 then (if fnd (G 11) (tvl B z (k + 1)) (G 0 3).toNat 0 < 0 then pWd B z (k + 2) 14 (pTw B z (k + 3) G fun t => if G 1 t = 4 then bnd (fmP B z 48 0 0 (k + 4) (stm (stm G 11 (G 0 3) (tvl B z (k + 1))) 0 8 0)) fun k1 G1 => pSg B z k1 59 (.inr (k1 + 1, adC G1 t)) else flt B z (k + 3) 6) else flt B z (k + 1) 3) else flt B z (k + 1) 2 := rfl
  refine Mw_of mok39 rfl fun _ _ => b_X5_claimLine_0 ?_
  rw [ok33, hP, okN hN, e11]
  by_cases h6 : G 0 3 = 6
  · rw [if_pos h6] at eu
    rw [if_pos h6, ok33]
    exact c_fail (d := d + 99) hc hT fun _ => hq _ 0 (by rw [eu]; exact CLS_fl) (FPL_C FPC_fl)
  · rw [if_neg h6] at eu
    rw [if_neg h6, ok33, rc33_2 hc, ok27]
    refine c_step (d := d + 99) hc hT fun X1 hT1 hF1 => ?_
    have hG1 := CNG_FT hG hF1 n1
    have fr1 : FPL n X X1 := FPL_FT hF1
    rw [ok33, rc33_2 hc, ok27, hT1.2.2.1]
    by_cases k3 : tkd B z (k + 1) = 3
    · rw [if_pos k3] at eu
      have hlt2 := CT_lt hT1 hlt (by omega)
      have f11 : X1 n 11 = ((G 0 3).toNat : Int) := by rw [hG1.1.2.2.2.1]; omega
      rw [if_pos k3, ok33, ok33, hP, okN hN, ok33, rc33_4 hc, f11]
      refine c_findR (d := d + 99) hc hT1 fs35 (by decide) (by omega) ?_
      have ef : fnd (X1 35) (tvl B z (k + 1)) (G 0 3).toNat 0 = fnd (G 11) (tvl B z (k + 1)) (G 0 3).toNat 0 := fnd_congr _ _ fun j j0 j1 => (hG1.2.2.2.2.1 j j0 (by omega)).2.2
      rw [ef]
      have fb := fnd_b (f := G 11) (x := tvl B z (k + 1)) (G 0 3).toNat 0 (Int.le_refl _)
      by_cases hw : fnd (G 11) (tvl B z (k + 1)) (G 0 3).toNat 0 < 0
      · rw [if_pos hw] at eu
        have f3 : X1 n 11 = G 0 3 := hG1.1.2.2.2.1
        rw [if_pos (by omega), ok33, ok33, hP, okN hN, ok33, rc33_2 hc, ok27, rc33_4 hc, ak35, ok33, ok27, f3, hT1.2.2.2.2]
        refine ⟨hC.1, by omega, c_step (d := d + 99) hc (CT_in hT1 (by decide) (by decide)) fun X3 hT3 hF3 => ?_⟩
        have hG3 := CNG_FT (CNG_nmC hG1 n1 (tvl B z (k + 1))) hF3 n1
        have g35 : X3 35 (G 0 3) = tvl B z (k + 1) := by rw [hF3.1 _ (by decide), stm_hit]
        have fr3 : FPL n X X3 := FPL_tr fr1 (FPL_tr (FPL_nm (Or.inr rfl)) (FPL_FT hF3))
        have hB3 : BG (stm G 11 (G 0 3) (tvl B z (k + 1))) := by
          unfold BG
          simp (disch := omega) only [stm_neq]
          exact ⟨bT, bS, bs, bU, bK⟩
        rw [ok33]
        unfold pWd at eu
        refine c_takeWord (d := d + 98) hc hT3 (fun h _ => ?_) fun h X4 hT4 hF4 _ => ?_
        · rw [if_neg h] at eu
          rw [if_pos rfl]
          exact hq _ 0 (by rw [eu]; exact CLS_fl) (FPL_fl fr3)
        · rw [if_pos h] at eu
          have hlt3 := CT_lt hT3 hlt2 (by omega)
          have hG4 := CNG_FT hG3 hF4 n1
          have fr4 : FPL n X X4 := FPL_tr fr3 (FPL_FT hF4)
          rw [if_neg (by decide), ok33]
          refine c_towerHere (d := d + 98) hc hP hN hT4 hG4 hB3 ?_
          have et : twH (stm G 11 (G 0 3) (tvl B z (k + 1))) (tvl B z (k + 3)) = twH G (tvl B z (k + 3)) := rfl
          rw [et]
          have tb := twH_b (x := tvl B z (k + 3)) bT.1
          unfold pTw at eu
          rw [ok33]
          refine c_isTowerHere (d := d + 98) hc hT4 (fun h _ => ?_) (fun h g _ => ?_) fun h g _ => ?_
          · rw [if_neg h] at eu
            rw [if_pos rfl]
            exact hq _ 0 (by rw [eu]; exact CLS_fl) (FPL_fl fr4)
          · rw [if_pos h, if_pos (by omega)] at eu
            rw [if_pos rfl]
            exact hq _ 0 (by rw [eu]; exact CLS_fl) (FPL_fl fr4)
          · rw [if_pos h, if_neg (by omega)] at eu
            dsimp only at eu
            have hlt4 := CT_lt hT4 hlt3 (by omega)
            have es : X4 (n + 1) (twH G (tvl B z (k + 3))) = G 1 (twH G (tvl B z (k + 3))) := by
              have hh := hG4.2.1 (twH G (tvl B z (k + 3))) (by omega) (by simp (disch := omega) only [stm_neq]; omega)
              have h1 := hh.1
              simp (disch := omega) only [stm_neq] at h1
              exact h1
            rw [if_neg (by decide), ok33, hP, okN hN, nr1 hN, aN1 hN, es]
            refine ⟨by omega, by omega, ?_⟩
            by_cases h4 : G 1 (twH G (tvl B z (k + 3))) = 4
            · rw [if_pos h4] at eu
              rw [if_pos h4, ok33, rc33_2 hc, ok27]
              refine c_step (d := d + 99) hc hT4 fun X5 hT5 hF5 => ?_
              have hG5 := CNG_FT hG4 hF5 n1
              rw [ok33, ok33]
              have hP0 : CPF (stm X5 33 8 0) B z n K (k + 4) (stm (stm G 11 (G 0 3) (tvl B z (k + 1))) 0 8 0) := by
                refine ⟨CT_33 hT5, hlt4, CNG_08 (CNG_33 hG5 (by decide) n1), ?_, ?_, ?_, ?_⟩
                · rw [stm_hit, stm_hit]
                · unfold BG
                  simp (disch := omega) only [stm_neq]
                  exact ⟨bT, bS, bs, bU, bK⟩
                · rw [stm_hit]; decide
                · simp (disch := omega) only [stm_neq]; omega
              have fr5 : FPL n X (stm X5 33 8 0) := FPL_tr fr4 (FPL_tr (FPL_FT hF5) FPL_33)
              refine c_formula hc hP hN n1 48 (d + 99) 0 0 (k + 4) _ _ _ (by omega) (by decide) (by decide) (by decide) (by decide) (by decide) hP0 fun X6 v hr hF6 hv => ?_
              have fr6 : FPL n X X6 := FPL_tr fr5 (FPL_C hF6)
              cases hf : fmP B z 48 0 0 (k + 4) (stm (stm G 11 (G 0 3) (tvl B z (k + 1))) 0 8 0) with
              | inl e =>
                rw [hf] at hr eu
                obtain ⟨q1, q2, q3⟩ := hr
                subst q1
                have eu' : pClm B z k G = .inl e := eu
                rw [if_pos rfl]
                exact hq X6 0 (by rw [eu']; exact ⟨rfl, q2, q3⟩) fr6
              | inr s =>
                rw [hf] at hr eu
                obtain ⟨q1, q2⟩ := hr
                subst q1
                have eu' : pClm B z k G = pSg B z s.1 59 (.inr (s.1 + 1, adC s.2 (twH G (tvl B z (k + 3))))) := eu
                obtain ⟨w1, w2, w3, w4, w5, w6, w7⟩ := q2
                have hgr := GR_fm 48 0 0 (k + 4) _ s.1 s.2 (by simp (disch := omega) only [stm_neq]; exact bS.2) hf
                have g3 : s.2 0 3 = G 0 3 := by rw [hgr.2.2.2.1 0 3 (by omega) (by omega)]; simp (disch := omega) only [stm_neq]
                have g11 : s.2 11 (G 0 3) = tvl B z (k + 1) := by rw [hgr.2.2.2.1 11 _ (by omega) (by omega)]; simp (disch := omega) only [stm_neq, stm_hit]
                have x35 : X6 35 (G 0 3) = tvl B z (k + 1) := by rw [hF6.1 35 (by decide) (by decide) (by omega), stm_neq (by omega), hF5.1 _ (by decide), hF4.1 _ (by decide)]; exact g35
                rw [if_neg (by decide), ok33, hP, okN hN]
                refine c_addClaim (d := d + 99) (nm := tvl B z (k + 1)) hN n1 w3 (by rw [g3]; exact x35) (by omega) (by rw [g3]; exact g11) fun X7 hG7 hF7 => ?_
                rw [ok33]
                have hT7 := CT_net w1 n1 hF7
                have fr7 : FPL n X X7 := FPL_tr fr6 (FPL_net n1 hF7)
                unfold pSg at eu'
                refine c_takeSign (d := d + 98) hc hT7 (fun h _ => ?_) fun h X8 hX8 hF8 _ => ?_
                · rw [if_neg h] at eu'
                  exact hq _ 0 (by rw [eu']; exact CLS_fl) (FPL_fl fr7)
                · rw [if_pos h] at eu'
                  exact hq X8 1 (by rw [eu']; exact ⟨rfl, hX8, CT_lt hT7 w2 (by omega), CNG_FT hG7 hF8 n1⟩) (FPL_tr fr7 (FPL_FT hF8))
            · rw [if_neg h4] at eu
              rw [if_neg h4, ok33]
              exact c_fail (d := d + 99) hc hT4 fun _ => hq _ 0 (by rw [eu]; exact CLS_fl) (FPL_fl fr4)
      · rw [if_neg hw] at eu
        rw [if_neg (by omega), ok33]
        exact c_fail (d := d + 99) hc hT1 fun _ => hq _ 0 (by rw [eu]; exact CLS_fl) (FPL_fl fr1)
    · rw [if_neg k3] at eu
      rw [if_neg k3, ok33]
      exact c_fail (d := d + 99) hc hT1 fun _ => hq _ 0 (by rw [eu]; exact CLS_fl) (FPL_fl fr1)
theorem c_line (hc : RC R) (hP : R 33 5 = n) (hN : NR R n) (n1 : n = 1 ∨ n = 14) (hS : CPL X B z n K k G) (hL : LGd k G) (hq : ∀ X' v, CLS B z n K (pLin B z k G) v X' → FPL n X X' → Q v SHX R X') : Mw (d + 101) 36 [vr 33] SHX R X 0 0 Q := by
  have hS' := hS
  obtain ⟨hT, hk, hG⟩ := hS
  have eu : pLin B z k G = if tkd B z k = 2 then (if tvl B z k ≤ 8 then pTow B z (tvl B z k) k G else if tvl B z k = 9 then pWay B z k G else if tvl B z k = 10 then pClm B z k G else if tvl B z k = 11 then pDrw B z k G else flt B z k 2) else flt B z k 2 := rfl
  refine Mw_of mok36 rfl fun _ _ => b_X5_line_0 ?_
  have two : ∀ (x : Int) (P : Prop), (x = 0 ∨ x = 1) → P → bq x P := fun x P hx hp => by rcases hx with rfl | rfl <;> exact hp
  rw [ok33, rc33_2 hc, ok27, hT.2.2.1]
  by_cases h2 : tkd B z k = 2
  · rw [if_pos h2] at eu
    obtain ⟨j, j1, j2⟩ := tok_kw h2
    have ev : w32 (X 27 10) = tvl B z k := by rw [hT.2.2.2.2]; exact w32_of (by omega) (by omega)
    rw [if_pos h2, ok33, ok27, ev]
    by_cases h8 : tvl B z k ≤ 8
    · rw [if_pos h8] at eu
      rw [if_neg (by omega), ok33]
      exact c_towerLine (d := d + 97) hc hP hN n1 (by omega) hS' hL (by omega) fun X' v hr hF hv => two _ _ hv (hq X' v (by rw [eu]; exact hr) hF)
    · rw [if_neg h8] at eu
      rw [if_pos (by omega)]
      by_cases h9 : tvl B z k = 9
      · rw [if_pos h9] at eu
        rw [if_pos h9, ok33]
        exact c_wayLine (d := d + 97) hc hP hN n1 (by omega) hS' hL fun X' v hr hF hv => two _ _ hv (hq X' v (by rw [eu]; exact hr) hF)
      · rw [if_neg h9] at eu
        rw [if_neg h9]
        by_cases h10 : tvl B z k = 10
        · rw [if_pos h10] at eu
          rw [if_pos h10, ok33]
          exact c_claimLine (d := d) hc hP hN n1 (by omega) hS' hL fun X' v hr hF hv => two _ _ hv (hq X' v (by rw [eu]; exact hr) hF)
        · rw [if_neg h10] at eu
          rw [if_neg h10]
          by_cases h11 : tvl B z k = 11
          · rw [if_pos h11] at eu
            rw [if_pos h11, ok33]
            exact c_drawLine (d := d + 97) hc hP hN n1 (by omega) hS' fun X' v hr hF hv => two _ _ hv (hq X' v (by rw [eu]; exact hr) hF)
          · rw [if_neg h11] at eu
            rw [if_neg h11, ok33]
            exact c_fail (d := d + 100) hc hT fun _ => hq _ 0 (by rw [eu]; exact CLS_fl) (FPL_C FPC_fl)
  · rw [if_neg h2] at eu
    rw [if_neg h2, ok33]
    exact c_fail (d := d + 100) hc hT fun _ => hq _ 0 (by rw [eu]; exact CLS_fl) (FPL_C FPC_fl)
end
