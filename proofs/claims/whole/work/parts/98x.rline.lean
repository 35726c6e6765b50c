/-! THE PARSER, the reference: a line -/
/-- what a text may change -/
def BKW (r q j : Int) : Prop := (q = 364 ∧ ((3 ≤ j ∧ j ≤ 10) ∨ (38 ≤ j ∧ j ≤ 41))) ∨ q = 389 ∨ q = 390 ∨ (((367 ≤ q ∧ q ≤ 372) ∨ q = 384) ∧ j = r) ∨ ((q = 373 ∨ q = 374 ∨ q = 379 ∨ q = 380 ∨ q = 385) ∧ 10 * r ≤ j ∧ j < 10 * r + 10) ∨ (q = 375 ∧ 3 * r ≤ j ∧ j < 3 * r + 3) ∨ ((376 ≤ q ∧ q ≤ 378) ∧ 16 * r ≤ j ∧ j < 16 * r + 16) ∨ (((381 ≤ q ∧ q ≤ 383) ∨ q = 386) ∧ 6 * r ≤ j ∧ j < 6 * r + 6) ∨ ((q = 387 ∨ q = 388) ∧ 600 * r ≤ j ∧ j < 600 * r + 600)
def FPW (r : Int) (X Y : MEM) : Prop := ∀ q j, ¬ BKW r q j → Y q j = X q j
/-- a tower, a way, a claim, a draw: behind the line's first word, without its end -/
def towP (B : Int → Int) (z s : Int) (k : Nat) (G : NTW) : RSP :=
  if tkd B z k = 3 then
    (if twH G (tvl B z k) < 0 then
      (if s < 5 then .inr (k + 1, adT (stm G 10 (G 0 0) (tvl B z k)) s 0)
       else pNm B z (k + 1) 1 99 fun v => .inr (k + 2, adT (stm G 10 (G 0 0) (tvl B z k)) s v))
     else flt B z k 3)
  else flt B z k 2
noncomputable def wayP (B : Int → Int) (z : Int) (k : Nat) (G : NTW) : RSP :=
  pTw B z k G fun a => @ite RSP (rmG G a) (Classical.propDecidable _) (pWd B z (k + 1) 12 (pTw B z (k + 2) G fun b => pWd B z (k + 3) 13 (pNm B z (k + 4) 1 9 fun v => .inr (k + 5, adW G a b v)))) (flt B z k 6)
def clmP (B : Int → Int) (z : Int) (k : Nat) (G : NTW) : RSP :=
  if tkd B z k = 3 then
    (if fnd (G 11) (tvl B z k) (G 0 3).toNat 0 < 0 then
      pWd B z (k + 1) 14 (pTw B z (k + 2) G fun t => if G 1 t = 4 then bnd (efP B z (k + 3) (stm (stm G 11 (G 0 3) (tvl B z k)) 0 8 0)) fun k1 G1 => .inr (k1, adC G1 t) else flt B z (k + 2) 6)
     else flt B z k 3)
  else flt B z k 2
def drwP (B : Int → Int) (z : Int) (k : Nat) (G : NTW) : RSP := pNm B z k 0 999 fun v => .inr (k + 1, stm (stm G 0 6 1) 0 5 v)
section
variable {d : Nat} {R X Y : MEM} {B : Int → Int} {z r v w x a b c f n rk t : Int} {k : Nat} {s : SNK} {S : SKK} {G : NTW} {Q : RES}
theorem FPW_self : FPW r X X := fun _ _ _ => rfl
theorem FPW_tr {W : MEM} (h : FPW r X Y) (g : FPW r Y W) : FPW r X W := fun q j hn => (g q j hn).trans (h q j hn)
theorem FPW_7 (h : FM7 X Y) : FPW r X Y := fun q j hn => by
  by_cases hq : q = 364
  · subst hq
    refine h.2 j (Classical.byContradiction fun g => hn (Or.inl ⟨rfl, Or.inl (by omega)⟩))
  · rw [h.1 q hq]
theorem FPW_st {p i : Int} (h : FPW r X Y) (hb : BKW r p i) : FPW r X (stm Y p i v) := fun q j hn => by
  rw [stm_neq (fun e => hn (by rw [e.1, e.2]; exact hb))]
  exact h q j hn
theorem FPW_Q (hr : r = 0 ∨ r = 1) (h : FPQ r c X Y) (c0 : 0 ≤ c) (c1 : c < 6) : FPW r X Y := fun q j hn => by
  refine h q j fun g => hn ?_
  unfold BKR BKS at g
  unfold BKW
  omega
theorem MSt_W {p i : Int} (h : MSt B z s Y) (hp : p ≠ 364) (hp6 : p ≠ 366) : MSt B z s (stm Y p i v) := MSt_of h (fun j _ _ => stm_neq (by omega)) (stm_ne (by omega))
theorem WLI_GF (h : WLI k G) : GF G := ⟨wn_T h.1, wn_S h.1, fun s s0 s1 => ⟨(wn_st h.1 s s0 s1).1, (wn_st h.1 s s0 s1).2.1⟩, h.2.2.1.1, h.2.2.1.2.1⟩
theorem tow_36 (hR : RM R) (hr : r = 0 ∨ r = 1) (hG : MNG Y r G) (hT : 0 ≤ G 0 0 ∧ G 0 0 < 10) (hs : v = 0 → G 0 1 < 3) (hS : 0 ≤ G 0 1 ∧ G 0 1 ≤ 3) (hM : MSt B z s Y) (hq : ∀ Y', MSt B z s Y' → (∀ nm, Y 385 (10 * r + G 0 0) = cvw nm → Y 373 (10 * r + G 0 0) = v → MNG Y' r (adT (stm G 10 (G 0 0) nm) v x)) → FPW r Y Y' → Q 0 SHX R Y') : Go d 177 Q 36 [vr 364, vi v, vi (10 * r + G 0 0)] [vi x, vi (10 * r + G 0 0), vr 374] SHX R Y 0 0 := by
  have hG' := hG
  obtain ⟨⟨a0, a1, a2, a3, a4, a5, a6, a7, a8⟩, bT, bS, bW, bC, bK⟩ := hG'
  refine b_X12_readTower_36 ?_
  by_cases h0 : v = 0
  · have hs := hs h0
    simp (disch := omega) only [ok364, fr23 hR, fr24 hR, fr12 hR, fr11 hR, fr19 hR, ak374, ak379, ak380, ak368, ak367, ak375, stm_neq, a0, a1, a2, imul_of, iadd_of]
    rw [if_pos h0]
    refine ⟨by omega, by omega, by omega, by omega, by omega, by omega, by omega, by omega, by omega, by omega, by omega, by omega, by omega, by omega, by omega, by omega, ?_⟩
    refine b_X12_readTower_76 ?_
    simp (disch := omega) only [ok364, fr11 hR, ak367, stm_neq, a0, a1, iadd_of]
    refine ⟨by omega, by omega, by omega, by omega, hq _ (MSt_of hM (fun j _ _ => by simp (disch := omega) only [stm_neq]) (by simp (disch := omega) only [stm_ne])) (fun nm h5 h3 => ?_) (FPW_st (FPW_st (FPW_st (FPW_st (FPW_st (FPW_st FPW_self ?_) ?_) ?_) ?_) ?_) ?_)⟩
    · rw [adT_pos h0]
      refine ⟨⟨?_, ?_, ?_, ?_, ?_, ?_, ?_, ?_, ?_⟩, fun t t0 t1 => ?_, fun s s0 s1 => ?_, fun w w0 w1 => ?_, fun c c0 c1 => ?_, fun i i0 i1 => ?_⟩
      · simp (disch := omega) only [stm_neq, stm_hit]; exact a0
      · simp (disch := omega) only [stm_neq, stm_hit]
      · simp (disch := omega) only [stm_neq, stm_hit]
      · simp (disch := omega) only [stm_neq, stm_hit]; exact a3
      · simp (disch := omega) only [stm_neq, stm_hit]; exact a4
      · simp (disch := omega) only [stm_neq, stm_hit]; exact a5
      · simp (disch := omega) only [stm_neq, stm_hit]; exact a6
      · simp (disch := omega) only [stm_neq, stm_hit]; exact a7
      · simp (disch := omega) only [stm_neq, stm_hit]; exact a8
      · simp (disch := omega) only [stm_neq, stm_hit] at t1
        by_cases ht : t = G 0 0
        · subst ht
          simp (disch := omega) only [stm_neq, stm_hit]
          exact ⟨h3, trivial, trivial, trivial, h5⟩
        · simp (disch := omega) only [stm_neq, stm_hit]
          exact bT t t0 (by omega)
      · simp (disch := omega) only [stm_neq, stm_hit] at s1
        by_cases ht : s = G 0 1
        · subst ht
          simp (disch := omega) only [stm_neq, stm_hit]
        · simp (disch := omega) only [stm_neq, stm_hit]
          exact bS s s0 (by omega)
      · simp (disch := omega) only [stm_neq, stm_hit] at w1 ⊢
        exact bW w w0 w1
      · simp (disch := omega) only [stm_neq, stm_hit] at c1 ⊢
        exact bC c c0 c1
      · simp (disch := omega) only [stm_neq, stm_hit] at i1 ⊢
        exact codeOK_m (bK i i0 i1) (by omega)
    all_goals unfold BKW
    all_goals omega
  · simp (disch := omega) only [ok364, fr23 hR, fr24 hR, fr12 hR, fr11 hR, fr19 hR, ak374, ak379, ak380, ak368, ak367, ak375, stm_neq, a0, a1, a2, imul_of, iadd_of]
    rw [if_neg h0]
    refine ⟨by omega, by omega, by omega, by omega, by omega, by omega, ?_⟩
    refine b_X12_readTower_76 ?_
    simp (disch := omega) only [ok364, fr11 hR, ak367, stm_neq, a0, a1, iadd_of]
    refine ⟨by omega, by omega, by omega, by omega, hq _ (MSt_of hM (fun j _ _ => by simp (disch := omega) only [stm_neq]) (by simp (disch := omega) only [stm_ne])) (fun nm h5 h3 => ?_) (FPW_st (FPW_st (FPW_st (FPW_st FPW_self ?_) ?_) ?_) ?_)⟩
    · rw [adT_neg h0]
      refine ⟨⟨?_, ?_, ?_, ?_, ?_, ?_, ?_, ?_, ?_⟩, fun t t0 t1 => ?_, fun s s0 s1 => ?_, fun w w0 w1 => ?_, fun c c0 c1 => ?_, fun i i0 i1 => ?_⟩
      · simp (disch := omega) only [stm_neq, stm_hit]; exact a0
      · simp (disch := omega) only [stm_neq, stm_hit]
      · simp (disch := omega) only [stm_neq, stm_hit]; exact a2
      · simp (disch := omega) only [stm_neq, stm_hit]; exact a3
      · simp (disch := omega) only [stm_neq, stm_hit]; exact a4
      · simp (disch := omega) only [stm_neq, stm_hit]; exact a5
      · simp (disch := omega) only [stm_neq, stm_hit]; exact a6
      · simp (disch := omega) only [stm_neq, stm_hit]; exact a7
      · simp (disch := omega) only [stm_neq, stm_hit]; exact a8
      · simp (disch := omega) only [stm_neq, stm_hit] at t1
        by_cases ht : t = G 0 0
        · subst ht
          simp (disch := omega) only [stm_neq, stm_hit]
          exact ⟨h3, trivial, trivial, trivial, h5⟩
        · simp (disch := omega) only [stm_neq, stm_hit]
          exact bT t t0 (by omega)
      · simp (disch := omega) only [stm_neq, stm_hit] at s1 ⊢
        exact bS s s0 s1
      · simp (disch := omega) only [stm_neq, stm_hit] at w1 ⊢
        exact bW w w0 w1
      · simp (disch := omega) only [stm_neq, stm_hit] at c1 ⊢
        exact bC c c0 c1
      · simp (disch := omega) only [stm_neq, stm_hit] at i1 ⊢
        exact bK i i0 i1
    all_goals unfold BKW
    all_goals omega
theorem MNG_T {p i : Int} (h : MNG Y r G) (hT : 0 ≤ G 0 0 ∧ G 0 0 ≤ 10) (hp : p = 373 ∨ p = 374 ∨ p = 379 ∨ p = 380 ∨ p = 385) (hi : 10 * r + G 0 0 ≤ i) : MNG (stm Y p i v) r G := by
  refine MNG_ag h (stm_neq (by omega)) (stm_neq (by omega)) (fun q hq => stm_neq (by omega)) (fun q t hq t0 t1 => stm_neq (by omega)) (fun t t0 t1 => stm_neq (by omega)) (fun q t q0 q1 t0 t1 => stm_neq (by omega)) (fun q t hq t0 t1 => stm_neq (by omega)) fun q t hq t0 t1 => stm_neq (by omega)
theorem r_tower (hR : RM R) (hr : r = 0 ∨ r = 1) (hM : MSt B z (.inr k) Y) (hG : MNG Y r G) (hF : GF G) (hT : G 0 0 < 10) (h0 : v = 0 → G 0 1 < 3) (hv : 0 ≤ v ∧ v ≤ 8) (hq : ∀ Y', RLR B z r (towP B z v k G) Y' → FPW r Y Y' → Q 0 SHX R Y') : Mw (d + 3) 177 [vr 364, vi v] SHX R Y 0 0 Q := by
  have hF' := hF
  obtain ⟨fT, fS, fs, fi, fv⟩ := hF'
  have hG' := hG
  obtain ⟨⟨a0, a1, _⟩, _⟩ := hG'
  have et : towP B z v k G = if tkd B z k = 3 then (if twH G (tvl B z k) < 0 then (if v < 5 then .inr (k + 1, adT (stm G 10 (G 0 0) (tvl B z k)) v 0) else pNm B z (k + 1) 1 99 fun w => .inr (k + 2, adT (stm G 10 (G 0 0) (tvl B z k)) v w)) else flt B z k 3) else flt B z k 2 := rfl
  refine Mw_of mok177 rfl fun _ _ => b_X12_readTower_0 ?_
  simp (disch := omega) only [ok364, fr11 hR, fr29 hR, ak367, a0, a1, imul_of, iadd_of]
  refine ⟨by omega, by omega, ?_⟩
  refine r_towerHere (d := d + 1) hR hr hM hG fT fv ?_
  rw [ok364]
  refine r_fresh (d := d) hR hM fun nm Y1 h1 f1 hn => ?_
  have hG1 := MNG_7 hG f1
  simp (disch := omega) only [ok364, fr17 hR, fr18 hR, ak385, ak373]
  refine ⟨by omega, by omega, by omega, by omega, ?_⟩
  -- the name and the sort
  have hG2 : MNG (stm (stm Y1 385 (10 * r + G 0 0) nm) 373 (10 * r + G 0 0) v) r G := MNG_T (MNG_T hG1 fT (by decide) (Int.le_refl _)) fT (by decide) (Int.le_refl _)
  have h2 := MSt_W (p := 373) (i := 10 * r + G 0 0) (v := v) (MSt_W (p := 385) (i := 10 * r + G 0 0) (v := nm) h1 (by decide) (by decide)) (by decide) (by decide)
  have f2 : FPW r Y (stm (stm Y1 385 (10 * r + G 0 0) nm) 373 (10 * r + G 0 0) v) := FPW_st (FPW_st (FPW_7 f1) (by unfold BKW; omega)) (by unfold BKW; omega)
  obtain ⟨Y2, hY2⟩ : ∃ Y2, Y2 = stm (stm Y1 385 (10 * r + G 0 0) nm) 373 (10 * r + G 0 0) v := ⟨_, rfl⟩
  have e5 : Y2 385 (10 * r + G 0 0) = nm := by rw [hY2, stm_neq (by omega), stm_hit]
  have e3 : Y2 373 (10 * r + G 0 0) = v := by rw [hY2, stm_hit]
  rw [← hY2] at hG2 h2 f2 ⊢
  have ef : frP B z (.inr k) (if tkd B z k = 3 then twH G (tvl B z k) else -1) = if tkd B z k = 3 then (if (if tkd B z k = 3 then twH G (tvl B z k) else -1) < 0 then .inr (k + 1) else .inl (ftE B z k 3)) else .inl (ftE B z k 2) := rfl
  -- good or bad
  have gb : (∃ e, frP B z (.inr k) (if tkd B z k = 3 then twH G (tvl B z k) else -1) = .inl e ∧ towP B z v k G = .inl e) ∨ (frP B z (.inr k) (if tkd B z k = 3 then twH G (tvl B z k) else -1) = .inr (k + 1) ∧ nm = cvw (tvl B z k) ∧ towP B z v k G = (if v < 5 then .inr (k + 1, adT (stm G 10 (G 0 0) (tvl B z k)) v 0) else pNm B z (k + 1) 1 99 fun w => .inr (k + 2, adT (stm G 10 (G 0 0) (tvl B z k)) v w))) := by
    by_cases k3 : tkd B z k = 3
    · rw [if_pos k3] at et
      simp only [if_pos k3] at ef hn ⊢
      by_cases ht : twH G (tvl B z k) < 0
      · rw [if_pos ht] at et ef
        exact Or.inr ⟨ef, hn k3 ht, et⟩
      · rw [if_neg ht] at et ef
        exact Or.inl ⟨_, ef, et⟩
    · rw [if_neg k3] at et
      simp only [if_neg k3] at ef ⊢
      exact Or.inl ⟨_, ef, et⟩
  rcases gb with ⟨e, g1, g2⟩ | ⟨g1, g2, g3⟩
  · rw [g1] at h2
    rw [g2] at hq
    by_cases hv5 : v < 5
    · rw [if_pos hv5]
      exact tow_36 hR hr hG2 ⟨fT.1, hT⟩ h0 fS h2 fun Y3 h3 _ f3 => hq Y3 h3 (FPW_tr f2 f3)
    · rw [if_neg hv5]
      refine r_numeral (d := d) hR h2 fun w Y3 h3 f3 _ => ?_
      exact tow_36 hR hr (MNG_7 hG2 f3) ⟨fT.1, hT⟩ h0 fS h3 fun Y4 h4 _ f4 => hq Y4 h4 (FPW_tr f2 (FPW_tr (FPW_7 f3) f4))
  · rw [g1] at h2
    by_cases hv5 : v < 5
    · rw [if_pos hv5] at g3 ⊢
      rw [g3] at hq
      exact tow_36 hR hr hG2 ⟨fT.1, hT⟩ h0 fS h2 fun Y3 h3 m3 f3 => hq Y3 ⟨h3, m3 _ (by rw [e5, g2]) e3⟩ (FPW_tr f2 f3)
    · rw [if_neg hv5] at g3 ⊢
      refine r_numeral (d := d) hR h2 fun w Y3 h3 f3 hw => ?_
      have en : nuP B z (.inr (k + 1)) 1 99 = if tkd B z (k + 1) = 4 then (if tvl B z (k + 1) < 1 ∨ 99 < tvl B z (k + 1) then .inl (ftE B z (k + 1) 4) else .inr (k + 1 + 1)) else .inl (ftE B z (k + 1) 2) := rfl
      refine tow_36 hR hr (MNG_7 hG2 f3) ⟨fT.1, hT⟩ h0 fS h3 fun Y4 h4 m4 f4 => hq Y4 ?_ (FPW_tr f2 (FPW_tr (FPW_7 f3) f4))
      rw [g3]
      unfold pNm
      by_cases k4 : tkd B z (k + 1) = 4
      · rw [if_pos k4] at en ⊢
        by_cases hb : tvl B z (k + 1) < 1 ∨ 99 < tvl B z (k + 1)
        · rw [if_pos hb] at en ⊢
          rw [en] at h4
          exact h4
        · rw [if_neg hb] at en ⊢
          rw [hw _ _ rfl en] at m4
          rw [en] at h4
          refine ⟨h4, m4 _ ?_ ?_⟩
          · rw [f3.1 385 (by decide), e5, g2]
          · rw [f3.1 373 (by decide), e3]
      · rw [if_neg k4] at en ⊢
        rw [en] at h4
        exact h4
theorem r_draw (hR : RM R) (hr : r = 0 ∨ r = 1) (hM : MSt B z (.inr k) Y) (hG : MNG Y r G) (hq : ∀ Y', RLR B z r (drwP B z k G) Y' → FPW r Y Y' → Q 0 SHX R Y') : Mw (d + 3) 172 [vr 364] SHX R Y 0 0 Q := by
  have hG' := hG
  obtain ⟨⟨a0, a1, a2, a3, a4, a5, a6, a7, a8⟩, bT, bS, bW, bC, bK⟩ := hG'
  refine Mw_of mok172 rfl fun _ _ => b_X12_readDraw_0 ?_
  simp (disch := omega) only [ok364, fr28 hR, fr16 hR, ak384, ak372, stm_neq, a0]
  refine ⟨by omega, by omega, ?_⟩
  have h1 := MSt_W (p := 384) (i := r) (v := 1) hM (by decide) (by decide)
  refine r_numeral (d := d) hR h1 fun w Y2 h2 f2 hw => ?_
  simp only [ak372]
  have e7 : ∀ q, q ≠ 364 → Y2 q = stm Y 384 r 1 q := fun q hq => f2.1 q hq
  refine ⟨by omega, by omega, hq _ ?_ (FPW_st (FPW_tr (FPW_st FPW_self (by unfold BKW; omega)) (FPW_7 f2)) (by unfold BKW; omega))⟩
  have en : nuP B z (.inr k) 0 999 = if tkd B z k = 4 then (if tvl B z k < 0 ∨ 999 < tvl B z k then .inl (ftE B z k 4) else .inr (k + 1)) else .inl (ftE B z k 2) := rfl
  unfold drwP pNm
  have h3 := MSt_W (p := 372) (i := r) (v := w) h2 (by decide) (by decide)
  by_cases k4 : tkd B z k = 4
  · rw [if_pos k4] at en ⊢
    by_cases hb : tvl B z k < 0 ∨ 999 < tvl B z k
    · rw [if_pos hb] at en ⊢
      rw [en] at h3
      exact h3
    · rw [if_neg hb] at en ⊢
      rw [en] at h3
      rw [hw _ _ rfl en] at h3 ⊢
      refine ⟨h3, ⟨?_, ?_, ?_, ?_, ?_, ?_, ?_, ?_, ?_⟩, fun t t0 t1 => ?_, fun s s0 s1 => ?_, fun w w0 w1 => ?_, fun c c0 c1 => ?_, fun i i0 i1 => ?_⟩
      · simp (disch := omega) only [stm_neq]; rw [f2.2 37 (by omega)]; simp (disch := omega) only [stm_neq]; exact a0
      · simp (disch := omega) only [stm_neq, e7]; exact a1
      · simp (disch := omega) only [stm_neq, e7]; exact a2
      · simp (disch := omega) only [stm_neq, e7]; exact a3
      · simp (disch := omega) only [stm_neq, e7]; exact a4
      · simp (disch := omega) only [stm_neq, e7]; exact a5
      · simp (disch := omega) only [stm_neq, stm_hit]
      · simp (disch := omega) only [stm_neq, e7, stm_hit]
      · simp (disch := omega) only [stm_neq]; rw [f2.2 38 (by omega)]; simp (disch := omega) only [stm_neq]; exact a8
      · simp (disch := omega) only [stm_neq, e7] at t1 ⊢; exact bT t t0 t1
      · simp (disch := omega) only [stm_neq, e7] at s1 ⊢; exact bS s s0 s1
      · simp (disch := omega) only [stm_neq, e7] at w1 ⊢; exact bW w w0 w1
      · simp (disch := omega) only [stm_neq, e7] at c1 ⊢; exact bC c c0 c1
      · simp (disch := omega) only [stm_neq, e7] at i1 ⊢; exact bK i i0 i1
  · rw [if_neg k4] at en ⊢
    rw [en] at h3
    exact h3
end
