/-! THE PARSER, the reference: the bank under way -/
def MNG (X : MEM) (r : Int) (G : NTW) : Prop :=
  (X 364 37 = r ∧ X 367 r = G 0 0 ∧ X 368 r = G 0 1 ∧ X 369 r = G 0 2 ∧ X 370 r = G 0 3 ∧ X 371 r = G 0 4 ∧ X 372 r = G 0 5 ∧ X 384 r = G 0 6 ∧ X 364 38 = 600 * r + G 0 7)
  ∧ (∀ t, 0 ≤ t → t < G 0 0 → X 373 (10 * r + t) = G 1 t ∧ X 374 (10 * r + t) = G 2 t ∧ X 379 (10 * r + t) = G 3 t ∧ X 380 (10 * r + t) = G 4 t ∧ X 385 (10 * r + t) = cvw (G 10 t))
  ∧ (∀ s, 0 ≤ s → s < G 0 1 → X 375 (3 * r + s) = G 5 s)
  ∧ (∀ w, 0 ≤ w → w < G 0 2 → X 376 (16 * r + w) = G 6 w ∧ X 377 (16 * r + w) = G 7 w ∧ X 378 (16 * r + w) = G 8 w)
  ∧ (∀ c, 0 ≤ c → c < G 0 3 → X 381 (6 * r + c) = G 9 c ∧ X 382 (6 * r + c) = 600 * r + (if c = 0 then 0 else G 13 (c - 1)) ∧ X 383 (6 * r + c) = 600 * r + G 13 c ∧ X 386 (6 * r + c) = cvw (G 11 c))
  ∧ (∀ i, 0 ≤ i → i < G 0 7 → codeOK (G 12 i) (X 387 (600 * r + i)) (X 388 (600 * r + i)) (G 0 1))
/-- what a formula may change -/
def BKS (r q j : Int) : Prop := (q = 364 ∧ ((3 ≤ j ∧ j ≤ 10) ∨ (38 ≤ j ∧ j ≤ 41))) ∨ (q = 0 ∧ q = 1) ∨ q = 389 ∨ q = 390 ∨ (((371 ≤ q ∧ q ≤ 371) ∨ (q = 0 ∧ q = 1)) ∧ j = r) ∨ (q = 0 ∧ q = 1) ∨ (q = 0 ∧ q = 1) ∨ (q = 0 ∧ q = 1) ∨ (q = 0 ∧ q = 1) ∨ ((q = 387 ∨ q = 388) ∧ 600 * r ≤ j ∧ j < 600 * r + 600)
def FPB (r : Int) (X Y : MEM) : Prop := ∀ q j, ¬ BKS r q j → Y q j = X q j
section
variable {d : Nat} {R X Y : MEM} {B : Int → Int} {z r v w x a b c f n : Int} {k : Nat} {s : SNK} {G : NTW} {Q : RES}
theorem FPB_self : FPB r X X := fun _ _ _ => rfl
theorem FPB_tr {W : MEM} (h : FPB r X Y) (g : FPB r Y W) : FPB r X W := fun q j hn => (g q j hn).trans (h q j hn)
theorem FPB_7 (h : FM7 X Y) : FPB r X Y := fun q j hn => by
  by_cases hq : q = 364
  · subst hq
    refine h.2 j (Classical.byContradiction fun g => hn (Or.inl ⟨rfl, Or.inl (by omega)⟩))
  · rw [h.1 q hq]
theorem FPB_st {p i : Int} (h : FPB r X Y) (hb : BKS r p i) : FPB r X (stm Y p i v) := fun q j hn => by
  rw [stm_neq (fun e => hn (by rw [e.1, e.2]; exact hb))]
  exact h q j hn
theorem MNG_of (h : MNG X r G) (e : ∀ q, 367 ≤ q → q ≤ 388 → Y q = X q) (e1 : Y 364 37 = X 364 37) (e2 : Y 364 38 = X 364 38) : MNG Y r G := by
  unfold MNG at h ⊢
  rw [e1, e2, e 367 (by decide) (by decide), e 368 (by decide) (by decide), e 369 (by decide) (by decide), e 370 (by decide) (by decide), e 371 (by decide) (by decide), e 372 (by decide) (by decide), e 373 (by decide) (by decide), e 374 (by decide) (by decide), e 375 (by decide) (by decide), e 376 (by decide) (by decide), e 377 (by decide) (by decide), e 378 (by decide) (by decide), e 379 (by decide) (by decide), e 380 (by decide) (by decide), e 381 (by decide) (by decide), e 382 (by decide) (by decide), e 383 (by decide) (by decide), e 384 (by decide) (by decide), e 385 (by decide) (by decide), e 386 (by decide) (by decide), e 387 (by decide) (by decide), e 388 (by decide) (by decide)]
  exact h
theorem MNG_7 (h : MNG X r G) (f : FM7 X Y) : MNG Y r G := MNG_of h (fun q q0 q1 => f.1 q (by omega)) (f.2 37 (by omega)) (f.2 38 (by omega))
theorem codeOK_m {x k v n n' : Int} (h : codeOK x k v n) (hn : n ≤ n') : codeOK x k v n' := by
  rcases h with h | h | h
  · exact Or.inl h
  · exact Or.inr (Or.inl ⟨h.1, h.2.1, h.2.2.1, by omega⟩)
  · exact Or.inr (Or.inr h)
theorem r_isW {j : Nat} (hS : MSt B z (.inr k) Y) (hj : j < 18) (hw : w = cvw (kwL.getD j 0)) (hq1 : tkd B z k = 2 ∧ tvl B z k = (j : Int) → Q 1 SHX R Y) (hq0 : ¬ (tkd B z k = 2 ∧ tvl B z k = (j : Int)) → Q 0 SHX R Y) : Mw d 162 [vr 364, vl w] SHX R Y 0 0 Q :=
  r_isWord hS hj hw fun v hv hi => by
    have h := hi k rfl
    rcases hv with rfl | rfl
    · exact hq0 fun q => absurd (h.2 q) (by decide)
    · exact hq1 (h.1 rfl)
theorem r_isS (hR : RM R) (hS : MSt B z (.inr k) Y) (hq1 : tkd B z k = 5 ∧ tvl B z k = c → Q 1 SHX R Y) (hq0 : ¬ (tkd B z k = 5 ∧ tvl B z k = c) → Q 0 SHX R Y) : Mw (d + 1) 161 [vr 364, vi c] SHX R Y 0 0 Q :=
  r_isSign hR hS fun v hv hi => by
    have h := hi k rfl
    rcases hv with rfl | rfl
    · exact hq0 fun q => absurd (h.2 q) (by decide)
    · exact hq1 (h.1 rfl)
theorem r_here {ρ L : Int} {g : Int → Int} (hA : ∀ (i : Int) (P : Prop), aok SHX 101 ρ i P = (0 ≤ i ∧ i < L ∧ P)) (hL : L ≤ 1000) (hS : MSt B z (.inr k) Y) (f0 : 0 ≤ f) (n0 : 0 ≤ n) (n1 : f + n ≤ L) (hn : ∀ i, 0 ≤ i → i < n → Y ρ (f + i) = cvw (g i) ∧ VWd (g i)) (hq : Q (if tkd B z k = 3 then fnd g (tvl B z k) n.toNat 0 else -1) SHX R Y) : Mw d 173 [vr 364, vr ρ, vi f, vi n] SHX R Y 0 0 Q := by
  have e8 : Y 364 8 = 2 ↔ tkd B z k = 3 := km_is hS (v := 3) (by decide)
  obtain ⟨_, _, _, _, _, _, _, m10, _⟩ := hS
  refine Mw_of mok173 rfl fun _ _ => b_X12_here_0 ?_
  have key : ∀ (r : Nat) (i : Int), (n - i).toNat = r → 0 ≤ i → i ≤ n → (tkd B z k = 3 → fnd g (tvl B z k) r i = fnd g (tvl B z k) n.toNat 0) → Go d 173 Q 2 [vr 364, vr ρ, vi f, vi n, vi i] [] SHX R Y 0 0 := by
    intro r
    induction r with
    | zero =>
      intro i hr i0 i1 he
      refine b_X12_here_2 ?_
      rw [if_neg (by omega)]
      by_cases h3 : tkd B z k = 3
      · rw [if_pos h3, ← he h3] at hq; exact hq
      · rw [if_neg h3] at hq; exact hq
    | succ r ih =>
      intro i hr i0 i1 he
      refine b_X12_here_2 ?_
      rw [if_pos (by omega), ok364]
      have nx : ∀ h : tkd B z k = 3 → ¬ g i = tvl B z k, Go d 173 Q 2 [vr 364, vr ρ, vi f, vi n, vi (i + 1)] [] SHX R Y 0 0 := fun h => ih (i + 1) (by omega) (by omega) (by omega) fun h3 => by
        rw [← he h3]
        show _ = (if g i = tvl B z k then i else fnd g (tvl B z k) r (i + 1))
        rw [if_neg (h h3)]
      by_cases h3 : tkd B z k = 3
      · obtain ⟨v1, _⟩ := tok_nam h3
        have hi := hn i i0 (by omega)
        have et : twd B z k = tvl B z k := by unfold twd; rw [if_neg (by omega)]
        rw [if_pos (e8.2 h3), iadd_of (x := f) (by omega) (by omega), hA, ok364, hi.1, m10 (Or.inr h3), et]
        refine ⟨by omega, by omega, ?_⟩
        by_cases he2 : g i = tvl B z k
        · rw [if_pos (lcmp_0.2 (by rw [he2]))]
          have e : fnd g (tvl B z k) (r + 1) i = i := by
            show (if g i = tvl B z k then i else fnd g (tvl B z k) r (i + 1)) = i
            rw [if_pos he2]
          rw [if_pos h3, ← he h3, e] at hq
          exact hq
        · rw [if_neg fun q => he2 ((cv_inj hi.2 v1).1 (lcmp_0.1 q)), iadd_of (x := i) (by omega) (by omega)]
          exact nx fun _ => he2
      · rw [if_neg fun q => h3 (e8.1 q), iadd_of (x := i) (by omega) (by omega)]
        exact nx fun h => absurd h h3
  exact key n.toNat 0 (by omega) (Int.le_refl _) n0 fun _ => rfl
theorem r_towerHere (hR : RM R) (hr : r = 0 ∨ r = 1) (hS : MSt B z (.inr k) Y) (hG : MNG Y r G) (hT : 0 ≤ G 0 0 ∧ G 0 0 ≤ 10) (hN : ∀ t, 0 ≤ t → t < G 0 0 → VWd (G 10 t)) (hq : Q (if tkd B z k = 3 then twH G (tvl B z k) else -1) SHX R Y) : Mw (d + 1) 174 [vr 364] SHX R Y 0 0 Q := by
  obtain ⟨⟨g37, g0, _⟩, gT, _⟩ := hG
  refine Mw_of mok174 rfl fun _ _ => b_X12_towerHere_0 ?_
  rw [ok364, ok364, ok364, ok364, ok364, g37, fr11 hR, ak367, fr29 hR, g0, imul_of (by omega) (by omega)]
  refine ⟨by omega, by omega, ?_⟩
  refine r_here (d := d) (fun i P => ak385) (by decide) hS (by omega) hT.1 (by omega) (fun i i0 i1 => ⟨(gT i i0 i1).2.2.2.2, hN i i0 i1⟩) hq
def knP (B : Int → Int) (z : Int) (s : SNK) (G : NTW) : SNK := match s with
  | .inl e => .inl e
  | .inr k => if tkd B z k = 3 then (if twH G (tvl B z k) < 0 then .inl (ftE B z k 5) else .inr k) else .inl (ftE B z k 2)
theorem r_known (hR : RM R) (hr : r = 0 ∨ r = 1) (hS : MSt B z s Y) (hG : ∀ k, s = .inr k → MNG Y r G) (hT : 0 ≤ G 0 0 ∧ G 0 0 ≤ 10) (hN : ∀ t, 0 ≤ t → t < G 0 0 → VWd (G 10 t)) (hq : ∀ v Y', MSt B z (knP B z s G) Y' → FM7 Y Y' → 0 ≤ v ∧ v < 10 → (∀ k k', s = .inr k → knP B z s G = .inr k' → v = twH G (tvl B z k)) → Q v SHX R Y') : Mw (d + 2) 176 [vr 364] SHX R Y 0 0 Q := by
  refine Mw_of mok176 rfl fun _ _ => b_X12_known_0 ?_
  rw [ok364]
  cases s with
  | inl e =>
    refine r_isGood (d := d + 1) hS (fun e' he => ?_) fun k' he => nomatch he
    rw [if_pos rfl]
    exact fun _ => hq 0 Y hS FM7_self (by decide) fun k k' q _ => nomatch q
  | inr k =>
    refine r_isGood (d := d + 1) hS (fun e' he => nomatch he) fun k' he => ?_
    rw [if_neg (by decide), ok364]
    intro _
    refine r_towerHere (d := d) hR hr hS (hG k rfl) hT hN ?_
    have e8 : Y 364 8 = 2 ↔ tkd B z k = 3 := km_is hS (v := 3) (by decide)
    have hS' := hS
    obtain ⟨_, _, _, _, _, m6, _⟩ := hS'
    have en : knP B z (.inr k) G = if tkd B z k = 3 then (if twH G (tvl B z k) < 0 then .inl (ftE B z k 5) else .inr k) else .inl (ftE B z k 2) := rfl
    rw [ok364]
    by_cases h3 : tkd B z k = 3
    · rw [if_pos h3] at en
      rw [if_pos h3, if_pos (e8.2 h3)]
      have tb := twH_b (x := tvl B z k) hT.1
      by_cases ht : twH G (tvl B z k) < 0
      · rw [if_pos ht] at en
        rw [if_pos ht, ok364, ok364, m6]
        refine r_fails (d := d + 1) hS (by decide) fun Y' h f => ?_
        rw [if_pos ht]
        have e5 : ftE B z k 5 = (5, tpl B z k) := by unfold ftE; rw [if_neg (by omega)]
        exact hq 0 Y' (by rw [en, e5]; exact h) f (by decide) fun k1 k2 _ q => by rw [en] at q; exact nomatch q
      · rw [if_neg ht] at en
        rw [if_neg ht, if_neg ht]
        exact hq _ Y (by rw [en]; exact hS) FM7_self (by omega) fun k1 k2 q _ => by cases q; rfl
    · rw [if_neg h3] at en
      rw [if_neg h3, if_neg fun q => h3 (e8.1 q), ok364]
      refine r_misplaced (d := d) hS fun Y' h f => ?_
      rw [if_pos (by decide)]
      exact hq 0 Y' (by rw [en]; exact h) f (by decide) fun k1 k2 _ q => by rw [en] at q; exact nomatch q
def frP (B : Int → Int) (z : Int) (s : SNK) (i : Int) : SNK := match s with
  | .inl e => .inl e
  | .inr k => if tkd B z k = 3 then (if i < 0 then .inr (k + 1) else .inl (ftE B z k 3)) else .inl (ftE B z k 2)
theorem r_fresh {i : Int} (hR : RM R) (hS : MSt B z (.inr k) Y) (hq : ∀ v Y', MSt B z (frP B z (.inr k) i) Y' → FM7 Y Y' → (tkd B z k = 3 → i < 0 → v = cvw (tvl B z k)) → Q v SHX R Y') : Mw (d + 2) 175 [vr 364, vi i] SHX R Y 0 0 Q := by
  refine Mw_of mok175 rfl fun _ _ => b_X12_fresh_0 ?_
  rw [ok364]
  refine r_isGood (d := d + 1) hS (fun e' he => nomatch he) fun k' he => ?_
  rw [if_neg (by decide), ok364]
  intro _
  have e8 : Y 364 8 = 2 ↔ tkd B z k = 3 := km_is hS (v := 3) (by decide)
  have hS' := hS
  obtain ⟨_, _, _, _, _, m6, _, m10, _⟩ := hS'
  have en : frP B z (.inr k) i = if tkd B z k = 3 then (if i < 0 then .inr (k + 1) else .inl (ftE B z k 3)) else .inl (ftE B z k 2) := rfl
  by_cases h3 : tkd B z k = 3
  · rw [if_pos h3] at en
    rw [if_pos (e8.2 h3)]
    by_cases hi : i < 0
    · rw [if_pos hi] at en
      rw [if_pos hi, ok364, ok364]
      refine r_isGood (d := d + 1) hS (fun e' he => nomatch he) fun k' he => ?_
      rw [if_neg (by decide), ok364]
      intro _
      have et : twd B z k = tvl B z k := by unfold twd; rw [if_neg (by omega)]
      refine r_goOn (d := d) hR hS (by omega) fun Y' h f => hq _ Y' (by rw [en]; exact h) f fun _ _ => by rw [m10 (Or.inr h3), et]
    · rw [if_neg hi] at en
      rw [if_neg hi, ok364, ok364, m6]
      refine r_fails (d := d + 1) hS (by decide) fun Y' h f => ?_
      have e3 : ftE B z k 3 = (3, tpl B z k) := by unfold ftE; rw [if_neg (by omega)]
      rw [ok364, ok364]
      refine r_isGood (d := d + 1) h (fun e' he => ?_) fun k' he => nomatch he
      rw [if_pos rfl]
      exact fun _ => hq _ Y' (by rw [en, e3]; exact h) f fun _ q => absurd q hi
  · rw [if_neg h3] at en
    rw [if_neg fun q => h3 (e8.1 q), ok364]
    refine r_misplaced (d := d) hS fun Y' h f => ?_
    rw [ok364, ok364]
    refine r_isGood (d := d + 1) h (fun e' he => ?_) fun k' he => nomatch he
    rw [if_pos rfl]
    exact fun _ => hq _ Y' (by rw [en]; exact h) f fun q => absurd q h3
theorem r_canBegin {t : Int} (hR : RM R) (hr : r = 0 ∨ r = 1) (hG : MNG Y r G) (hT : 0 ≤ G 0 0 ∧ G 0 0 ≤ 10) (t0 : 0 ≤ t) (t1 : t < G 0 0) (hq1 : rmG G t → Q 1 SHX R Y) (hq0 : ¬ rmG G t → Q 0 SHX R Y) : Mw d 178 [vr 364, vi (10 * r + t)] SHX R Y 0 0 Q := by
  obtain ⟨_, gT, _⟩ := hG
  obtain ⟨e1, e2, e3, e4, _⟩ := gT t t0 t1
  refine Mw_of mok178 rfl fun _ _ => b_X12_canBegin_0 ?_
  simp only [ok364, fr17 hR, fr23 hR, fr24 hR, ak373, ak379, ak380, e1, e3, e4]
  unfold rmG at hq1 hq0
  refine ⟨by omega, by omega, ?_⟩
  by_cases h4 : G 1 t = 4
  · rw [if_pos h4]; exact hq0 fun q => q.1 h4
  rw [if_neg h4]
  refine ⟨by omega, by omega, ?_⟩
  by_cases h3 : G 3 t < 0
  · rw [if_pos h3]; exact hq1 ⟨h4, Or.inl h3⟩
  rw [if_neg h3]
  by_cases h2 : G 1 t = 2
  · rw [if_pos h2]
    refine ⟨by omega, by omega, ?_⟩
    by_cases hs : G 4 t < 0
    · rw [if_pos hs]; exact hq1 ⟨h4, Or.inr ⟨Or.inl h2, hs⟩⟩
    · rw [if_neg hs]; exact hq0 fun q => by omega
  rw [if_neg h2]
  by_cases h5 : G 1 t = 3
  · rw [if_pos h5]
    refine ⟨by omega, by omega, ?_⟩
    by_cases hs : G 4 t < 0
    · rw [if_pos hs]; exact hq1 ⟨h4, Or.inr ⟨Or.inr h5, hs⟩⟩
    · rw [if_neg hs]; exact hq0 fun q => by omega
  rw [if_neg h5]
  exact hq0 fun q => by omega
theorem r_sortHere (hS : MSt B z (.inr k) Y) (hq : Q (if tkd B z k = 2 ∧ tvl B z k ≤ 8 then tvl B z k else -1) SHX R Y) : Mw (d + 1) 169 [vr 364] SHX R Y 0 0 Q := by
  refine Mw_of mok169 rfl fun _ _ => b_X12_sortHere_0 ?_
  have yes : ∀ i : Int, i ≤ 8 → tkd B z k = 2 ∧ tvl B z k = i → Q i SHX R Y := fun i hi h => by
    rw [if_pos ⟨h.1, by omega⟩, h.2] at hq
    exact hq
  rw [ok364]
  refine r_isW (d := d) (j := 0) hS (by decide) (by decide) (fun h _ => by rw [if_neg (by decide)]; exact yes 0 (by decide) h) fun h0 _ => ?_
  rw [if_pos rfl, ok364]
  refine r_isW (d := d) (j := 1) hS (by decide) (by decide) (fun h _ => by rw [if_neg (by decide)]; exact yes 1 (by decide) h) fun h1 _ => ?_
  rw [if_pos rfl, ok364]
  refine r_isW (d := d) (j := 2) hS (by decide) (by decide) (fun h _ => by rw [if_neg (by decide)]; exact yes 2 (by decide) h) fun h2 _ => ?_
  rw [if_pos rfl, ok364]
  refine r_isW (d := d) (j := 3) hS (by decide) (by decide) (fun h _ => by rw [if_neg (by decide)]; exact yes 3 (by decide) h) fun h3 _ => ?_
  rw [if_pos rfl, ok364]
  refine r_isW (d := d) (j := 4) hS (by decide) (by decide) (fun h _ => by rw [if_neg (by decide)]; exact yes 4 (by decide) h) fun h4 _ => ?_
  rw [if_pos rfl, ok364]
  refine r_isW (d := d) (j := 5) hS (by decide) (by decide) (fun h _ => by rw [if_neg (by decide)]; exact yes 5 (by decide) h) fun h5 _ => ?_
  rw [if_pos rfl, ok364]
  refine r_isW (d := d) (j := 6) hS (by decide) (by decide) (fun h _ => by rw [if_neg (by decide)]; exact yes 6 (by decide) h) fun h6 _ => ?_
  rw [if_pos rfl, ok364]
  refine r_isW (d := d) (j := 7) hS (by decide) (by decide) (fun h _ => by rw [if_neg (by decide)]; exact yes 7 (by decide) h) fun h7 _ => ?_
  rw [if_pos rfl, ok364]
  refine r_isW (d := d) (j := 8) hS (by decide) (by decide) (fun h _ => by rw [if_neg (by decide)]; exact yes 8 (by decide) h) fun h8 _ => ?_
  rw [if_pos rfl]
  rw [if_neg fun q => ?_] at hq
  · exact hq
  · obtain ⟨j, j1, j2⟩ := tok_kw q.1
    omega
/-- no more of what the line tells may come -/
def fuG (B : Int → Int) (z : Int) (k : Nat) (G : NTW) : Prop := (tvl B z k ≤ 8 ∧ ((tvl B z k = 0 ∧ G 0 1 = 3) ∨ G 0 0 = 10)) ∨ (tvl B z k = 9 ∧ G 0 2 = 16) ∨ (tvl B z k = 10 ∧ G 0 3 = 6) ∨ (tvl B z k = 11 ∧ ¬ G 0 6 = 0) ∨ 11 < tvl B z k
theorem r_isFull (hR : RM R) (hr : r = 0 ∨ r = 1) (hS : MSt B z (.inr k) Y) (hG : MNG Y r G) (h2 : tkd B z k = 2) (hq1 : fuG B z k G → Q 1 SHX R Y) (hq0 : ¬ fuG B z k G → Q 0 SHX R Y) : Mw (d + 2) 170 [vr 364] SHX R Y 0 0 Q := by
  obtain ⟨⟨g37, g0, g1, g2, g3, _, _, g6, _⟩, _⟩ := hG
  obtain ⟨j, j1, j2⟩ := tok_kw h2
  unfold fuG at hq1 hq0
  refine Mw_of mok170 rfl fun _ _ => b_X12_isFull_0 ?_
  rw [ok364]
  refine r_sortHere (d := d) hS ?_
  by_cases h8 : tvl B z k ≤ 8
  · have e : (if tkd B z k = 2 ∧ tvl B z k ≤ 8 then tvl B z k else -1) = tvl B z k := if_pos ⟨h2, h8⟩
    rw [e, if_neg (by omega), ok364, ok364, g37, fr11 hR, ak367, g0]
    refine ⟨by omega, by omega, ?_⟩
    by_cases hT : G 0 0 = 10
    · rw [if_pos hT]; exact hq1 (Or.inl ⟨h8, Or.inr hT⟩)
    rw [if_neg hT]
    by_cases hs : tvl B z k = 0
    · rw [if_pos hs, ok364, ok364, fr12 hR, ak368, g1]
      refine ⟨by omega, by omega, ?_⟩
      by_cases h3 : G 0 1 = 3
      · rw [if_pos h3]; exact hq1 (Or.inl ⟨h8, Or.inl ⟨hs, h3⟩⟩)
      · rw [if_neg h3]; exact hq0 fun q => by omega
    · rw [if_neg hs]; exact hq0 fun q => by omega
  · have e : (if tkd B z k = 2 ∧ tvl B z k ≤ 8 then tvl B z k else -1) = -1 := if_neg fun q => h8 q.2
    rw [e, if_pos (by decide), ok364]
    refine r_isW (d := d + 1) (j := 9) hS (by decide) (by decide) (fun h _ => ?_) fun h9 _ => ?_
    · rw [if_neg (by decide), ok364, ok364, g37, fr13 hR, ak369, g2]
      refine ⟨by omega, by omega, ?_⟩
      by_cases h3 : G 0 2 = 16
      · rw [if_pos h3]; exact hq1 (by omega)
      · rw [if_neg h3]; exact hq0 fun q => by omega
    rw [if_pos rfl, ok364]
    refine r_isW (d := d + 1) (j := 10) hS (by decide) (by decide) (fun h _ => ?_) fun h10 _ => ?_
    · rw [if_neg (by decide), ok364, ok364, g37, fr14 hR, ak370, g3]
      refine ⟨by omega, by omega, ?_⟩
      by_cases h3 : G 0 3 = 6
      · rw [if_pos h3]; exact hq1 (by omega)
      · rw [if_neg h3]; exact hq0 fun q => by omega
    rw [if_pos rfl, ok364]
    refine r_isW (d := d + 1) (j := 11) hS (by decide) (by decide) (fun h _ => ?_) fun h11 _ => ?_
    · rw [if_neg (by decide), ok364, ok364, g37, fr28 hR, ak384, g6]
      refine ⟨by omega, by omega, ?_⟩
      by_cases h3 : G 0 6 = 0
      · rw [if_pos h3]; exact hq0 fun q => by omega
      · rw [if_neg h3]; exact hq1 (by omega)
    rw [if_pos rfl]
    exact hq1 (by omega)
end
