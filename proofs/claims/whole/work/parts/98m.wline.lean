/-! WHAT A LINE KEEPS -/
section
variable {B : Int → Int} {z : Int} {G G' G1 : NTW} {k k' : Nat} {s v a b t nm x : Int}
theorem fnd_no {f : Int → Int} : ∀ (n : Nat) (i : Int), 0 ≤ i → fnd f x n i < 0 → ∀ j, i ≤ j → j < i + (n : Int) → f j ≠ x
  | 0, i, _, _, j, j0, j1 => by omega
  | n + 1, i, h0, h, j, j0, j1 => by
    unfold fnd at h
    by_cases hi : f i = x
    · rw [if_pos hi] at h; omega
    · rw [if_neg hi] at h
      by_cases hj : j = i
      · rw [hj]; exact hi
      · exact fnd_no n (i + 1) (by omega) h j (by omega) (by omega)
theorem WLI_tow (h : WLI k G) (hT : G 0 0 < 10) (hs : 0 ≤ s ∧ s ≤ 8) (hS : s = 0 → G 0 1 < 3) (hv : 5 ≤ s → 1 ≤ v ∧ v ≤ 99) (hn : VWd nm) (hno : twH G nm < 0) (hk : k ≤ k') : WLI k' (adT (stm G 10 (G 0 0) nm) s v) := by
  obtain ⟨hW, hU, hN, hK, hD, hC⟩ := h
  have wT := wn_T hW
  have key : ∀ G' : NTW, (∀ j, 3 ≤ j → G' 0 j = G 0 j) → G' 0 0 = G 0 0 + 1 → G 0 1 ≤ G' 0 1 → (∀ x, x ≠ G 0 0 → G' 10 x = G 10 x) → G' 10 (G 0 0) = nm → G' 11 = G 11 → G' 12 = G 12 → G' 13 = G 13 → WN G' → WLI k' G' := fun G' ej e0 e1 e10 e10T e11 e12 e13 hw => by
    have nn : ∀ t, 0 ≤ t → t < G 0 0 → G 10 t ≠ nm := fun t t0 t1 => fnd_no (G 0 0).toNat 0 (Int.le_refl _) hno t t0 (by omega)
    refine ⟨hw, by rw [ej 4 (by decide)]; exact hU, ⟨fun t u t0 t1 u0 u1 he => ?_, fun t t0 t1 => ?_, fun c c0 c1 => ?_⟩, by rw [ej 7 (by decide)]; omega, by rw [ej 6 (by decide)]; exact hD, CDG_same hC (ej 3 (by decide)) (ej 7 (by decide)) e1 e12 e13⟩
    · by_cases ht : t = G 0 0
      · by_cases hu : u = G 0 0
        · omega
        · rw [ht, e10T, e10 u hu] at he
          exact absurd he.symm (nn u u0 (by omega))
      · by_cases hu : u = G 0 0
        · rw [hu, e10T, e10 t ht] at he
          exact absurd he (nn t t0 (by omega))
        · rw [e10 t ht, e10 u hu] at he
          exact hN.1 t u t0 (by omega) u0 (by omega) he
    · by_cases ht : t = G 0 0
      · rw [ht, e10T]; exact hn
      · rw [e10 t ht]; exact hN.2.1 t t0 (by omega)
    · rw [ej 3 (by decide)] at c1
      rw [e11]; exact hN.2.2 c c0 c1
  have hw := WN_adT (nm := nm) (v := v) hW hT hs hS hv
  by_cases hs0 : s = 0
  · rw [adT_pos hs0] at hw ⊢
    refine key _ (fun j hj => ?_) ?_ ?_ (fun x hx => ?_) ?_ ?_ ?_ ?_ hw
    · simp (disch := omega) only [stm_neq, stm_hit]
    · simp (disch := omega) only [stm_neq, stm_hit]
    · simp (disch := omega) only [stm_neq, stm_hit]; omega
    · simp (disch := omega) only [stm_neq, stm_hit]
    · simp (disch := omega) only [stm_neq, stm_hit]
    · simp (disch := omega) only [stm_ne]
    · simp (disch := omega) only [stm_ne]
    · simp (disch := omega) only [stm_ne]
  · rw [adT_neg hs0] at hw ⊢
    refine key _ (fun j hj => ?_) ?_ ?_ (fun x hx => ?_) ?_ ?_ ?_ ?_ hw
    · simp (disch := omega) only [stm_neq, stm_hit]
    · simp (disch := omega) only [stm_neq, stm_hit]
    · simp (disch := omega) only [stm_neq, stm_hit]; omega
    · simp (disch := omega) only [stm_neq, stm_hit]
    · simp (disch := omega) only [stm_neq, stm_hit]
    · simp (disch := omega) only [stm_ne]
    · simp (disch := omega) only [stm_ne]
    · simp (disch := omega) only [stm_ne]
theorem WLI_way (h : WLI k G) (hW : G 0 2 < 16) (a0 : 0 ≤ a) (a1 : a < G 0 0) (hr : rmG G a) (b0 : 0 ≤ b) (b1 : b < G 0 0) (hv : 1 ≤ v ∧ v ≤ 9) (hk : k ≤ k') : WLI k' (adW G a b v) := by
  obtain ⟨hw, hU, hN, hK, hD, hC⟩ := h
  have hw' := WN_adW hw hW a0 a1 hr b0 b1 hv
  have ej : ∀ j, j ≠ 2 → adW G a b v 0 j = G 0 j := fun j hj => by
    unfold adW
    by_cases h3 : G 3 a < 0
    · rw [if_pos h3]; simp (disch := omega) only [stm_neq]
    · rw [if_neg h3]; simp (disch := omega) only [stm_neq]
  have ei : ∀ i, 9 ≤ i → adW G a b v i = G i := fun i hi => by
    unfold adW
    by_cases h3 : G 3 a < 0
    · rw [if_pos h3]; simp (disch := omega) only [stm_ne]
    · rw [if_neg h3]; simp (disch := omega) only [stm_ne]
  refine ⟨hw', by rw [ej 4 (by decide)]; exact hU, ?_, by rw [ej 7 (by decide)]; omega, by rw [ej 6 (by decide)]; exact hD, CDG_same hC (ej 3 (by decide)) (ej 7 (by decide)) (by rw [ej 1 (by decide)]; exact Int.le_refl _) (ei 12 (by decide)) (ei 13 (by decide))⟩
  unfold NMG
  rw [ej 0 (by decide), ej 3 (by decide), ei 10 (by decide), ei 11 (by decide)]
  exact hN
theorem WLI_drw (h : WLI k G) (hv : 0 ≤ v ∧ v ≤ 999) (hk : k ≤ k') : WLI k' (stm (stm G 0 6 1) 0 5 v) := by
  obtain ⟨hw, hU, hN, hK, hD, hC⟩ := h
  have ej : ∀ j, j ≠ 5 → j ≠ 6 → stm (stm G 0 6 1) 0 5 v 0 j = G 0 j := fun j h5 h6 => by simp (disch := omega) only [stm_neq]
  have ei : ∀ i, i ≠ 0 → stm (stm G 0 6 1) 0 5 v i = G i := fun i hi => by rw [stm_ne hi, stm_ne hi]
  have hw' : WN (stm (stm G 0 6 1) 0 5 v) := by
    have h' := hw
    unfold WN at h' ⊢
    rw [ej 0 (by decide) (by decide), ej 1 (by decide) (by decide), ej 2 (by decide) (by decide), ej 3 (by decide) (by decide), ei 1 (by decide), ei 2 (by decide), ei 3 (by decide), ei 4 (by decide), ei 5 (by decide), ei 6 (by decide), ei 7 (by decide), ei 8 (by decide), ei 9 (by decide), stm_hit]
    obtain ⟨a1, a2, a3, a4, a5, r⟩ := h'
    exact ⟨a1, a2, a3, a4, hv, r⟩
  refine ⟨hw', by rw [ej 4 (by decide) (by decide)]; exact hU, ?_, by rw [ej 7 (by decide) (by decide)]; omega, Or.inr (by rw [stm_neq (by omega), stm_hit]), CDG_same hC (ej 3 (by decide) (by decide)) (ej 7 (by decide) (by decide)) (by rw [ej 1 (by decide) (by decide)]; exact Int.le_refl _) (ei 12 (by decide)) (ei 13 (by decide))⟩
  unfold NMG
  rw [ej 0 (by decide) (by decide), ej 3 (by decide) (by decide), ei 10 (by decide), ei 11 (by decide)]
  exact hN
theorem WLI_clm {k1 : Nat} (h : WLI k G) (hC6 : G 0 3 < 6) (t0 : 0 ≤ t) (t1 : t < G 0 0) (t4 : G 1 t = 4) (hn : VWd nm) (hg : GR B z (k + 4) (stm (stm G 11 (G 0 3) nm) 0 8 0) k1 G1) (hk : k1 ≤ k') : WLI k' (adC G1 t) := by
  obtain ⟨hw, hU, hN, hK, hD, hC⟩ := h
  obtain ⟨⟨g1, g1'⟩, ⟨g2, g3⟩, ⟨g4, g5, g6, g7⟩, g8, g9, g10⟩ := hg
  simp (disch := omega) only [stm_neq, stm_hit] at g2 g3 g4 g5 g6 g7 g9 g10
  have wC := wn_C hw
  have f : ∀ i j, ¬ (i = 0 ∧ (j = 4 ∨ j = 7 ∨ j = 8)) → ¬ (i = 12 ∧ G 0 7 ≤ j) → ¬ (i = 11 ∧ j = G 0 3) → G1 i j = G i j := fun i j h1 h2 h3 => by
    have e7 : stm (stm G 11 (G 0 3) nm) 0 8 0 0 7 = G 0 7 := by simp (disch := omega) only [stm_neq]
    rw [g8 i j h1 (by rw [e7]; exact h2), stm_neq (by omega), stm_neq (by omega)]
  have f11 : G1 11 (G 0 3) = nm := by
    rw [g8 11 _ (by omega) (by omega), stm_neq (by omega), stm_hit]
  have f3 : G1 0 3 = G 0 3 := f 0 3 (by omega) (by omega) (by omega)
  have fr : ∀ i, 1 ≤ i → i ≠ 11 → i ≠ 12 → G1 i = G i := fun i i0 h1 h2 => funext fun j => f i j (by omega) (by omega) (by omega)
  have hw1 : WN G1 := WN_same hw (fun j hj => f 0 j (by omega) (by omega) (by omega)) fun i i0 i1 => fr i i0 (by omega) (by omega)
  have hwn := WN_adC (t := t) hw1 (by rw [f3]; exact hC6) t0 (by rw [f 0 0 (by omega) (by omega) (by omega)]; exact t1) (by rw [fr 1 (by decide) (by decide) (by decide)]; exact t4)
  have e0 : ∀ j, j ≠ 3 → adC G1 t 0 j = G1 0 j := fun j hj => by unfold adC; simp (disch := omega) only [stm_neq]
  have e3 : adC G1 t 0 3 = G 0 3 + 1 := by unfold adC; rw [stm_hit, f3]
  have ei : ∀ i, i ≠ 0 → i ≠ 9 → i ≠ 13 → adC G1 t i = G1 i := fun i h1 h2 h3 => by unfold adC; rw [stm_ne h1, stm_ne h3, stm_ne h2]
  have e13 : ∀ c, c ≠ G 0 3 → adC G1 t 13 c = G 13 c := fun c hc => by
    unfold adC
    rw [f3, stm_neq (by omega), stm_neq (by omega), stm_neq (by omega), fr 13 (by decide) (by decide) (by decide)]
  have e13C : adC G1 t 13 (G 0 3) = G1 0 7 := by
    unfold adC
    rw [f3, stm_neq (by omega), stm_hit]
  refine ⟨hwn, by rw [e0 4 (by decide)]; omega, ⟨fun x y x0 x1 y0 y1 he => ?_, fun x x0 x1 => ?_, fun c c0 c1 => ?_⟩, by rw [e0 7 (by decide)]; omega, by rw [e0 6 (by decide), f 0 6 (by omega) (by omega) (by omega)]; exact hD, ⟨fun c c0 c1 => ?_, fun q => by omega, fun _ => ?_⟩⟩
  · rw [e0 0 (by decide), f 0 0 (by omega) (by omega) (by omega)] at x1 y1
    rw [ei 10 (by decide) (by decide) (by decide), fr 10 (by decide) (by decide) (by decide)] at he
    exact hN.1 x y x0 x1 y0 y1 he
  · rw [e0 0 (by decide), f 0 0 (by omega) (by omega) (by omega)] at x1
    rw [ei 10 (by decide) (by decide) (by decide), fr 10 (by decide) (by decide) (by decide)]
    exact hN.2.1 x x0 x1
  · rw [ei 11 (by decide) (by decide) (by decide)]
    by_cases hc : c = G 0 3
    · rw [hc, f11]; exact hn
    · rw [f 11 c (by omega) (by omega) (by omega)]
      exact hN.2.2 c c0 (by omega)
  · rw [e0 7 (by decide), e0 1 (by decide), f 0 1 (by omega) (by omega) (by omega), ei 12 (by decide) (by decide) (by decide)]
    by_cases hc : c = G 0 3
    · subst hc
      refine ⟨G 0 7, G1 0 7, ⟨hK.1, g2, Int.le_refl _⟩, ?_, e13C, ?_, g9⟩
      · by_cases h0 : G 0 3 = 0
        · rw [if_pos h0]; exact hC.2.1 h0
        · rw [if_neg h0, e13 _ (by omega)]; exact (hC.2.2 (by omega)).symm
      · exact HTP_mono (g10 0 (Int.le_refl _)) (Int.le_refl _) (by have := g7 (by decide); omega)
    · obtain ⟨s, e, q1, q2, q3, q4, q5⟩ := hC.1 c c0 (by omega)
      refine ⟨s, e, ⟨q1.1, q1.2.1, by omega⟩, ?_, by rw [e13 c hc]; exact q3, HTP_congr q4 fun i i0 i1 => f 12 i (by omega) (by omega) (by omega), fun i i0 i1 => ?_⟩
      · rw [q2]
        split
        · rfl
        · rw [e13 _ (by omega)]
      · rw [f 12 i (by omega) (by omega) (by omega)]; exact q5 i i0 i1
  · rw [e3, show G 0 3 + 1 - 1 = G 0 3 by omega, e13C, e0 7 (by decide)]
theorem pSg_inr {r : RSP} {s' : Nat × NTW} (h : pSg B z k x r = .inr s') : (tkd B z k = 5 ∧ tvl B z k = x) ∧ r = .inr s' := by
  unfold pSg at h
  by_cases hc : tkd B z k = 5 ∧ tvl B z k = x
  · rw [if_pos hc] at h; exact ⟨hc, h⟩
  · rw [if_neg hc] at h; exact absurd h flt_no
theorem pWd_inr {r : RSP} {s' : Nat × NTW} (h : pWd B z k x r = .inr s') : (tkd B z k = 2 ∧ tvl B z k = x) ∧ r = .inr s' := by
  unfold pWd at h
  by_cases hc : tkd B z k = 2 ∧ tvl B z k = x
  · rw [if_pos hc] at h; exact ⟨hc, h⟩
  · rw [if_neg hc] at h; exact absurd h flt_no
theorem pNm_inr {lo hi : Int} {c : Int → RSP} {s' : Nat × NTW} (h : pNm B z k lo hi c = .inr s') : tkd B z k = 4 ∧ (lo ≤ tvl B z k ∧ tvl B z k ≤ hi) ∧ c (tvl B z k) = .inr s' := by
  unfold pNm at h
  by_cases hc : tkd B z k = 4
  · rw [if_pos hc] at h
    by_cases hv : tvl B z k < lo ∨ hi < tvl B z k
    · rw [if_pos hv] at h; exact absurd h flt_no
    · rw [if_neg hv] at h; exact ⟨hc, by omega, h⟩
  · rw [if_neg hc] at h; exact absurd h flt_no
theorem pTw_inr {c : Int → RSP} {s' : Nat × NTW} (hT : 0 ≤ G 0 0) (h : pTw B z k G c = .inr s') : tkd B z k = 3 ∧ (0 ≤ twH G (tvl B z k) ∧ twH G (tvl B z k) < G 0 0) ∧ c (twH G (tvl B z k)) = .inr s' := by
  unfold pTw at h
  by_cases hc : tkd B z k = 3
  · rw [if_pos hc] at h
    by_cases hv : twH G (tvl B z k) < 0
    · rw [if_pos hv] at h; exact absurd h flt_no
    · rw [if_neg hv] at h
      have := twH_b (x := tvl B z k) hT
      exact ⟨hc, by omega, h⟩
  · rw [if_neg hc] at h; exact absurd h flt_no
/-- a line that is without fault: what holds, holds on -/
theorem pLin_ok (h : WLI k G) (he : pLin B z k G = .inr (k', G')) : WLI k' G' ∧ k + 1 ≤ k' := by
  have h' := h
  obtain ⟨hw, hU, hN, hK, hD, hC⟩ := h'
  have wT := wn_T hw
  have wS := wn_S hw
  have wW := wn_W hw
  have wC := wn_C hw
  unfold pLin at he
  by_cases h2 : tkd B z k = 2
  · rw [if_pos h2] at he
    obtain ⟨j, j1, j2⟩ := tok_kw h2
    by_cases h8 : tvl B z k ≤ 8
    · rw [if_pos h8] at he
      unfold pTow at he
      by_cases hf : (tvl B z k = 0 ∧ G 0 1 = 3) ∨ G 0 0 = 10
      · rw [if_pos hf] at he; exact absurd he flt_no
      · rw [if_neg hf] at he
        by_cases h3 : tkd B z (k + 1) = 3
        · rw [if_pos h3] at he
          by_cases hw2 : twH G (tvl B z (k + 1)) < 0
          · rw [if_pos hw2] at he
            by_cases h5 : tvl B z k < 5
            · rw [if_pos h5] at he
              obtain ⟨q1, q2⟩ := pSg_inr he
              cases q2
              exact ⟨WLI_tow h (by omega) (by omega) (fun q => by omega) (fun q => by omega) (tok_nam h3).1 hw2 (by omega), by omega⟩
            · rw [if_neg h5] at he
              obtain ⟨q1, q2, q3⟩ := pNm_inr he
              obtain ⟨q4, q5⟩ := pSg_inr q3
              cases q5
              exact ⟨WLI_tow h (by omega) (by omega) (fun q => by omega) (fun _ => q2) (tok_nam h3).1 hw2 (by omega), by omega⟩
          · rw [if_neg hw2] at he; exact absurd he flt_no
        · rw [if_neg h3] at he; exact absurd he flt_no
    · rw [if_neg h8] at he
      by_cases h9 : tvl B z k = 9
      · rw [if_pos h9] at he
        unfold pWay at he
        by_cases h16 : G 0 2 = 16
        · rw [if_pos h16] at he; exact absurd he flt_no
        · rw [if_neg h16] at he
          obtain ⟨a1, a2, a3⟩ := pTw_inr wT.1 he
          by_cases hr : rmG G (twH G (tvl B z (k + 1)))
          · rw [if_pos hr] at a3
            obtain ⟨b1, b2⟩ := pWd_inr a3
            obtain ⟨c1, c2, c3⟩ := pTw_inr wT.1 b2
            obtain ⟨d1, d2⟩ := pWd_inr c3
            obtain ⟨e1, e2, e3⟩ := pNm_inr d2
            obtain ⟨f1, f2⟩ := pSg_inr e3
            cases f2
            exact ⟨WLI_way h (by omega) a2.1 a2.2 hr c2.1 c2.2 e2 (by omega), by omega⟩
          · rw [if_neg hr] at a3; exact absurd a3 flt_no
      · rw [if_neg h9] at he
        by_cases h10 : tvl B z k = 10
        · rw [if_pos h10] at he
          unfold pClm at he
          by_cases h6 : G 0 3 = 6
          · rw [if_pos h6] at he; exact absurd he flt_no
          · rw [if_neg h6] at he
            by_cases h3 : tkd B z (k + 1) = 3
            · rw [if_pos h3] at he
              by_cases hf : fnd (G 11) (tvl B z (k + 1)) (G 0 3).toNat 0 < 0
              · rw [if_pos hf] at he
                obtain ⟨b1, b2⟩ := pWd_inr he
                obtain ⟨c1, c2, c3⟩ := pTw_inr wT.1 b2
                by_cases h4 : G 1 (twH G (tvl B z (k + 3))) = 4
                · rw [if_pos h4] at c3
                  obtain ⟨k1, G1, e1, e2⟩ := bnd_inr c3
                  obtain ⟨f1, f2⟩ := pSg_inr e2
                  cases f2
                  have hg := GR_fm 48 0 0 (k + 4) _ k1 G1 (by simp (disch := omega) only [stm_neq]; exact wS.2) e1
                  exact ⟨WLI_clm h (by omega) c2.1 c2.2 h4 (tok_nam h3).1 hg (by omega), by have := hg.1.1; omega⟩
                · rw [if_neg h4] at c3; exact absurd c3 flt_no
              · rw [if_neg hf] at he; exact absurd he flt_no
            · rw [if_neg h3] at he; exact absurd he flt_no
        · rw [if_neg h10] at he
          by_cases h11 : tvl B z k = 11
          · rw [if_pos h11] at he
            unfold pDrw at he
            by_cases h0 : G 0 6 = 0
            · rw [if_pos h0] at he
              obtain ⟨e1, e2, e3⟩ := pNm_inr he
              obtain ⟨f1, f2⟩ := pSg_inr e3
              cases f2
              exact ⟨WLI_drw h e2 (by omega), by omega⟩
            · rw [if_neg h0] at he; exact absurd he flt_no
          · rw [if_neg h11] at he; exact absurd he flt_no
  · rw [if_neg h2] at he; exact absurd he flt_no
end
