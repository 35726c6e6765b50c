/-! WHAT HOLDS BETWEEN LINES -/
def CDG (G : NTW) : Prop := (∀ c, 0 ≤ c → c < G 0 3 → ∃ s e, (0 ≤ s ∧ s ≤ e ∧ e ≤ G 0 7) ∧ (s = if c = 0 then 0 else G 13 (c - 1)) ∧ G 13 c = e ∧ HTP (G 12) s e 0 1 0 30 ∧ ∀ i, s ≤ i → i < e → cdX (G 12 i) (G 0 1)) ∧ (G 0 3 = 0 → G 0 7 = 0) ∧ (0 < G 0 3 → G 13 (G 0 3 - 1) = G 0 7)
def NMG (G : NTW) : Prop := (∀ t u, 0 ≤ t → t < G 0 0 → 0 ≤ u → u < G 0 0 → G 10 t = G 10 u → t = u) ∧ (∀ t, 0 ≤ t → t < G 0 0 → VWd (G 10 t)) ∧ ∀ c, 0 ≤ c → c < G 0 3 → VWd (G 11 c)
def WLI (k : Nat) (G : NTW) : Prop := WN G ∧ (0 ≤ G 0 4 ∧ G 0 4 ≤ 90) ∧ NMG G ∧ (0 ≤ G 0 7 ∧ G 0 7 ≤ (k : Int)) ∧ (G 0 6 = 0 ∨ G 0 6 = 1) ∧ CDG G
theorem WLI_LGd {k : Nat} {G : NTW} (h : WLI k G) : LGd k G := by
  obtain ⟨hW, hU, hN, hK, hD, hC⟩ := h
  exact ⟨⟨wn_T hW, wn_S hW, fun s s0 s1 => ⟨(wn_st hW s s0 s1).1, (wn_st hW s s0 s1).2.1⟩, hU, hK.1⟩, fun t t0 t1 => ⟨(wn_fi hW t t0 t1).1, (wn_se hW t t0 t1).1⟩, wn_W hW, wn_C hW, hK.2⟩
section
variable {B : Int → Int} {z : Int} {G G' G1 : NTW} {k : Nat} {s v a b t nm : Int}
theorem WN_adT (h : WN G) (hT : G 0 0 < 10) (hs : 0 ≤ s ∧ s ≤ 8) (hS : s = 0 → G 0 1 < 3) (hv : 5 ≤ s → 1 ≤ v ∧ v ≤ 99) : WN (adT (stm G 10 (G 0 0) nm) s v) := by
  have wT := wn_T h
  have wS := wn_S h
  have wW := wn_W h
  -- what it is
  have key : ∀ G' : NTW, G' 0 0 = G 0 0 + 1 → (G' 0 1 = if s = 0 then G 0 1 + 1 else G 0 1) → (∀ j, 2 ≤ j → G' 0 j = G 0 j) → (∀ i x, 1 ≤ i → i ≤ 4 → x ≠ G 0 0 → G' i x = G i x) → G' 1 (G 0 0) = s → G' 2 (G 0 0) = v → G' 3 (G 0 0) = -1 → G' 4 (G 0 0) = -1 → (∀ x, x ≠ G 0 1 → G' 5 x = G 5 x) → (s = 0 → G' 5 (G 0 1) = G 0 0) → (∀ i, 6 ≤ i → i ≤ 9 → G' i = G i) → WN G' := fun G' e0 e1 ej eo e1T e2T e3T e4T e5 e5S e6 => by
    have b1 : G 0 1 ≤ G' 0 1 ∧ G' 0 1 ≤ G 0 1 + 1 := by rw [e1]; split <;> omega
    refine ⟨by omega, ?_, ?_, ?_, ?_, fun x x0 x1 => ?_, fun x x0 x1 => ?_, fun x x0 x1 => ?_, fun x x0 x1 => ?_, fun x x0 x1 => ?_, fun x x0 x1 => ?_, fun x x0 x1 => ?_, fun x x0 x1 => ?_, fun x r x0 x1 r1 => ?_, fun x x0 x1 hx => ?_, fun w w0 w1 => ?_, fun w w0 w1 => ?_, fun w w0 w1 => ?_, fun c c0 c1 => ?_⟩
    · rw [e1]; split
      · have := hS (by assumption); omega
      · omega
    · rw [ej 2 (by decide)]; exact wW
    · rw [ej 3 (by decide)]; exact wn_C h
    · rw [ej 5 (by decide)]; exact wn_D h
    · by_cases hx : x = G 0 0
      · rw [hx, e1T]; exact hs
      · rw [eo 1 x (by decide) (by decide) hx]; exact wn_so h x x0 (by omega)
    · by_cases hx : x = G 0 0
      · rw [hx, e1T, e2T]; exact hv
      · rw [eo 1 x (by decide) (by decide) hx, eo 2 x (by decide) (by decide) hx]; exact wn_sz h x x0 (by omega)
    · rw [ej 2 (by decide)]
      by_cases hx : x = G 0 0
      · rw [hx, e3T]; omega
      · rw [eo 3 x (by decide) (by decide) hx]; exact wn_fi h x x0 (by omega)
    · rw [ej 2 (by decide)]
      by_cases hx : x = G 0 0
      · rw [hx, e4T]; omega
      · rw [eo 4 x (by decide) (by decide) hx]; exact wn_se h x x0 (by omega)
    · by_cases hx : x = G 0 0
      · rw [hx, e3T]; exact fun q => by omega
      · rw [eo 3 x (by decide) (by decide) hx, e6 6 (by decide) (by decide)]; exact wn_ff h x x0 (by omega)
    · by_cases hx : x = G 0 0
      · rw [hx, e4T]; exact fun q => by omega
      · rw [eo 4 x (by decide) (by decide) hx, e6 6 (by decide) (by decide)]; exact wn_sf h x x0 (by omega)
    · by_cases hx : x = G 0 0
      · rw [hx, e3T]; exact fun q => by omega
      · rw [eo 3 x (by decide) (by decide) hx, eo 4 x (by decide) (by decide) hx]; exact wn_ne h x x0 (by omega)
    · by_cases hx : x = G 0 1
      · have hs0 : s = 0 := by
          by_cases hs0 : s = 0
          · exact hs0
          · rw [if_neg hs0] at e1; omega
        rw [hx, e5S hs0, e1T]
        exact ⟨wT.1, by omega, hs0⟩
      · have st := wn_st h x x0 (by omega)
        rw [e5 x hx, eo 1 _ (by decide) (by decide) (by omega)]
        exact ⟨st.1, by omega, st.2.2⟩
    · by_cases hx : r = G 0 1
      · have hs0 : s = 0 := by
          by_cases hs0 : s = 0
          · exact hs0
          · rw [if_neg hs0] at e1; omega
        have st := wn_st h x x0 (by omega)
        rw [hx, e5S hs0, e5 x (by omega)]
        exact st.2.1
      · rw [e5 x (by omega), e5 r hx]
        exact wn_sm h x r x0 x1 (by omega)
    · by_cases hxT : x = G 0 0
      · rw [hxT, e1T] at hx
        exact ⟨G 0 1, wS.1, by rw [e1, if_pos hx]; omega, by rw [e5S hx, hxT]⟩
      · rw [eo 1 x (by decide) (by decide) hxT] at hx
        obtain ⟨u, u0, u1, u2⟩ := wn_sn h x x0 (by omega) hx
        exact ⟨u, u0, by omega, by rw [e5 u (by omega)]; exact u2⟩
    · rw [ej 2 (by decide)] at w1
      rw [e6 6 (by decide) (by decide)]
      have := wn_wf h w w0 w1
      omega
    · rw [ej 2 (by decide)] at w1
      rw [e6 7 (by decide) (by decide)]
      have := wn_wt h w w0 w1
      omega
    · rw [ej 2 (by decide)] at w1
      rw [e6 8 (by decide) (by decide)]
      exact wn_wb h w w0 w1
    · rw [ej 3 (by decide)] at c1
      have cd := wn_cd h c c0 c1
      rw [e6 9 (by decide) (by decide), eo 1 _ (by decide) (by decide) (by omega)]
      exact ⟨cd.1, by omega, cd.2.2⟩
  by_cases hs0 : s = 0
  · rw [adT_pos hs0]
    refine key _ ?_ ?_ (fun j hj => ?_) (fun i x i0 i1 hx => ?_) ?_ ?_ ?_ ?_ (fun x hx => ?_) (fun _ => ?_) fun i i0 i1 => ?_
    · simp (disch := omega) only [stm_neq, stm_hit]
    · rw [if_pos hs0]; simp (disch := omega) only [stm_neq, stm_hit]
    · simp (disch := omega) only [stm_neq, stm_hit]
    · simp (disch := omega) only [stm_neq, stm_hit]
    · simp (disch := omega) only [stm_neq, stm_hit]
    · simp (disch := omega) only [stm_neq, stm_hit]
    · simp (disch := omega) only [stm_neq, stm_hit]
    · simp (disch := omega) only [stm_neq, stm_hit]
    · simp (disch := omega) only [stm_neq, stm_hit]
    · simp (disch := omega) only [stm_neq, stm_hit]
    · simp (disch := omega) only [stm_ne]
  · rw [adT_neg hs0]
    refine key _ ?_ ?_ (fun j hj => ?_) (fun i x i0 i1 hx => ?_) ?_ ?_ ?_ ?_ (fun x hx => ?_) (fun q => absurd q hs0) fun i i0 i1 => ?_
    · simp (disch := omega) only [stm_neq, stm_hit]
    · rw [if_neg hs0]; simp (disch := omega) only [stm_neq, stm_hit]
    · simp (disch := omega) only [stm_neq, stm_hit]
    · simp (disch := omega) only [stm_neq, stm_hit]
    · simp (disch := omega) only [stm_neq, stm_hit]
    · simp (disch := omega) only [stm_neq, stm_hit]
    · simp (disch := omega) only [stm_neq, stm_hit]
    · simp (disch := omega) only [stm_neq, stm_hit]
    · simp (disch := omega) only [stm_neq, stm_hit]
    · simp (disch := omega) only [stm_ne]
theorem WN_adW (h : WN G) (hW : G 0 2 < 16) (a0 : 0 ≤ a) (a1 : a < G 0 0) (hr : rmG G a) (b0 : 0 ≤ b) (b1 : b < G 0 0) (hv : 1 ≤ v ∧ v ≤ 9) : WN (adW G a b v) := by
  have wW := wn_W h
  have fa := wn_fi h a a0 a1
  have sa := wn_se h a a0 a1
  have key : ∀ G' : NTW, (∀ j, j ≠ 2 → G' 0 j = G 0 j) → G' 0 2 = G 0 2 + 1 → (∀ i, (i = 1 ∨ i = 2 ∨ i = 5 ∨ i = 9) → G' i = G i) → (∀ i x, 6 ≤ i → i ≤ 8 → x ≠ G 0 2 → G' i x = G i x) → G' 6 (G 0 2) = a → G' 7 (G 0 2) = b → G' 8 (G 0 2) = v → (∀ x, x ≠ a → G' 3 x = G 3 x ∧ G' 4 x = G 4 x) → ((G' 3 a = G 0 2 ∧ G' 4 a = G 4 a) ∨ (G' 3 a = G 3 a ∧ 0 ≤ G 3 a ∧ G' 4 a = G 0 2)) → WN G' := fun G' ej e2 ei ew e6 e7 e8 e34 ea => by
    have e34' : ∀ x, 0 ≤ x → x < G 0 0 → (-1 ≤ G' 3 x ∧ G' 3 x < G 0 2 + 1) ∧ (-1 ≤ G' 4 x ∧ G' 4 x < G 0 2 + 1) := fun x x0 x1 => by
      by_cases hx : x = a
      · subst hx; omega
      · have := e34 x hx
        have := wn_fi h x x0 x1
        have := wn_se h x x0 x1
        omega
    have c6 : ∀ x y, 0 ≤ x → x < G 0 0 → 0 ≤ y → y < G 0 2 → G 6 y = x → G' 6 y = x := fun x y x0 x1 y0 y1 e => by rw [ew 6 y (by decide) (by decide) (by omega)]; exact e
    refine ⟨?_, ?_, ?_, ?_, ?_, fun x x0 x1 => ?_, fun x x0 x1 => ?_, fun x x0 x1 => ?_, fun x x0 x1 => ?_, fun x x0 x1 => ?_, fun x x0 x1 => ?_, fun x x0 x1 => ?_, fun x x0 x1 => ?_, fun x r x0 x1 r1 => ?_, fun x x0 x1 hx => ?_, fun w w0 w1 => ?_, fun w w0 w1 => ?_, fun w w0 w1 => ?_, fun c c0 c1 => ?_⟩
    · rw [ej 0 (by decide)]; exact wn_T h
    · rw [ej 1 (by decide)]; exact wn_S h
    · omega
    · rw [ej 3 (by decide)]; exact wn_C h
    · rw [ej 5 (by decide)]; exact wn_D h
    · rw [ej 0 (by decide)] at x1
      rw [ei 1 (by decide)]; exact wn_so h x x0 x1
    · rw [ej 0 (by decide)] at x1
      rw [ei 1 (by decide), ei 2 (by decide)]; exact wn_sz h x x0 x1
    · rw [ej 0 (by decide)] at x1
      rw [e2]; exact (e34' x x0 x1).1
    · rw [ej 0 (by decide)] at x1
      rw [e2]; exact (e34' x x0 x1).2
    · rw [ej 0 (by decide)] at x1
      intro hp
      by_cases hx : x = a
      · subst hx
        rcases ea with ⟨q1, q2⟩ | ⟨q1, q2, q3⟩
        · rw [q1, e6]
        · rw [q1]; exact c6 x _ x0 x1 q2 fa.2 (wn_ff h x x0 x1 q2)
      · rw [(e34 x hx).1] at hp ⊢
        exact c6 x _ x0 x1 hp (wn_fi h x x0 x1).2 (wn_ff h x x0 x1 hp)
    · rw [ej 0 (by decide)] at x1
      intro hp
      by_cases hx : x = a
      · subst hx
        rcases ea with ⟨q1, q2⟩ | ⟨q1, q2, q3⟩
        · rw [q2] at hp ⊢; exact c6 x _ x0 x1 hp sa.2 (wn_sf h x x0 x1 hp)
        · rw [q3, e6]
      · rw [(e34 x hx).2] at hp ⊢
        exact c6 x _ x0 x1 hp (wn_se h x x0 x1).2 (wn_sf h x x0 x1 hp)
    · rw [ej 0 (by decide)] at x1
      intro hp
      by_cases hx : x = a
      · subst hx; omega
      · rw [(e34 x hx).1] at hp ⊢
        rw [(e34 x hx).2]
        exact wn_ne h x x0 x1 hp
    · rw [ej 1 (by decide)] at x1
      rw [ei 5 (by decide), ei 1 (by decide), ej 0 (by decide)]; exact wn_st h x x0 x1
    · rw [ej 1 (by decide)] at r1
      rw [ei 5 (by decide)]; exact wn_sm h x r x0 x1 r1
    · rw [ej 0 (by decide)] at x1
      rw [ei 1 (by decide)] at hx
      rw [ej 1 (by decide), ei 5 (by decide)]; exact wn_sn h x x0 x1 hx
    · rw [ej 0 (by decide)]
      by_cases hw : w = G 0 2
      · rw [hw, e6]; exact ⟨a0, a1⟩
      · rw [ew 6 w (by decide) (by decide) hw]; exact wn_wf h w w0 (by omega)
    · rw [ej 0 (by decide)]
      by_cases hw : w = G 0 2
      · rw [hw, e7]; exact ⟨b0, b1⟩
      · rw [ew 7 w (by decide) (by decide) hw]; exact wn_wt h w w0 (by omega)
    · by_cases hw : w = G 0 2
      · rw [hw, e8]; exact hv
      · rw [ew 8 w (by decide) (by decide) hw]; exact wn_wb h w w0 (by omega)
    · rw [ej 3 (by decide)] at c1
      rw [ei 9 (by decide), ei 1 (by decide), ej 0 (by decide)]; exact wn_cd h c c0 c1
  unfold adW
  by_cases h3 : G 3 a < 0
  · rw [if_pos h3]
    refine key _ (fun j hj => ?_) ?_ (fun i hi => ?_) (fun i x i0 i1 hx => ?_) ?_ ?_ ?_ (fun x hx => ?_) (Or.inl ?_)
    · simp (disch := omega) only [stm_neq, stm_hit]
    · simp (disch := omega) only [stm_neq, stm_hit]
    · simp (disch := omega) only [stm_ne]
    · simp (disch := omega) only [stm_neq, stm_hit]
    · simp (disch := omega) only [stm_neq, stm_hit]
    · simp (disch := omega) only [stm_neq, stm_hit]
    · simp (disch := omega) only [stm_neq, stm_hit]
    · simp (disch := omega) only [stm_neq, stm_hit]; exact ⟨trivial, trivial⟩
    · simp (disch := omega) only [stm_neq, stm_hit]; exact ⟨trivial, trivial⟩
  · rw [if_neg h3]
    refine key _ (fun j hj => ?_) ?_ (fun i hi => ?_) (fun i x i0 i1 hx => ?_) ?_ ?_ ?_ (fun x hx => ?_) (Or.inr ?_)
    · simp (disch := omega) only [stm_neq, stm_hit]
    · simp (disch := omega) only [stm_neq, stm_hit]
    · simp (disch := omega) only [stm_ne]
    · simp (disch := omega) only [stm_neq, stm_hit]
    · simp (disch := omega) only [stm_neq, stm_hit]
    · simp (disch := omega) only [stm_neq, stm_hit]
    · simp (disch := omega) only [stm_neq, stm_hit]
    · simp (disch := omega) only [stm_neq, stm_hit]; exact ⟨trivial, trivial⟩
    · simp (disch := omega) only [stm_neq, stm_hit]; exact ⟨trivial, by omega, trivial⟩
/-- only what a net has no part in has changed -/
theorem WN_same (h : WN G) (e0 : ∀ j, j ≤ 3 ∨ j = 5 → G' 0 j = G 0 j) (e : ∀ i, 1 ≤ i → i ≤ 9 → G' i = G i) : WN G' := by
  unfold WN at h ⊢
  rw [e0 0 (by omega), e0 1 (by omega), e0 2 (by omega), e0 3 (by omega), e0 5 (by omega), e 1 (by decide) (by decide), e 2 (by decide) (by decide), e 3 (by decide) (by decide), e 4 (by decide) (by decide), e 5 (by decide) (by decide), e 6 (by decide) (by decide), e 7 (by decide) (by decide), e 8 (by decide) (by decide), e 9 (by decide) (by decide)]
  exact h
theorem WN_adC (h : WN G) (hC : G 0 3 < 6) (t0 : 0 ≤ t) (t1 : t < G 0 0) (t4 : G 1 t = 4) : WN (adC G t) := by
  have wC := wn_C h
  have e0 : ∀ j, j ≠ 3 → adC G t 0 j = G 0 j := fun j hj => by unfold adC; simp (disch := omega) only [stm_neq]
  have e3 : adC G t 0 3 = G 0 3 + 1 := by unfold adC; simp (disch := omega) only [stm_hit]
  have ei : ∀ i, 1 ≤ i → i ≤ 8 → adC G t i = G i := fun i i0 i1 => by unfold adC; simp (disch := omega) only [stm_ne]
  have e9 : ∀ c, c ≠ G 0 3 → adC G t 9 c = G 9 c := fun c hc => by unfold adC; simp (disch := omega) only [stm_neq]
  have e9C : adC G t 9 (G 0 3) = t := by unfold adC; simp (disch := omega) only [stm_neq, stm_hit]
  have cdn : ∀ c, 0 ≤ c → c < adC G t 0 3 → 0 ≤ adC G t 9 c ∧ adC G t 9 c < G 0 0 ∧ G 1 (adC G t 9 c) = 4 := fun c c0 c1 => by
    by_cases hc : c = G 0 3
    · rw [hc, e9C]; exact ⟨t0, t1, t4⟩
    · rw [e9 c hc]; exact wn_cd h c c0 (by omega)
  have h' := h
  unfold WN at h' ⊢
  rw [e0 0 (by decide), e0 1 (by decide), e0 2 (by decide), e0 5 (by decide), ei 1 (by decide) (by decide), ei 2 (by decide) (by decide), ei 3 (by decide) (by decide), ei 4 (by decide) (by decide), ei 5 (by decide) (by decide), ei 6 (by decide) (by decide), ei 7 (by decide) (by decide), ei 8 (by decide) (by decide)]
  obtain ⟨a1, a2, a3, a4, a5, a6, a7, a8, a9, b1, b2, b3, b4, b5, b6, b7, b8, b9, c1⟩ := h'
  exact ⟨a1, a2, a3, by omega, a5, a6, a7, a8, a9, b1, b2, b3, b4, b5, b6, b7, b8, b9, cdn⟩
theorem CDG_same (h : CDG G) (e3 : G' 0 3 = G 0 3) (e7 : G' 0 7 = G 0 7) (e1 : G 0 1 ≤ G' 0 1) (e12 : G' 12 = G 12) (e13 : G' 13 = G 13) : CDG G' := by
  obtain ⟨h1, h2, h3⟩ := h
  unfold CDG
  rw [e3, e7, e12, e13]
  refine ⟨fun c c0 c1 => ?_, h2, h3⟩
  obtain ⟨s, e, g1, g2, g3, g4, g5⟩ := h1 c c0 c1
  refine ⟨s, e, g1, g2, g3, g4, fun i i0 i1 => ?_⟩
  have := g5 i i0 i1
  unfold cdX at this ⊢
  omega
end
