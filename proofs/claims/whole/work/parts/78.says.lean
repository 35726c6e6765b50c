/-! SAYS -/
theorem KP_val {q j : Int} (h : KP q j) : q ≠ 13 ∧ q ≠ 26 := by
  unfold KP at h
  omega
section
variable {d c : Nat} {R M X : MEM} {b n v x y z t s m w k : Int} {N : NTW} {Q : RES} {row row' : Int → Int}
theorem evF_row {K V : Int → Int} {row row' : Int → Int} : ∀ (q : Nat) (i : Int) (st : Int × (Int → Int)), (∀ j, i ≤ j → j < i + (q : Int) → K j = 115 → row (V j) = row' (V j)) → evF row K V q i st = evF row' K V q i st
  | 0, _, _, _ => rfl
  | q + 1, i, st, h => by
    unfold evF
    have e : evS row (K i) (V i) st = evS row' (K i) (V i) st := by
      unfold evS
      by_cases h1 : K i = 115
      · rw [h i (by omega) (by omega) h1]
      · rw [if_neg h1, if_neg h1]
    rw [e]
    exact evF_row q (i + 1) _ fun j j0 j1 => h j (by omega) (by omega)
theorem vlR_row (hE : CDE M b n N) {c : Int} (c0 : 0 ≤ c) (c1 : c < N 0 3) (e : ∀ s, 0 ≤ s → s < N 0 1 → row s = row' s) : vlR M b c row = vlR M b c row' := by
  obtain ⟨s, e', H, h1, h2, h3, h4, h5, h6, h7, h8, h9, h10⟩ := hE c c0 c1
  unfold vlR
  rw [h6, h7, show 600 * b + e' - (600 * b + s) = e' - s by omega]
  rw [evF_row _ _ _ fun j j0 j1 hj => ?_]
  obtain ⟨g1, _, _, _⟩ := h10 (j - 600 * b) (by omega) (by omega)
  rw [show 600 * b + (j - 600 * b) = j by omega] at g1
  unfold codeOK at g1
  exact e _ (by omega) (by omega)
theorem CDE_of {M' : MEM} (h : CDE M b n N) (e1 : M' (n + 10) = M (n + 10)) (e2 : M' (n + 11) = M (n + 11)) (e3 : M' 382 = M 382) (e4 : M' 383 = M 383) (e5 : M' 387 = M 387) (e6 : M' 388 = M 388) : CDE M' b n N := by
  unfold CDE at h ⊢
  rw [e1, e2, e3, e4, e5, e6]
  exact h
theorem vlR_of {M' : MEM} {c : Int} (e3 : M' 382 = M 382) (e4 : M' 383 = M 383) (e5 : M' 387 = M 387) (e6 : M' 388 = M 388) : vlR M' b c row = vlR M b c row := by
  unfold vlR
  rw [e3, e4, e5, e6]
theorem p_says (h : INV c R M b N) : PR (d + 2) 121 237 [vi x] R M (Inv (c + 1)) := by
  obtain ⟨hn, hN, hC, hW, hM, hc, hR, b0, b1⟩ := in_net h
  have hE := ia_e (in_a h)
  obtain ⟨r1, r2, r3⟩ := in_row h
  have c6 := wn_C hW
  refine Mw_of mok121 rfl fun _ _ => b_X11_says_0 ?_
  rw [ok0]
  refine c_isClaim (d := d) hn hN hC hW (fun x0 x1 _ => ?_) fun x0 _ => ?_
  · rw [if_neg (by decide), ok0, ok0, rc0_5 hc, hn, okN hN]
    refine c_value (d := d) hN fs260 (by omega) hW hE x0 x1 (by omega) fun M1 f1 => ?_
    have hM1 : NM M1 b N := NM_of hM (by rw [f1 _ (by omega)]) (fun q q0 q1 => f1 q (by omega)) (f1 _ (by omega))
    refine ⟨rfl, Mw_of mok237 rfl fun _ _ => b_X12_says_0 ?_⟩
    rw [ok364]
    refine m_isClaim (d := d) hR hM1 hW (fun _ _ _ => ?_) fun g _ => absurd ⟨x0, x1⟩ g
    rw [if_neg (by decide), ok364]
    refine m_comes (d := d) hR hM1 hW (CDE_of hE (f1 _ (by omega)) (f1 _ (by omega)) (f1 _ (by omega)) (f1 _ (by omega)) (f1 _ (by omega)) (f1 _ (by omega))) x0 x1 (by omega) fun M2 f2 => ?_
    refine ⟨rfl, ?_, b, N, INV_keep h (Nat.le_succ c) (fun q j hk => by have := KP_out2 hk; have := KP_val hk; rw [f2 q (by omega), f1 q (by omega)]) (by rw [f2 _ (by decide), f1 _ (by omega)]; exact if_s (in_f h))⟩
    rw [f1 396 (by omega), vlR_of (f1 _ (by omega)) (f1 _ (by omega)) (f1 _ (by omega)) (f1 _ (by omega))]
    exact vlR_row hE x0 x1 r3
  · rw [if_pos rfl]
    refine ⟨rfl, Mw_of mok237 rfl fun _ _ => b_X12_says_0 ?_⟩
    rw [ok364]
    refine m_isClaim (d := d) hR hM hW (fun k0 k1 _ => absurd ⟨k0, k1⟩ x0) fun g _ => ?_
    rw [if_pos rfl]
    exact ⟨rfl, rfl, same h⟩
end
