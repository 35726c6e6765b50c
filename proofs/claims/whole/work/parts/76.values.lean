/-! WHAT A RULE COMES TO -/
def jn (k a b : Int) : Int := if k = 37 then (if b = 0 then 0 else irem a b) else if k = 38 then (if a = 0 then 0 else if b = 0 then 0 else 1) else if k = 42 then imul a b else if k = 43 then iadd a b else if k = 45 then isub a b else if k = 47 then (if b = 0 then 0 else idiv a b) else if k = 60 then (if a < b then 1 else 0) else if k = 61 then (if a = b then 1 else 0) else if k = 62 then (if b < a then 1 else 0) else (if a = 0 then (if b = 0 then 0 else 1) else 1)
def JK (k z : Int) : Prop := (k = 124 ∧ z = 15) ∨ (k = 38 ∧ z = 16) ∨ (k = 60 ∧ z = 60) ∨ (k = 62 ∧ z = 62) ∨ (k = 61 ∧ z = 61) ∨ (k = 43 ∧ z = 43) ∨ (k = 45 ∧ z = 45) ∨ (k = 42 ∧ z = 42) ∨ (k = 47 ∧ z = 47) ∨ (k = 37 ∧ z = 37)
theorem iteQ {Q : RES} {p : Prop} [Decidable p] {x y : Int} {R M : MEM} : (if p then Q x SHX R M else Q y SHX R M) = Q (if p then x else y) SHX R M := by split <;> rfl
section
variable {d c : Nat} {R M X : MEM} {b n v x y z t s m w k : Int} {N : NTW} {Q : RES}
theorem c_joined (h : JK k z) (hq : Q (jn k x y) SHX R M) : Mw d 32 [vi z, vi x, vi y] SHX R M 0 0 Q := by
  refine Mw_of mok32 rfl fun _ _ => b_X4_joined_0 ?_
  rcases h with ⟨rfl, rfl⟩ | ⟨rfl, rfl⟩ | ⟨rfl, rfl⟩ | ⟨rfl, rfl⟩ | ⟨rfl, rfl⟩ | ⟨rfl, rfl⟩ | ⟨rfl, rfl⟩ | ⟨rfl, rfl⟩ | ⟨rfl, rfl⟩ | ⟨rfl, rfl⟩
  · rw [if_pos rfl, iteQ, iteQ]; exact hq
  · rw [if_neg (by decide), if_pos rfl, iteQ, iteQ]; exact hq
  · rw [if_neg (by decide), if_neg (by decide), if_neg (by decide), if_neg (by decide), if_neg (by decide), if_neg (by decide), if_pos rfl, iteQ]; exact hq
  · rw [if_neg (by decide), if_neg (by decide), if_neg (by decide), if_neg (by decide), if_neg (by decide), if_neg (by decide), if_neg (by decide), if_neg (by decide), if_pos rfl, iteQ]; exact hq
  · rw [if_neg (by decide), if_neg (by decide), if_neg (by decide), if_neg (by decide), if_neg (by decide), if_neg (by decide), if_neg (by decide), if_pos rfl, iteQ]; exact hq
  · rw [if_neg (by decide), if_neg (by decide), if_neg (by decide), if_pos rfl]; exact hq
  · rw [if_neg (by decide), if_neg (by decide), if_neg (by decide), if_neg (by decide), if_pos rfl]; exact hq
  · rw [if_neg (by decide), if_neg (by decide), if_pos rfl]; exact hq
  · rw [if_neg (by decide), if_neg (by decide), if_neg (by decide), if_neg (by decide), if_neg (by decide), if_pos rfl]
    have hq : Q (if y = 0 then 0 else idiv x y) SHX R M := hq
    by_cases h0 : y = 0
    · rw [if_pos h0] at hq ⊢; exact hq
    · rw [if_neg h0] at hq ⊢; exact ⟨h0, hq⟩
  · rw [if_neg (by decide), if_neg (by decide), if_neg (by decide), if_neg (by decide), if_neg (by decide), if_neg (by decide), if_neg (by decide), if_neg (by decide), if_neg (by decide)]
    have hq : Q (if y = 0 then 0 else irem x y) SHX R M := hq
    by_cases h0 : y = 0
    · rw [if_pos h0] at hq ⊢; exact hq
    · rw [if_neg h0] at hq ⊢; exact ⟨h0, hq⟩
theorem m_two (h : JK k z) (hq : Q (jn k x y) SHX R M) : Mw d 190 [vi k, vi x, vi y] SHX R M 0 0 Q := by
  refine Mw_of mok190 rfl fun _ _ => b_X12_two_0 ?_
  rcases h with ⟨rfl, rfl⟩ | ⟨rfl, rfl⟩ | ⟨rfl, rfl⟩ | ⟨rfl, rfl⟩ | ⟨rfl, rfl⟩ | ⟨rfl, rfl⟩ | ⟨rfl, rfl⟩ | ⟨rfl, rfl⟩ | ⟨rfl, rfl⟩ | ⟨rfl, rfl⟩
  · repeat rw [if_neg (by decide)]
    rw [iteQ, iteQ]; exact hq
  · repeat rw [if_neg (by decide)]
    rw [if_pos rfl, iteQ, iteQ]; exact hq
  · repeat rw [if_neg (by decide)]
    rw [if_pos rfl, iteQ]; exact hq
  · repeat rw [if_neg (by decide)]
    rw [if_pos rfl, iteQ]; exact hq
  · repeat rw [if_neg (by decide)]
    rw [if_pos rfl, iteQ]; exact hq
  · repeat rw [if_neg (by decide)]
    rw [if_pos rfl]; exact hq
  · repeat rw [if_neg (by decide)]
    rw [if_pos rfl]; exact hq
  · repeat rw [if_neg (by decide)]
    rw [if_pos rfl]; exact hq
  · repeat rw [if_neg (by decide)]
    rw [if_pos rfl]
    have hq : Q (if y = 0 then 0 else idiv x y) SHX R M := hq
    by_cases h0 : y = 0
    · rw [if_pos h0] at hq ⊢; exact hq
    · rw [if_neg h0] at hq ⊢; exact ⟨h0, hq⟩
  · rw [if_pos rfl]
    have hq : Q (if y = 0 then 0 else irem x y) SHX R M := hq
    by_cases h0 : y = 0
    · rw [if_pos h0] at hq ⊢; exact hq
    · rw [if_neg h0] at hq ⊢; exact ⟨h0, hq⟩
end
/-- one code on the pile: its height and what lies there -/
def evS (row : Int → Int) (k v : Int) (s : Int × (Int → Int)) : Int × (Int → Int) := if k = 110 then (s.1 + 1, upf s.2 s.1 v) else if k = 115 then (s.1 + 1, upf s.2 s.1 (row v)) else if k = 126 then (s.1, upf s.2 (s.1 - 1) (if s.2 (s.1 - 1) = 0 then 1 else 0)) else (s.1 - 1, upf s.2 (s.1 - 2) (jn k (s.2 (s.1 - 2)) (s.2 (s.1 - 1))))
def evF (row K V : Int → Int) : Nat → Int → Int × (Int → Int) → Int × (Int → Int)
  | 0, _, s => s
  | q + 1, i, s => evF row K V q (i + 1) (evS row (K i) (V i) s)
/-- what a rule comes to for a row -/
def vlR (M : MEM) (b c : Int) (row : Int → Int) : Int := (evF row (M 387) (M 388) (M 383 (6 * b + c) - M 382 (6 * b + c)).toNat (M 382 (6 * b + c)) (0, fun _ => 0)).2 0
theorem codeOK_cases {x k v n : Int} (h : codeOK x k v n) : (k = 110 ∧ x = v ∧ 0 ≤ v ∧ v ≤ 9999) ∨ (k = 115 ∧ x = 10000 + v ∧ 0 ≤ v ∧ v < n) ∨ (k = 126 ∧ x = 20017) ∨ (JK k (x - 20000) ∧ 20000 ≤ x ∧ x ≠ 20017 ∧ x ≤ 20100 ∧ k ≠ 110 ∧ k ≠ 115 ∧ k ≠ 126 ∧ (k < 97 ∨ 122 < k)) := by
  unfold codeOK at h
  rcases h with h | h | h | ⟨h1, h2⟩ | ⟨h1, h2⟩ | ⟨h1, h2⟩
  · exact Or.inl h
  · exact Or.inr (Or.inl h)
  · exact Or.inr (Or.inr (Or.inl h))
  · refine Or.inr (Or.inr (Or.inr ⟨Or.inr (Or.inl ⟨h1, by omega⟩), ?_⟩))
    refine ⟨by omega, by omega, by omega, by omega, by omega, by omega, Or.inl (by omega)⟩
  · refine Or.inr (Or.inr (Or.inr ⟨Or.inl ⟨h1, by omega⟩, ?_⟩))
    refine ⟨by omega, by omega, by omega, by omega, by omega, by omega, Or.inr (by omega)⟩
  · have e : x - 20000 = k := by omega
    have hk : 37 ≤ k ∧ k ≤ 62 := by omega
    refine Or.inr (Or.inr (Or.inr ⟨?_, by omega, by omega, by omega, by omega, by omega, by omega, Or.inl (by omega)⟩))
    rw [e]
    unfold JK
    rcases h1 with rfl | rfl | rfl | rfl | rfl | rfl | rfl | rfl <;> simp
section
variable {d : Nat} {R M : MEM} {b n c r e s0 : Int} {N : NTW} {Q : RES} {H : Int → Int}
/-- what both sides know of a claim's codes -/
def CD1 (M : MEM) (b n s e : Int) (N : NTW) (H : Int → Int) : Prop := ∀ i, s ≤ i → i < e → codeOK (M (n + 11) i) (M 387 (600 * b + i)) (M 388 (600 * b + i)) (N 0 1) ∧ 0 ≤ H i ∧ H i ≤ 30 ∧ htOK (M 387 (600 * b + i)) (H i) (H (i + 1))
theorem c_val18 {ρ : Int} (hN : NR R n) (hρ : shk SHX ρ = (100, 3)) (hρ2 : ρ ≠ n + 12) (hS : N 0 1 ≤ 3) (s00 : 0 ≤ s0) (e6 : e ≤ 600) (hE : CD1 M b n s0 e N H) (he : H e = 1) (hq : ∀ M', (∀ q, q ≠ n + 12 → M' q = M q) → Q r SHX R M') : ∀ (K : Nat) (i : Int) (st : Int × (Int → Int)) (M' : MEM), i + (K : Int) = e → s0 ≤ i → st.1 = H i → (∀ j, 0 ≤ j → j < st.1 → M' (n + 12) j = st.2 j) → (∀ q, q ≠ n + 12 → M' q = M q) → (evF (M ρ) (M 387) (M 388) K (600 * b + i) st).2 0 = r → Go (d + 1) 31 Q 18 [vr n, vn, vr ρ, vi st.1, vi e, vi i, vn] [] SHX R M' 0 0
  | 0, i, st, M', hk, hi, hh, hv, hf, hr => by
    refine b_X4_value_18 ?_
    rw [if_neg (by omega), okN hN, nr16 hN, aN12 hN]
    refine ⟨by decide, by decide, ?_⟩
    have hie : i = e := by omega
    have hr : st.2 0 = r := hr
    rw [hv 0 (by decide) (by rw [hh, hie, he]; decide), hr]
    exact hq M' hf
  | K + 1, i, st, M', hk, hi, hh, hv, hf, hr => by
    obtain ⟨c1, c2, c3, c4⟩ := hE i hi (by omega)
    have ec : M' (n + 11) i = M (n + 11) i := by rw [hf _ (by omega)]
    have er : M' ρ = M ρ := hf _ hρ2
    have ih := c_val18 hN hρ hρ2 hS s00 e6 hE he hq K (i + 1)
    unfold evF at hr
    rw [show 600 * b + i + 1 = 600 * b + (i + 1) by omega] at hr
    unfold htOK at c4
    refine b_X4_value_18 ?_
    rw [if_pos (by omega), okN hN, nr14 hN, aN11 hN, ec, nr16 hN]
    refine ⟨by omega, by omega, ?_⟩
    rcases codeOK_cases c1 with ⟨g1, g2, g3, g4⟩ | ⟨g1, g2, g3, g4⟩ | ⟨g1, g2⟩ | ⟨g0, g1, g2, g3, g4, g5, g6, g7⟩
    · rw [g1, if_pos (Or.inl rfl)] at c4
      rw [g2, if_pos (by omega), if_pos (by omega), okN hN, if_pos (by omega), aN12 hN, iadd_of (by omega) (by omega), iadd_of (by omega) (by omega)]
      rw [show evS (M ρ) (M 387 (600 * b + i)) (M 388 (600 * b + i)) st = (st.1 + 1, upf st.2 st.1 (M 388 (600 * b + i))) by unfold evS; rw [if_pos g1]] at hr
      refine ⟨by omega, by omega, ih (st.1 + 1, _) _ (by omega) (by omega) (by show st.1 + 1 = _; omega) (fun j j0 j1 => ?_) (fun q hq => by rw [stm_ne hq, hf q hq]) hr⟩
      have j1 : j < st.1 + 1 := j1
      show _ = upf _ _ _ j
      by_cases hj : j = st.1
      · rw [hj, stm_hit, upf_hit]
      · rw [stm_neq (by omega), upf_ne hj, hv j j0 (by omega)]
    · rw [g1, if_pos (Or.inr rfl)] at c4
      rw [g2, if_pos (by omega), if_pos (by omega), okN hN, if_neg (by omega), isub_of (by omega) (by omega), show 10000 + M 388 (600 * b + i) - 10000 = M 388 (600 * b + i) by omega, ak_mk hρ, aN12 hN, iadd_of (by omega) (by omega), iadd_of (by omega) (by omega), er]
      rw [show evS (M ρ) (M 387 (600 * b + i)) (M 388 (600 * b + i)) st = (st.1 + 1, upf st.2 st.1 (M ρ (M 388 (600 * b + i)))) by unfold evS; rw [if_neg (by omega), if_pos g1]] at hr
      refine ⟨g3, by omega, by omega, by omega, ih (st.1 + 1, _) _ (by omega) (by omega) (by show st.1 + 1 = _; omega) (fun j j0 j1 => ?_) (fun q hq => by rw [stm_ne hq, hf q hq]) hr⟩
      have j1 : j < st.1 + 1 := j1
      show _ = upf _ _ _ j
      by_cases hj : j = st.1
      · rw [hj, stm_hit, upf_hit]
      · rw [stm_neq (by omega), upf_ne hj, hv j j0 (by omega)]
    · rw [g1, if_neg (by decide), if_pos rfl] at c4
      rw [g2, if_neg (by decide), if_pos rfl, if_neg (by omega), okN hN, okN hN, isub_of (by omega) (by omega), aN12 hN, hv _ (by omega) (by omega)]
      rw [show evS (M ρ) (M 387 (600 * b + i)) (M 388 (600 * b + i)) st = (st.1, upf st.2 (st.1 - 1) (if st.2 (st.1 - 1) = 0 then 1 else 0)) by unfold evS; rw [if_neg (by omega), if_neg (by omega), if_pos g1]] at hr
      refine ⟨by omega, by omega, ?_⟩
      have fin : ∀ z, z = (if st.2 (st.1 - 1) = 0 then (1 : Int) else 0) → Go (d + 1) 31 Q 18 [vr n, vn, vr ρ, vi st.1, vi e, vi (i + 1), vn] [] SHX R (stm M' (n + 12) (st.1 - 1) z) 0 0 := by
        intro z hz
        subst hz
        refine ih (st.1, upf st.2 (st.1 - 1) (if st.2 (st.1 - 1) = 0 then 1 else 0)) _ (by omega) (by omega) (by show st.1 = _; omega) (fun j j0 j1 => ?_) (fun q hq => by rw [stm_ne hq, hf q hq]) hr
        have j1 : j < st.1 := j1
        show _ = upf _ _ _ j
        by_cases hj : j = st.1 - 1
        · rw [hj, stm_hit, upf_hit]
        · rw [stm_neq (by omega), upf_ne hj, hv j j0 (by omega)]
      by_cases h0 : st.2 (st.1 - 1) = 0
      · rw [if_pos h0, aN12 hN, iadd_of (by omega) (by omega)]
        exact ⟨by omega, by omega, fin 1 (by rw [if_pos h0])⟩
      · rw [if_neg h0, aN12 hN, iadd_of (by omega) (by omega)]
        exact ⟨by omega, by omega, fin 0 (by rw [if_neg h0])⟩
    · rw [if_neg (by omega), if_neg g6] at c4
      rw [if_neg (by omega), if_neg g2, if_neg (by omega), okN hN, okN hN, isub_of (by omega) (by omega), isub_of (by omega) (by omega), isub_of (by omega) (by omega), aN12 hN, okN hN, aN12 hN, hv _ (by omega) (by omega), hv _ (by omega) (by omega)]
      rw [show evS (M ρ) (M 387 (600 * b + i)) (M 388 (600 * b + i)) st = (st.1 - 1, upf st.2 (st.1 - 2) (jn (M 387 (600 * b + i)) (st.2 (st.1 - 2)) (st.2 (st.1 - 1)))) by unfold evS; rw [if_neg g4, if_neg g5, if_neg g6]] at hr
      refine ⟨by omega, by omega, by omega, by omega, c_joined (d := d) g0 ?_⟩
      rw [aN12 hN, iadd_of (by omega) (by omega), iadd_of (by omega) (by omega), show st.1 + -1 = st.1 - 1 by omega]
      refine ⟨by omega, by omega, ih (st.1 - 1, _) _ (by omega) (by omega) (by show st.1 - 1 = _; omega) (fun j j0 j1 => ?_) (fun q hq => by rw [stm_ne hq, hf q hq]) hr⟩
      have j1 : j < st.1 - 1 := j1
      show _ = upf _ _ _ j
      by_cases hj : j = st.1 - 2
      · rw [hj, stm_hit, upf_hit]
      · rw [stm_neq (by omega), upf_ne hj, hv j j0 (by omega)]
theorem c_value {ρ : Int} (hN : NR R n) (hρ : shk SHX ρ = (100, 3)) (hρ2 : ρ ≠ n + 12) (hW : WN N) (hE : CDE M b n N) (c0 : 0 ≤ c) (c1 : c < N 0 3) (c6 : N 0 3 ≤ 6) (hq : ∀ M', (∀ q, q ≠ n + 12 → M' q = M q) → Q (vlR M b c (M ρ)) SHX R M') : Mw (d + 1) 31 [vr n, vi c, vr ρ] SHX R M 0 0 Q := by
  have hS := wn_S hW
  obtain ⟨s, e, H, h1, h2, h3, h4, h5, h6, h7, h8, h9, h10⟩ := hE c c0 c1
  refine Mw_of mok31 rfl fun _ _ => b_X4_value_0 ?_
  have go : Go (d + 1) 31 Q 18 [vr n, vn, vr ρ, vi 0, vi e, vi s, vn] [] SHX R M 0 0 := by
    refine c_val18 (r := vlR M b c (M ρ)) hN hρ hρ2 (by omega) h1 h3 h10 h9 hq (e - s).toNat s (0, fun _ => 0) M (by omega) (by omega) h8.symm (fun j j0 j1 => ?_) (fun _ _ => rfl) ?_
    · have j1 : j < 0 := j1
      omega
    · unfold vlR
      rw [h6, h7, show 600 * b + e - (600 * b + s) = e - s by omega]
  rw [okN hN, nr13 hN, aN10 hN, h5]
  refine ⟨c0, by omega, ?_⟩
  by_cases hc : c = 0
  · rw [if_pos hc] at h4 ⊢
    rw [h4] at go
    exact go
  · rw [if_neg hc] at h4 ⊢
    rw [okN hN, isub_of (by omega) (by omega), aN10 hN, ← h4]
    exact ⟨by omega, by omega, go⟩
theorem m_com12 (hR : RM R) (hS : N 0 1 ≤ 3) (hM : M 364 36 = b) (b0 : 0 ≤ b) (b1 : b ≤ 1) (s00 : 0 ≤ s0) (e6 : e ≤ 600) (c0 : 0 ≤ c) (c6 : c < 6) (h7 : M 383 (6 * b + c) = 600 * b + e) (hE : CD1 M b n s0 e N H) (he : H e = 1) (hq : ∀ M', (∀ q, q ≠ 391 → M' q = M q) → Q r SHX R M') : ∀ (K : Nat) (i : Int) (st : Int × (Int → Int)) (M' : MEM), i + (K : Int) = e → s0 ≤ i → st.1 = H i → (∀ j, 0 ≤ j → j < st.1 → M' 391 j = st.2 j) → (∀ q, q ≠ 391 → M' q = M q) → (evF (M 396) (M 387) (M 388) K (600 * b + i) st).2 0 = r → Go (d + 1) 191 Q 12 [vr 364, vi c, vi st.1, vi (600 * b + i), vn] [] SHX R M' 0 0
  | 0, i, st, M', hk, hi, hh, hv, hf, hr => by
    refine b_X12_comes_12 ?_
    simp (disch := omega) only [ok364, fr27 hR, fr35 hR, ak383, ak391, hf 364 (by decide), hf 383 (by decide), hM, imul_of, iadd_of, h7]
    refine ⟨by omega, by omega, ?_⟩
    rw [if_neg (by omega)]
    have hie : i = e := by omega
    have hr : st.2 0 = r := hr
    rw [hv 0 (by decide) (by rw [hh, hie, he]; decide), hr]
    exact ⟨by decide, by decide, hq M' hf⟩
  | K + 1, i, st, M', hk, hi, hh, hv, hf, hr => by
    obtain ⟨c1, c2, c3, c4⟩ := hE i hi (by omega)
    have ek : M' 387 (600 * b + i) = M 387 (600 * b + i) := by rw [hf _ (by decide)]
    have ev : M' 388 (600 * b + i) = M 388 (600 * b + i) := by rw [hf _ (by decide)]
    have er : M' 396 = M 396 := hf _ (by decide)
    have ih := m_com12 hR hS hM b0 b1 s00 e6 c0 c6 h7 hE he hq K (i + 1)
    unfold evF at hr
    rw [show 600 * b + (i + 1) = 600 * b + i + 1 by omega] at ih
    unfold htOK at c4
    refine b_X12_comes_12 ?_
    simp (disch := omega) only [ok364, fr27 hR, fr31 hR, fr35 hR, ak383, ak387, hf 364 (by decide), hf 383 (by decide), hM, imul_of, iadd_of, isub_of, h7, ek]
    refine ⟨by omega, by omega, ?_⟩
    rw [if_pos (by omega)]
    refine ⟨by omega, by omega, ?_⟩
    rcases codeOK_cases c1 with ⟨g1, g2, g3, g4⟩ | ⟨g1, g2, g3, g4⟩ | ⟨g1, g2⟩ | ⟨g0, g1, g2, g3, g4, g5, g6, g7⟩
    · rw [g1, if_pos (Or.inl rfl)] at c4
      rw [show evS (M 396) (M 387 (600 * b + i)) (M 388 (600 * b + i)) st = (st.1 + 1, upf st.2 st.1 (M 388 (600 * b + i))) by unfold evS; rw [if_pos g1]] at hr
      rw [g1, if_neg (by decide)]
      refine Mw_of mok154 rfl fun _ _ => b_X12_isLetter_0 ?_
      rw [if_neg (by decide), if_neg (by decide)]
      intro _
      rw [if_neg (by decide), if_neg (by decide)]
      simp (disch := omega) only [ok364, fr32 hR, fr35 hR, ak388, ak391, ev]
      refine ⟨by omega, by omega, by omega, by omega, ih (st.1 + 1, _) _ (by omega) (by omega) (by show st.1 + 1 = _; omega) (fun j j0 j1 => ?_) (fun q hq => by rw [stm_ne hq, hf q hq]) hr⟩
      have j1 : j < st.1 + 1 := j1
      show _ = upf _ _ _ j
      by_cases hj : j = st.1
      · rw [hj, stm_hit, upf_hit]
      · rw [stm_neq (by omega), upf_ne hj, hv j j0 (by omega)]
    · rw [g1, if_pos (Or.inr rfl)] at c4
      rw [show evS (M 396) (M 387 (600 * b + i)) (M 388 (600 * b + i)) st = (st.1 + 1, upf st.2 st.1 (M 396 (M 388 (600 * b + i)))) by unfold evS; rw [if_neg (by omega), if_pos g1]] at hr
      rw [g1, if_neg (by decide)]
      refine Mw_of mok154 rfl fun _ _ => b_X12_isLetter_0 ?_
      rw [if_neg (by decide), if_neg (by decide)]
      intro _
      rw [if_neg (by decide), if_pos rfl]
      simp (disch := omega) only [ok364, fr32 hR, fr35 hR, fr46 hR, ak388, ak391, ak396, ev, er]
      refine ⟨by omega, by omega, g3, by omega, by omega, by omega, ih (st.1 + 1, _) _ (by omega) (by omega) (by show st.1 + 1 = _; omega) (fun j j0 j1 => ?_) (fun q hq => by rw [stm_ne hq, hf q hq]) hr⟩
      have j1 : j < st.1 + 1 := j1
      show _ = upf _ _ _ j
      by_cases hj : j = st.1
      · rw [hj, stm_hit, upf_hit]
      · rw [stm_neq (by omega), upf_ne hj, hv j j0 (by omega)]
    · rw [g1, if_neg (by decide), if_pos rfl] at c4
      rw [show evS (M 396) (M 387 (600 * b + i)) (M 388 (600 * b + i)) st = (st.1, upf st.2 (st.1 - 1) (if st.2 (st.1 - 1) = 0 then 1 else 0)) by unfold evS; rw [if_neg (by omega), if_neg (by omega), if_pos g1]] at hr
      rw [g1, if_pos rfl]
      simp (disch := omega) only [ak391, hv _ (show 0 ≤ st.1 - 1 by omega) (show st.1 - 1 < st.1 by omega)]
      refine ⟨by omega, by omega, ?_⟩
      have fin : ∀ z, z = (if st.2 (st.1 - 1) = 0 then (1 : Int) else 0) → Go (d + 1) 191 Q 12 [vr 364, vi c, vi st.1, vi (600 * b + i + 1), vn] [] SHX R (stm M' 391 (st.1 - 1) z) 0 0 := by
        intro z hz
        subst hz
        refine ih (st.1, upf st.2 (st.1 - 1) (if st.2 (st.1 - 1) = 0 then 1 else 0)) _ (by omega) (by omega) (by show st.1 = _; omega) (fun j j0 j1 => ?_) (fun q hq => by rw [stm_ne hq, hf q hq]) hr
        have j1 : j < st.1 := j1
        show _ = upf _ _ _ j
        by_cases hj : j = st.1 - 1
        · rw [hj, stm_hit, upf_hit]
        · rw [stm_neq (by omega), upf_ne hj, hv j j0 (by omega)]
      by_cases h0 : st.2 (st.1 - 1) = 0
      · rw [if_pos h0]
        exact ⟨by omega, by omega, fin 1 (by rw [if_pos h0])⟩
      · rw [if_neg h0]
        exact ⟨by omega, by omega, fin 0 (by rw [if_neg h0])⟩
    · rw [if_neg (by omega), if_neg g6] at c4
      rw [show evS (M 396) (M 387 (600 * b + i)) (M 388 (600 * b + i)) st = (st.1 - 1, upf st.2 (st.1 - 2) (jn (M 387 (600 * b + i)) (st.2 (st.1 - 2)) (st.2 (st.1 - 1)))) by unfold evS; rw [if_neg g4, if_neg g5, if_neg g6]] at hr
      rw [if_neg g6]
      refine Mw_of mok154 rfl fun _ _ => b_X12_isLetter_0 ?_
      have e0 : Go (d + 1) 191 Q 12 [vr 364, vi c, vi (st.1 - 1), vi (600 * b + i + 1), vn] [] SHX R (stm M' 391 (st.1 - 2) (jn (M 387 (600 * b + i)) (st.2 (st.1 - 2)) (st.2 (st.1 - 1)))) 0 0 := by
        refine ih (st.1 - 1, _) _ (by omega) (by omega) (by show st.1 - 1 = _; omega) (fun j j0 j1 => ?_) (fun q hq => by rw [stm_ne hq, hf q hq]) hr
        have j1 : j < st.1 - 1 := j1
        show _ = upf _ _ _ j
        by_cases hj : j = st.1 - 2
        · rw [hj, stm_hit, upf_hit]
        · rw [stm_neq (by omega), upf_ne hj, hv j j0 (by omega)]
      have fin : (if (0 : Int) = 0 then aok SHX 100 391 (st.1 + -1 - 1) (aok SHX 100 391 (st.1 + -1) (Cd (d + 1) 190 [vi (M 387 (600 * b + i)), vi (M' 391 (st.1 + -1 - 1)), vi (M' 391 (st.1 + -1))] SHX R M' 0 0 (fun (x2 : Int) (sh2 : SHP) (R2 M2 : MEM) => aok sh2 100 391 (st.1 + -1 - 1) (Go (d + 1) 191 Q 12 [vr 364, vi c, vi (st.1 + -1), vi (600 * b + i + 1), vn] [] sh2 R2 (stm M2 391 (st.1 + -1 - 1) x2) 0 0)))) else True) := by
        rw [if_pos rfl, ak391, ak391, show st.1 + -1 - 1 = st.1 - 2 by omega, show st.1 + -1 = st.1 - 1 by omega, hv _ (by omega) (by omega), hv _ (by omega) (by omega)]
        refine ⟨by omega, by omega, by omega, by omega, m_two (d := d) g0 ?_⟩
        rw [ak391]
        exact ⟨by omega, by omega, e0⟩
      rw [if_pos rfl] at fin
      by_cases h9 : M 387 (600 * b + i) < 97
      · rw [if_pos h9]
        intro _
        rw [if_pos rfl, ok364, ok364, fr35 hR, ok364]
        exact fin
      · rw [if_neg h9, if_pos (by omega)]
        intro _
        rw [if_pos rfl, ok364, ok364, fr35 hR, ok364]
        exact fin
theorem m_comes (hR : RM R) (hM : NM M b N) (hW : WN N) (hE : CDE M b n N) (c0 : 0 ≤ c) (c1 : c < N 0 3) (c6 : N 0 3 ≤ 6) (hq : ∀ M', (∀ q, q ≠ 391 → M' q = M q) → Q (vlR M b c (M 396)) SHX R M') : Mw (d + 1) 191 [vr 364, vi c] SHX R M 0 0 Q := by
  have hS := wn_S hW
  have b0 := nm_b0 hM
  have b1 := nm_b1 hM
  obtain ⟨s, e, H, h1, h2, h3, h4, h5, h6, h7, h8, h9, h10⟩ := hE c c0 c1
  refine Mw_of mok191 rfl fun _ _ => b_X12_comes_0 ?_
  simp (disch := omega) only [ok364, fr26 hR, ak382, nm_b hM, imul_of, iadd_of, h6]
  refine ⟨by omega, by omega, m_com12 (r := vlR M b c (M 396)) (n := n) hR (by omega) (nm_b hM) b0 b1 h1 h3 c0 (by omega) h7 h10 h9 hq (e - s).toNat s (0, fun _ => 0) M (by omega) (by omega) h8.symm (fun j j0 j1 => ?_) (fun _ _ => rfl) ?_⟩
  · have j1 : j < 0 := j1
    omega
  · unfold vlR
    rw [h6, h7, show 600 * b + e - (600 * b + s) = e - s by omega]
end
