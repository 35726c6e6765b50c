/-! MANY TRIALS: contracts that say what stays -/
def rk (N : NTW) (row : Int → Int) (y t : Int) : Int := flyS N L0 (opS N row (zS 0)) y.toNat (192 + t)
/-- the reference tries rows: sky and row are kept aside -/
def RT (M X : MEM) : Prop := (∀ q j, KP q j → q ≠ 392 → q ≠ 396 → X q j = M q j) ∧ (∀ i, 0 ≤ i → i < 218 → X 393 i = M 392 i) ∧ (∀ i, 0 ≤ i → i < 3 → X 399 i = M 396 i) ∧ 0 ≤ X 364 49
section
variable {d c : Nat} {R M X : MEM} {b n v x y z t : Int} {N : NTW} {Q : RES} {row row' : Int → Int}
theorem rk_b (hW : WN N) (hr : RW N row) (y1 : y ≤ 200) (t0 : 0 ≤ t) (t1 : t < 10) : 0 ≤ rk N row y t ∧ rk N row y t ≤ 300000 := by
  have := there_rng hW (fly_ok (L := L0) hW (zop_ok (N := N) hW hr) y.toNat) t0 t1
  unfold rk
  omega
theorem rk_row (hW : WN N) (e : ∀ s, 0 ≤ s → s < N 0 1 → row s = row' s) : rk N row y t = rk N row' y t := by
  have hS := wn_S hW
  have : opS N row (zS 0) = opS N row' (zS 0) := oS_congr _ fun s s0 s1 => e s s0 (by omega)
  unfold rk
  rw [this]
theorem c_rec (hC0 : RC R) (hN : NR R n) (hC : NC M n N) (hW : WN N) (hsep : n + 12 < 262) {ρ : Int} (hρ : shk SHX ρ = (100, 3)) (hρ2 : ρ < 262 ∨ 267 ≤ ρ) (hr : RW N (M ρ)) (y0 : 0 ≤ y) (y1 : y ≤ 200) (t0 : 0 ≤ t) (t1 : t < 10) (hq : ∀ M', (∀ q, q < 262 ∨ 267 ≤ q → M' q = M q) → Q (rk N (M ρ) y t) SHX R M') : Mw (d + 3) 97 [vr 261, vr n, vr ρ, vi t, vi y] SHX R M 0 0 Q := by
  have em : CS M 262 (blk M 262) = M := CS_self _ _
  obtain ⟨k, rfl⟩ := Int.eq_ofNat_of_zero_le y0
  have := c_reckoned (d := d) (M := M) (A := blk M 262) (t := t) (k := k) (Q := Q) (rc261_0 hC0) (SR262 hC0) hN hC hW hsep hρ hρ2 hr (by omega) t0 t1 (fun A' => hq _ fun q hq => CS_ne (by omega))
  rw [em] at this
  exact this
theorem f_rec (hR : RM R) (hN : NM M b N) (hW : WN N) (hr : RW N (M 396)) (h7 : M 364 47 = -1) (h9 : 0 ≤ M 364 49) (y0 : 0 ≤ y) (y1 : y ≤ 200) (t0 : 0 ≤ t) (t1 : t < 10) (hq : ∀ M', (∀ q j, q ≠ 392 → q ≠ 395 → ¬ (q = 364 ∧ j = 49) → M' q j = M q j) → 0 ≤ M' 364 49 → Q (rk N (M 396) y t) SHX R M') : Mw (d + 3) 227 [vr 364, vi t, vi y] SHX R M 0 0 Q := by
  obtain ⟨k, rfl⟩ := Int.eq_ofNat_of_zero_le y0
  have ef8 : fsk M 218 = M 364 49 := if_pos rfl
  have := f_reckoned (d := d) (L := (-1, M 364 48)) (M := M) (S := fsk M) (F := M 395) (k := k) (t := t) (Q := Q) hR hN hW hr (by rw [ef8]; exact h9) (by omega) t0 t1 h7 rfl (by show (-1 : Int) ≤ -1; decide) (fun F' => ?_)
  · rw [FM_fsk] at this
    exact this
  · rw [fly_Lm (L := (-1, M 364 48)) rfl]
    have e : flyS N L0 (opS N (M 396) (fsk M)) k (192 + t) = rk N (M 396) (k : Int) t := fly_cE hW opS_cE k (192 + t) (by omega) (by omega)
    rw [e]
    refine hq _ (fun q j h1 h2 h3 => ?_) ?_
    · by_cases h4 : q = 364
      · subst h4; rw [FM_fld fun z => h3 ⟨rfl, z⟩]
      · rw [FM_ne2 h1 h2 h4]
    · rw [FM_did]
      exact (fly_ok (L := L0) hW (opS_ok hW hr (by rw [ef8]; exact h9)) k).1 218 (by decide) (by decide)
theorem m_bb (hR : RM R) (hq : ∀ M', (∀ i, 0 ≤ i → i < 218 → M' 392 i = M 393 i) → (∀ q j, ¬ (q = 392 ∧ 0 ≤ j ∧ j < 218) → M' q j = M q j) → Q 0 SHX R M') : Mw d 205 [vr 364] SHX R M 0 0 Q := by
  have := m_bringBack (d := d) (M := M) (S := fsk M) (F := M 395) (Q := Q) hR (hq _ (fun i i0 i1 => ?_) fun q j hq2 => ?_)
  · rw [FM_fsk] at this
    exact this
  · rw [FM_all i1]
    exact if_pos ⟨i0, i1⟩
  · have e : ∀ i, ¬ (0 ≤ i ∧ i < 218) → bbS M (fsk M) i = fsk M i := fun i hi => if_neg hi
    by_cases h4 : q = 392
    · subst h4
      unfold FM
      rw [if_pos rfl]
      split
      · rename_i hj
        rw [e j (by omega), fsk_at hj]
      · rfl
    · by_cases h5 : q = 395
      · subst h5; rw [FM_flo]
      · by_cases h6 : q = 364
        · subst h6
          by_cases h7 : j = 49
          · subst h7
            rw [FM_did, e 218 (by decide)]
            exact if_pos rfl
          · rw [FM_fld h7]
        · rw [FM_ne2 h4 h5 h6]
theorem m_keepRow (hR : RM R) (hq : ∀ M', (∀ i, 0 ≤ i → i < 3 → M' 399 i = M 396 i) → (∀ q j, ¬ (q = 399 ∧ 0 ≤ j ∧ j < 3) → M' q j = M q j) → Q 0 SHX R M') : Mw d 232 [vr 364] SHX R M 0 0 Q := by
  refine Mw_of mok232 rfl fun _ _ => b_X12_keepRow_0 ?_
  have key : ∀ j, 0 ≤ j → j ≤ 3 → ∀ M', (∀ i, 0 ≤ i → i < j → M' 399 i = M 396 i) → (∀ q j, ¬ (q = 399 ∧ 0 ≤ j ∧ j < 3) → M' q j = M q j) → Go d 232 Q 2 [vr 364, vi j] [] SHX R M' 0 0 := by
    refine upto (fun M' h1 h2 => ?_) fun j j0 j1 ih M' h1 h2 => ?_
    · refine b_X12_keepRow_2 ?_
      rw [if_neg (by decide)]
      exact hq M' h1 h2
    · refine b_X12_keepRow_2 ?_
      rw [if_pos j1]
      simp (disch := omega) only [ok364, fr54 hR, ak399, fr46 hR, ak396, iadd_of]
      refine ⟨j0, j1, j0, j1, ih _ (fun i i0 i1 => ?_) fun q i hqi => ?_⟩
      · by_cases hi : i = j
        · rw [hi, stm_hit, h2 _ _ (by omega)]
        · rw [stm_neq (by omega), h1 i i0 (by omega)]
      · rw [stm_neq (by omega), h2 q i hqi]
  exact key 0 (by decide) (by decide) M (fun i i0 i1 => by omega) (fun _ _ _ => rfl)
theorem m_bringRow (hR : RM R) (hq : ∀ M', (∀ i, 0 ≤ i → i < 3 → M' 396 i = M 399 i) → (∀ q j, ¬ (q = 396 ∧ 0 ≤ j ∧ j < 3) → M' q j = M q j) → Q 0 SHX R M') : Mw d 233 [vr 364] SHX R M 0 0 Q := by
  refine Mw_of mok233 rfl fun _ _ => b_X12_bringRow_0 ?_
  have key : ∀ j, 0 ≤ j → j ≤ 3 → ∀ M', (∀ i, 0 ≤ i → i < j → M' 396 i = M 399 i) → (∀ q j, ¬ (q = 396 ∧ 0 ≤ j ∧ j < 3) → M' q j = M q j) → Go d 233 Q 2 [vr 364, vi j] [] SHX R M' 0 0 := by
    refine upto (fun M' h1 h2 => ?_) fun j j0 j1 ih M' h1 h2 => ?_
    · refine b_X12_bringRow_2 ?_
      rw [if_neg (by decide)]
      exact hq M' h1 h2
    · refine b_X12_bringRow_2 ?_
      rw [if_pos j1]
      simp (disch := omega) only [ok364, fr46 hR, ak396, fr54 hR, ak399, iadd_of]
      refine ⟨j0, j1, j0, j1, ih _ (fun i i0 i1 => ?_) fun q i hqi => ?_⟩
      · by_cases hi : i = j
        · rw [hi, stm_hit, h2 _ _ (by omega)]
        · rw [stm_neq (by omega), h1 i i0 (by omega)]
      · rw [stm_neq (by omega), h2 q i hqi]
  exact key 0 (by decide) (by decide) M (fun i i0 i1 => by omega) (fun _ _ _ => rfl)
theorem RT_new {M1 : MEM} (e1 : ∀ q j, KP q j → M1 q j = M q j) (h9 : 0 ≤ M1 364 49) (k1 : ∀ i, 0 ≤ i → i < 3 → X 399 i = pasM M1 396 i) (k2 : ∀ q j, ¬ (q = 399 ∧ 0 ≤ j ∧ j < 3) → X q j = pasM M1 q j) : RT M X := by
  refine ⟨fun q j hk _ _ => ?_, fun i i0 i1 => ?_, fun i i0 i1 => ?_, ?_⟩
  · have h1 := KP_out hk
    have h2 := KP_out2 hk
    rw [k2 q j (by omega), pasM_ne h1.1, e1 q j hk]
  · rw [k2 _ _ (by omega), pasM_at i0 i1, e1 _ _ (by unfold KP; omega)]
  · rw [k1 i i0 i1, pasM_ne (by decide), e1 _ _ (by unfold KP; omega)]
  · rw [k2 _ _ (by omega), pasM_ne (by decide)]; exact h9
theorem RT_end {X1 X2 : MEM} (hX : RT M X) (k1 : ∀ i, 0 ≤ i → i < 3 → X1 396 i = X 399 i) (k2 : ∀ q j, ¬ (q = 396 ∧ 0 ≤ j ∧ j < 3) → X1 q j = X q j) (k3 : ∀ i, 0 ≤ i → i < 218 → X2 392 i = X1 393 i) (k4 : ∀ q j, ¬ (q = 392 ∧ 0 ≤ j ∧ j < 218) → X2 q j = X1 q j) : (∀ q j, KP q j → X2 q j = M q j) ∧ 0 ≤ X2 364 49 := by
  obtain ⟨r1, r2, r3, r4⟩ := hX
  refine ⟨fun q j hk => ?_, ?_⟩
  · have h1 := KP_out hk
    have h2 := KP_out2 hk
    by_cases e2 : q = 392
    · subst e2
      have := h1.2.2.1 rfl
      rw [k3 j this.1 this.2, k2 _ _ (by omega), r2 j this.1 this.2]
    · rw [k4 q j (by omega)]
      by_cases e6 : q = 396
      · subst e6
        have := h2.2.2.2.2.2.2 rfl
        rw [k1 j this.1 this.2, r3 j this.1 this.2]
      · rw [k2 q j (by omega), r1 q j hk e2 e6]
  · rw [k4 _ _ (by omega), k2 _ _ (by omega)]; exact r4
theorem RT_rec {X' : MEM} (hX : RT M X) (f : ∀ q j, q ≠ 392 → q ≠ 395 → ¬ (q = 364 ∧ j = 49) → X' q j = X q j) (h9 : 0 ≤ X' 364 49) : RT M X' := by
  obtain ⟨r1, r2, r3, r4⟩ := hX
  refine ⟨fun q j hk e2 e6 => ?_, fun i i0 i1 => ?_, fun i i0 i1 => ?_, h9⟩
  · have h1 := KP_out hk
    rw [f q j e2 h1.2.1 (by omega), r1 q j hk e2 e6]
  · rw [f _ _ (by decide) (by decide) (by omega), r2 i i0 i1]
  · rw [f _ _ (by decide) (by decide) (by omega), r3 i i0 i1]
theorem RT_stm {q i : Int} (hX : RT M X) (h : ¬ KP q i ∨ q = 396) (h3 : q ≠ 393) (h4 : q ≠ 399) (h5 : ¬ (q = 364 ∧ i = 49)) : RT M (stm X q i v) := by
  obtain ⟨r1, r2, r3, r4⟩ := hX
  refine ⟨fun p j hk e2 e6 => ?_, fun i i0 i1 => ?_, fun i i0 i1 => ?_, ?_⟩
  · rw [stm_neq ?_, r1 p j hk e2 e6]
    rintro ⟨z1, z2⟩
    subst z1 z2
    exact h.elim (fun z => z hk) fun z => e6 z
  · rw [stm_neq (by omega), r2 i i0 i1]
  · rw [stm_neq (by omega), r3 i i0 i1]
  · rw [stm_neq (by omega)]; exact r4
theorem RT_nm (hM : NM M b N) (hX : RT M X) : NM X b N := NM_of hM (hX.1 _ _ (by unfold KP; omega) (by decide) (by decide)) (fun q q0 q1 => funext fun j => hX.1 q j (by unfold KP; omega) (by omega) (by omega)) (funext fun j => hX.1 _ j (by unfold KP; omega) (by decide) (by decide))
theorem RT_7 (hf : IF M) (hX : RT M X) : X 364 47 = -1 := by rw [hX.1 _ _ (by unfold KP; omega) (by decide) (by decide)]; exact if_l hf
end
