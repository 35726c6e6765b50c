/-! ADDS: the reference, and the op -/
section
variable {d c : Nat} {R M X : MEM} {b n v x y z t s m w : Int} {N : NTW} {Q : RES}
theorem m_add80 {f : Int → Int} {r : Int × Int × Int} {K : Nat} {a : Int} (hR : RM R) (hf : ∀ k, 1 ≤ k → k ≤ m → M 400 k = f k) (hb : ∀ k, 1 ≤ k → k ≤ m → 0 ≤ f k ∧ f k ≤ 300000) (a0 : 1 ≤ a) (a1 : a ≤ m) (m1 : m ≤ 40) (nx : ∀ s : Int × Int × Int, 0 ≤ s.1 → s.1 ≤ 50 * a → outA f m K (a + 1) s = r → Go d 250 Q 75 [vr 364, vn, vn, vi m, vn, vi w, vi s.1, vi s.2.1, vi s.2.2, vi (a + 1), vn] [] SHX R M 0 0) : ∀ (k : Nat) (b : Int) (s : Int × Int × Int), k = (m - a - b + 1).toNat → a ≤ b → b ≤ 50 → 0 ≤ s.1 → s.1 ≤ 50 * (a - 1) + b → s.1 ≤ 50 * a → outA f m K (a + 1) (inB f a k b s) = r → Go d 250 Q 80 [vr 364, vn, vn, vi m, vn, vi w, vi s.1, vi s.2.1, vi s.2.2, vi a, vi b] [] SHX R M 0 0
  | 0, b, s, hk, hab, hb5, v0, v1, v2, hr => by
    refine b_X12_adds_80 ?_
    rw [iadd_of (x := a) (y := b) (by omega) (by omega), if_pos (by omega), iadd_of (by omega) (by omega)]
    exact nx s v0 (by omega) hr
  | k + 1, b, s, hk, hab, hb5, v0, v1, v2, hr => by
    have e1 := hf a a0 a1
    have e2 := hf b (by omega) (by omega)
    have e3 := hf (a + b) (by omega) (by omega)
    have u1 := hb a a0 a1
    have u2 := hb b (by omega) (by omega)
    refine b_X12_adds_80 ?_
    rw [iadd_of (x := a) (y := b) (by omega) (by omega), if_neg (by omega)]
    simp only [ok364, fr56 hR, ak400, e1, e2, e3]
    rw [iadd_of (x := f a) (by omega) (by omega), iadd_of (x := b) (by omega) (by omega), iadd_of (x := s.1) (by omega) (by omega)]
    refine ⟨by omega, by omega, by omega, by omega, by omega, by omega, ?_⟩
    unfold inB at hr
    by_cases h1 : f (a + b) = f a + f b
    · rw [if_pos h1] at hr ⊢
      exact m_add80 hR hf hb a0 a1 m1 nx k (b + 1) s (by omega) (by omega) (by omega) v0 (by omega) v2 hr
    · rw [if_neg h1] at hr ⊢
      by_cases h2 : s.1 = 0
      · rw [if_pos h2] at hr ⊢
        have := m_add80 hR hf hb a0 a1 m1 nx k (b + 1) (1, a, b) (by omega) (by omega) (by omega) (by show (0 : Int) ≤ 1; decide) (by show (1 : Int) ≤ _; omega) (by show (1 : Int) ≤ _; omega) hr
        rw [h2]
        exact this
      · rw [if_neg h2] at hr ⊢
        exact m_add80 hR hf hb a0 a1 m1 nx k (b + 1) (s.1 + 1, s.2) (by omega) (by omega) (by omega) (by show 0 ≤ s.1 + 1; omega) (by show s.1 + 1 ≤ _; omega) (by show s.1 + 1 ≤ _; omega) hr
theorem m_add75 {f : Int → Int} {r : Int × Int × Int} (hR : RM R) (hf : ∀ k, 1 ≤ k → k ≤ m → M 400 k = f k) (hb : ∀ k, 1 ≤ k → k ≤ m → 0 ≤ f k ∧ f k ≤ 300000) (m1 : m ≤ 40) (hq : Q (pickW w r) SHX R M) : ∀ (K : Nat) (a : Int) (s : Int × Int × Int), a + (K : Int) = m + 1 → 1 ≤ a → 0 ≤ s.1 → s.1 ≤ 50 * (a - 1) → outA f m K a s = r → Go d 250 Q 75 [vr 364, vn, vn, vi m, vn, vi w, vi s.1, vi s.2.1, vi s.2.2, vi a, vn] [] SHX R M 0 0
  | 0, a, s, hk, ha, v0, v1, hr => by
    refine b_X12_adds_75 ?_
    have hr : s = r := hr
    subst hr
    rw [if_pos (by omega)]
    unfold pickW at hq
    split
    · rename_i g; rw [if_pos g] at hq; exact hq
    · rename_i g
      rw [if_neg g] at hq
      split
      · rename_i g2; rw [if_pos g2] at hq; exact hq
      · rename_i g2; rw [if_neg g2] at hq; exact hq
  | K + 1, a, s, hk, ha, v0, v1, hr => by
    refine b_X12_adds_75 ?_
    rw [if_neg (by omega)]
    unfold outA at hr
    exact m_add80 hR hf hb ha (by omega) m1 (K := K) (fun s' h2 h3 h4 => m_add75 hR hf hb m1 hq K (a + 1) s' (by omega) (by omega) h2 (by omega) h4) _ a s (by congr 1; omega) (by omega) (by omega) v0 (by omega) (by omega) hr
theorem m_add33 (hR : RM R) (hM : NM M b N) (hW : WN N) (hf : IF M) (hX : RT M X) (s0 : 0 ≤ s) (s1 : s < N 0 1) (y0 : 0 ≤ y) (y1 : y ≤ 200) (t0 : 0 ≤ t) (t1 : t < 10) (m0 : 0 ≤ m) (m1 : m ≤ 40) (hq : ∀ M', (∀ q j, KP q j → M' q j = M q j) → 0 ≤ M' 364 49 → Q (addR N s t m y w) SHX R M') : Go (d + 4) 250 Q 33 [vr 364, vi s, vi t, vi m, vi y, vi w, vi 0, vn, vn, vn, vn] [] SHX R X 0 0 := by
  have hS := wn_S hW
  have L2 : ∀ j, 0 ≤ j → j ≤ m + 1 → ∀ X, RT M X → (∀ i, 0 ≤ i → i < 3 → i ≠ s → X 396 i = 0) → (∀ k, 0 ≤ k → k < j → X 400 k = rk N (lrow s k) y t) → Go (d + 4) 250 Q 45 [vr 364, vi s, vi t, vi m, vi y, vi w, vi j, vn, vn, vn, vn] [] SHX R X 0 0 := by
    refine upto (fun X hX h1 h2 => ?_) fun j j0 j1 ih X hX h1 h2 => ?_
    · refine b_X12_adds_45 ?_
      rw [if_pos (by omega), ok364]
      refine m_bringRow (d := d + 3) hR fun X1 k1 k2 => ?_
      rw [ok364]
      refine m_bb (d := d + 3) hR fun X2 k3 k4 => ?_
      obtain ⟨g1, g2⟩ := RT_end hX k1 k2 k3 k4
      exact m_add75 (f := fun k => rk N (lrow s k) y t) hR (fun k k0 k2' => by rw [k4 _ _ (by omega), k2 _ _ (by omega)]; exact h2 k (by omega) (by omega)) (fun k k0 k1 => rk_b hW (lrow_RW (by omega) (by omega)) y1 t0 t1) m1 (hq X2 g1 g2) m.toNat 1 (0, -1, -1) (by omega) (by decide) (Int.le_refl 0) (by show (0 : Int) ≤ _; decide) rfl
    · refine b_X12_adds_45 ?_
      rw [if_neg (by omega)]
      simp only [ok364, fr46 hR, fr56 hR, ak396]
      have hX' : RT M (stm X 396 s j) := RT_stm hX (Or.inr rfl) (by decide) (by decide) (by omega)
      have er : ∀ i, 0 ≤ i → i < N 0 1 → stm X 396 s j 396 i = lrow s j i := fun i i0 i1 => by
        unfold lrow
        by_cases hi : i = s
        · rw [if_pos hi, hi, stm_hit]
        · rw [if_neg hi, stm_neq (by omega), h1 i i0 (by omega) hi]
      refine ⟨s0, by omega, f_rec (d := d) hR (RT_nm hM hX') hW (fun i i0 i1 => ?_) (RT_7 hf hX') hX'.2.2.2 y0 y1 t0 t1 fun M2 f2 h9 => ?_⟩
      · rw [er i i0 i1]
        exact lrow_RW (N := N) (by omega) (by omega) i i0 i1
      · rw [rk_row hW er, ak400, iadd_of (x := j) (by omega) (by omega)]
        have hX2 := RT_rec hX' f2 h9
        refine ⟨by omega, by omega, ih _ (RT_stm hX2 (Or.inl fun z => absurd (KP_out2 z) (by omega)) (by decide) (by decide) (by omega)) (fun i i0 i1 hi => ?_) fun k k0 k1 => ?_⟩
        · rw [stm_neq (by omega), f2 _ _ (by decide) (by decide) (by omega), stm_neq (by omega), h1 i i0 i1 hi]
        · by_cases hk : k = j
          · rw [hk, stm_hit]
          · rw [stm_neq (by omega), f2 _ _ (by decide) (by decide) (by omega), stm_neq (by omega), h2 k k0 (by omega)]
  have L1 : ∀ j, 0 ≤ j → j ≤ 3 → ∀ X, RT M X → (∀ i, 0 ≤ i → i < j → X 396 i = 0) → Go (d + 4) 250 Q 33 [vr 364, vi s, vi t, vi m, vi y, vi w, vi j, vn, vn, vn, vn] [] SHX R X 0 0 := by
    refine upto (fun X hX h1 => ?_) fun j j0 j1 ih X hX h1 => ?_
    · refine b_X12_adds_33 ?_
      rw [if_neg (by decide)]
      exact L2 0 (by decide) (by omega) X hX (fun i i0 i1 _ => h1 i i0 i1) (fun k k0 k1 => by omega)
    · refine b_X12_adds_33 ?_
      rw [if_pos j1]
      simp (disch := omega) only [ok364, fr46 hR, ak396, iadd_of]
      refine ⟨j0, j1, ih _ (RT_stm hX (Or.inr rfl) (by decide) (by decide) (by omega)) fun i i0 i1 => ?_⟩
      by_cases hi : i = j
      · rw [hi, stm_hit]
      · rw [stm_neq (by omega), h1 i i0 (by omega)]
  exact L1 0 (by decide) (by decide) X hX (fun i i0 i1 => by omega)
theorem p_adds (h : INV c R M b N) : PR (d + 5) 127 250 [vi s, vi t, vi m, vi y, vi w] R M (Inv (c + 1)) := by
  obtain ⟨hn, hN, hC, hW, hM, hc, hR, b0, b1⟩ := in_net h
  have hf := in_f h
  have hT := wn_T hW
  have no : ¬ ((0 ≤ s ∧ s < N 0 1) ∧ (0 ≤ t ∧ t < N 0 0 ∧ N 1 t = 4) ∧ (0 ≤ m ∧ m ≤ 40) ∧ (1 ≤ y ∧ y ≤ 100) ∧ (0 ≤ w ∧ w ≤ 2)) → Mw (d + 5) 250 [vr 364, vi s, vi t, vi m, vi y, vi w] SHX R M 0 0 (fun w sh2 R2 M2 => sh2 = SHX ∧ -1 = w ∧ Inv (c + 1) R2 M2) := fun hx => by
    refine Mw_of mok250 rfl fun _ _ => b_X12_adds_0 ?_
    rw [ok364]
    refine w_startMany (d := d + 4) hR (nm_b hM) b0 b1 ?_
    have hS := wn_S hW
    rw [nm_S hM, isub_of (by omega) (by omega)]
    refine m_isIn (fun k0 k1 _ => ?_) fun g _ => ?_
    · rw [if_neg (by decide), ok364]
      refine m_isDusk (d := d + 2) hR hM hW (fun q0 q1 q2 _ => ?_) fun g _ => ?_
      · rw [if_neg (by decide)]
        refine m_isIn (fun u0 u1 _ => ?_) fun g _ => ?_
        · rw [if_neg (by decide)]
          refine m_isBeats (d := d + 3) (fun v0 v1 _ => ?_) fun g _ => ?_
          · rw [if_neg (by decide)]
            refine m_isIn (fun w0 w1 _ => absurd ⟨⟨k0, by omega⟩, ⟨q0, q1, q2⟩, ⟨u0, u1⟩, ⟨v0, v1⟩, w0, w1⟩ hx) fun g _ => ?_
            rw [if_pos rfl]
            exact ⟨rfl, rfl, same h⟩
          · rw [if_pos rfl]
            exact ⟨rfl, rfl, same h⟩
        · rw [if_pos rfl]
          exact ⟨rfl, rfl, same h⟩
      · rw [if_pos rfl]
        exact ⟨rfl, rfl, same h⟩
    · rw [if_pos rfl]
      exact ⟨rfl, rfl, same h⟩
  refine Mw_of mok127 rfl fun _ _ => b_X11_adds_0 ?_
  rw [ok0]
  refine c_isStart (d := d + 3) hn hN hC hW (fun s0 s1 _ => ?_) fun s0 _ => ?_
  · rw [if_neg (by decide), ok0]
    refine c_isTried (d := d + 1) hn hN hC hW (fun k0 k1 k2 y0 y1 _ => ?_) fun k0 _ => ?_
    · rw [if_neg (by decide)]
      refine c_isWithin (fun m0 m1 _ => ?_) fun m0 _ => ?_
      · rw [if_neg (by decide)]
        refine c_isWithin (fun w0 w1 _ => ?_) fun w0 _ => ?_
        · rw [if_neg (by decide), ok0, ok0, rc0_6 hc, hn, ok261]
          refine c_unadded (d := d) hc hN hC hW (by omega) s0 s1 (by omega) (by omega) k0 (by omega) m0 m1 w0 w1 fun M1 f1 => ?_
          have e1 : ∀ q j, KP q j → M1 q j = M q j := fun q j hk => by
            have := KP_out hk
            rw [f1 q (by omega) (by omega) (by omega)]
          have hM1 : NM M1 b N := NM_of hM (e1 _ _ (by unfold KP; omega)) (fun q q0 q1 => f1 q (by omega) (by omega) (by omega)) (f1 _ (by decide) (by decide) (by decide))
          refine ⟨rfl, Mw_of mok250 rfl fun _ _ => b_X12_adds_0 ?_⟩
          have hS := wn_S hW
          rw [ok364]
          refine w_startMany (d := d + 4) hR (nm_b hM1) b0 b1 ?_
          rw [nm_S hM1, isub_of (by omega) (by omega)]
          refine m_isIn (fun _ _ _ => ?_) fun g _ => absurd ⟨s0, by omega⟩ g
          rw [if_neg (by decide), ok364]
          refine m_isDusk (d := d + 2) hR hM1 hW (fun _ _ _ _ => ?_) fun g _ => absurd ⟨k0, k1, k2⟩ g
          rw [if_neg (by decide)]
          refine m_isIn (fun _ _ _ => ?_) fun g _ => absurd ⟨m0, m1⟩ g
          rw [if_neg (by decide)]
          refine m_isBeats (d := d + 3) (fun _ _ _ => ?_) fun g _ => absurd ⟨y0, y1⟩ g
          rw [if_neg (by decide)]
          refine m_isIn (fun _ _ _ => ?_) fun g _ => absurd ⟨w0, w1⟩ g
          rw [if_neg (by decide), ok364]
          refine m_putAside (d := d + 4) hR ?_
          rw [ok364]
          refine m_keepRow (d := d + 4) hR fun X x1 x2 => ?_
          have h9 : 0 ≤ M1 364 49 := by rw [f1 364 (by decide) (by decide) (by decide)]; exact if_s hf
          refine m_add33 (d := d + 1) hR hM hW hf (RT_new e1 h9 x1 x2) s0 s1 (by omega) (by omega) k0 (by omega) m0 m1 fun M' g1 g2 => ?_
          exact ⟨rfl, rfl, b, N, INV_keep h (Nat.le_succ c) g1 g2⟩
        · rw [if_pos rfl]
          exact ⟨rfl, no fun q => w0 q.2.2.2.2⟩
      · rw [if_pos rfl]
        exact ⟨rfl, no fun q => m0 q.2.2.1⟩
    · rw [if_pos rfl]
      exact ⟨rfl, no fun q => k0 ⟨q.2.1, q.2.2.2.1⟩⟩
  · rw [if_pos rfl]
    exact ⟨rfl, no fun q => s0 q.1⟩
end
