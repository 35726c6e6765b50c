/-! ADDS -/
def inB (f : Int → Int) (a : Int) : Nat → Int → Int × Int × Int → Int × Int × Int
  | 0, _, s => s
  | k + 1, b, s => inB f a k (b + 1) (if f (a + b) = f a + f b then s else if s.1 = 0 then (1, a, b) else (s.1 + 1, s.2))
def outA (f : Int → Int) (m : Int) : Nat → Int → Int × Int × Int → Int × Int × Int
  | 0, _, s => s
  | k + 1, a, s => outA f m k (a + 1) (inB f a (m - 2 * a + 1).toNat a s)
def pickW (w : Int) (r : Int × Int × Int) : Int := if w = 0 then r.1 else if w = 1 then r.2.1 else r.2.2
theorem inB_keep {f : Int → Int} {a : Int} : ∀ (k : Nat) (b : Int) (s : Int × Int × Int), 1 ≤ s.1 → (inB f a k b s).2 = s.2 ∧ 1 ≤ (inB f a k b s).1
  | 0, _, s, h => ⟨rfl, h⟩
  | k + 1, b, s, h => by
    unfold inB
    by_cases h1 : f (a + b) = f a + f b
    · rw [if_pos h1]; exact inB_keep k _ s h
    · rw [if_neg h1, if_neg (by omega)]
      exact inB_keep k _ (s.1 + 1, s.2) (by show 1 ≤ s.1 + 1; omega)
theorem outA_keep {f : Int → Int} {m : Int} : ∀ (k : Nat) (a : Int) (s : Int × Int × Int), 1 ≤ s.1 → (outA f m k a s).2 = s.2
  | 0, _, _, _ => rfl
  | k + 1, a, s, h => by
    unfold outA
    have := inB_keep (f := f) (a := a) (m - 2 * a + 1).toNat a s h
    rw [outA_keep k _ _ this.2, this.1]
def lrow (s k : Int) : Int → Int := fun i => if i = s then k else 0
section
variable {d c : Nat} {R M X : MEM} {b n v x y z t s m w : Int} {N : NTW} {Q : RES}
def rel (w v : Int) (s : Int × Int × Int) : Prop := (w = 0 → v = s.1) ∧ (0 < w → s = (0, -1, -1))
theorem c_add50 {f : Int → Int} {r : Int × Int × Int} {K : Nat} {a : Int} (hC : RC R) (hf : ∀ k, 1 ≤ k → k ≤ m → M 273 k = f k) (hb : ∀ k, 1 ≤ k → k ≤ m → 0 ≤ f k ∧ f k ≤ 300000) (a0 : 1 ≤ a) (a1 : a ≤ m) (m1 : m ≤ 40) (w0 : 0 ≤ w) (w1 : w ≤ 2) (nx : ∀ v s, rel w v s → 0 ≤ v → v ≤ 50 * a → outA f m K (a + 1) s = r → Go d 103 Q 42 [vr 261, vn, vn, vn, vi m, vn, vi w, vi v, vi (a + 1), vn] [] SHX R M 0 0) (hq : Q (pickW w r) SHX R M) : ∀ (k : Nat) (b v : Int) (s : Int × Int × Int), k = (m - a - b + 1).toNat → a ≤ b → rel w v s → 0 ≤ v → v ≤ 50 * (a - 1) + b → v ≤ 50 * a → outA f m K (a + 1) (inB f a k b s) = r → Go d 103 Q 50 [vr 261, vn, vn, vn, vi m, vn, vi w, vi v, vi a, vi b] [] SHX R M 0 0
  | 0, b, v, s, hk, hab, hrel, v0, v1, v2, hr => by
    refine b_X10_unadded_50 ?_
    rw [isub_of (by omega) (by omega), if_pos (by omega), iadd_of (by omega) (by omega)]
    exact nx v s hrel v0 (by omega) hr
  | k + 1, b, v, s, hk, hab, hrel, v0, v1, v2, hr => by
    have e1 := hf a a0 a1
    have e2 := hf b (by omega) (by omega)
    have e3 := hf (a + b) (by omega) (by omega)
    have u1 := hb a a0 a1
    have u2 := hb b (by omega) (by omega)
    refine b_X10_unadded_50 ?_
    rw [isub_of (by omega) (by omega), if_neg (by omega)]
    rw [iadd_of (x := a) (y := b) (by omega) (by omega)]
    simp only [ok261, rc261_3 hC, ak273, e1, e2, e3]
    rw [iadd_of (x := f a) (by omega) (by omega), iadd_of (x := b) (by omega) (by omega), iadd_of (x := v) (by omega) (by omega)]
    refine ⟨by omega, by omega, by omega, by omega, by omega, by omega, ?_⟩
    unfold inB at hr
    by_cases h1 : f (a + b) = f a + f b
    · rw [if_pos h1] at hr ⊢
      exact c_add50 hC hf hb a0 a1 m1 w0 w1 nx hq k (b + 1) v s (by omega) (by omega) hrel v0 (by omega) v2 hr
    · rw [if_neg h1] at hr ⊢
      by_cases hw : 0 < w
      · rw [if_pos hw]
        have hs := hrel.2 hw
        subst hs
        rw [if_pos rfl] at hr
        have k1 := inB_keep (f := f) (a := a) k (b + 1) (1, a, b) (Int.le_refl 1)
        have k2 := outA_keep (f := f) (m := m) K (a + 1) _ k1.2
        rw [hr, k1.1] at k2
        have ep : pickW w r = if w = 1 then a else b := by
          unfold pickW
          rw [if_neg (by omega), k2]
        rw [ep] at hq
        by_cases hw1 : w = 1
        · rw [if_pos hw1] at hq ⊢; exact hq
        · rw [if_neg hw1] at hq ⊢; exact hq
      · rw [if_neg hw]
        have hv := hrel.1 (by omega)
        refine c_add50 hC hf hb a0 a1 m1 w0 w1 nx hq k (b + 1) (v + 1) _ (by omega) (by omega) ⟨fun _ => ?_, fun z => absurd z hw⟩ (by omega) (by omega) (by omega) hr
        split
        · rename_i hz
          show v + 1 = 1
          omega
        · show v + 1 = s.1 + 1
          omega
theorem c_add42 {f : Int → Int} {r : Int × Int × Int} (hC : RC R) (hf : ∀ k, 1 ≤ k → k ≤ m → M 273 k = f k) (hb : ∀ k, 1 ≤ k → k ≤ m → 0 ≤ f k ∧ f k ≤ 300000) (m1 : m ≤ 40) (w0 : 0 ≤ w) (w1 : w ≤ 2) (hq : Q (pickW w r) SHX R M) : ∀ (K : Nat) (a v : Int) (s : Int × Int × Int), a + (K : Int) = m + 1 → 1 ≤ a → rel w v s → 0 ≤ v → v ≤ 50 * (a - 1) → outA f m K a s = r → Go d 103 Q 42 [vr 261, vn, vn, vn, vi m, vn, vi w, vi v, vi a, vn] [] SHX R M 0 0
  | 0, a, v, s, hk, ha, hrel, v0, v1, hr => by
    refine b_X10_unadded_42 ?_
    have hr : s = r := hr
    subst hr
    rw [if_pos (by omega)]
    by_cases hw : 0 < w
    · have hs := hrel.2 hw
      have ep : pickW w s = -1 := by
        rw [hs]
        unfold pickW
        rw [if_neg (by omega)]
        split <;> rfl
      rw [ep] at hq
      rw [if_pos hw]
      exact hq
    · have hv := hrel.1 (by omega)
      have ep : pickW w s = v := by
        unfold pickW
        rw [if_pos (by omega)]
        exact hv.symm
      rw [ep] at hq
      rw [if_neg hw]
      exact hq
  | K + 1, a, v, s, hk, ha, hrel, v0, v1, hr => by
    refine b_X10_unadded_42 ?_
    rw [if_neg (by omega), if_neg (by omega)]
    unfold outA at hr
    exact c_add50 hC hf hb ha (by omega) m1 w0 w1 (K := K) (fun v' s' h1 h2 h3 h4 => c_add42 hC hf hb m1 w0 w1 hq K (a + 1) v' s' (by omega) (by omega) h1 h2 (by omega) h4) hq _ a v s (by congr 1; omega) (by omega) hrel v0 (by omega) (by omega) hr
def addR (N : NTW) (s t m y w : Int) : Int := pickW w (outA (fun k => rk N (lrow s k) y t) m m.toNat 1 (0, -1, -1))
theorem lrow_RW {k : Int} (k0 : 0 ≤ k) (k1 : k ≤ 999) : RW N (lrow s k) := fun i i0 i1 => by
  unfold lrow
  split <;> omega
theorem c_unadded (hC0 : RC R) (hN : NR R n) (hC : NC M n N) (hW : WN N) (hsep : n + 12 < 262) (s0 : 0 ≤ s) (s1 : s < N 0 1) (y0 : 0 ≤ y) (y1 : y ≤ 200) (t0 : 0 ≤ t) (t1 : t < 10) (m0 : 0 ≤ m) (m1 : m ≤ 40) (w0 : 0 ≤ w) (w1 : w ≤ 2) (hq : ∀ M', (∀ q, (q < 262 ∨ 267 ≤ q) → q ≠ 272 → q ≠ 273 → M' q = M q) → Q (addR N s t m y w) SHX R M') : Mw (d + 4) 103 [vr 261, vr n, vi s, vi t, vi m, vi y, vi w] SHX R M 0 0 Q := by
  have hS := wn_S hW
  refine Mw_of mok103 rfl fun _ _ => b_X10_unadded_0 ?_
  have L2 : ∀ j, 1 ≤ j → j ≤ m + 1 → ∀ M', (∀ i, 0 ≤ i → i < 3 → i ≠ s → M' 272 i = 0) → (∀ k, 1 ≤ k → k < j → M' 273 k = rk N (lrow s k) y t) → (∀ q, (q < 262 ∨ 267 ≤ q) → q ≠ 272 → q ≠ 273 → M' q = M q) → Go (d + 4) 103 Q 14 [vr 261, vr n, vi s, vi t, vi m, vi y, vi w, vi j, vn, vn] [] SHX R M' 0 0 := by
    have key : ∀ j, 0 ≤ j → j ≤ m → ∀ M', (∀ i, 0 ≤ i → i < 3 → i ≠ s → M' 272 i = 0) → (∀ k, 1 ≤ k → k < j + 1 → M' 273 k = rk N (lrow s k) y t) → (∀ q, (q < 262 ∨ 267 ≤ q) → q ≠ 272 → q ≠ 273 → M' q = M q) → Go (d + 4) 103 Q 14 [vr 261, vr n, vi s, vi t, vi m, vi y, vi w, vi (j + 1), vn, vn] [] SHX R M' 0 0 := by
      refine upto (fun M' h1 h2 h3 => ?_) fun j j0 j1 ih M' h1 h2 h3 => ?_
      · refine b_X10_unadded_14 ?_
        rw [if_pos (by omega)]
        exact c_add42 (f := fun k => rk N (lrow s k) y t) hC0 (fun k k0 k1 => h2 k k0 (by omega)) (fun k k0 k1 => rk_b hW (lrow_RW (by omega) (by omega)) y1 t0 t1) m1 w0 w1 (hq M' h3) m.toNat 1 0 (0, -1, -1) (by omega) (by decide) ⟨fun _ => rfl, fun _ => rfl⟩ (by decide) (by decide) rfl
      · refine b_X10_unadded_14 ?_
        rw [if_neg (by omega), if_neg (by omega)]
        simp only [ok261, rc261_2 hC0, rc261_3 hC0, ak272]
        have hC' : NC (stm M' 272 s (j + 1)) n N := NC_of hC fun q q0 q1 => by rw [stm_ne (by omega), h3 q (by omega) (by omega) (by omega)]
        have er : ∀ i, 0 ≤ i → i < N 0 1 → stm M' 272 s (j + 1) 272 i = lrow s (j + 1) i := fun i i0 i1 => by
          unfold lrow
          by_cases hi : i = s
          · rw [if_pos hi, hi, stm_hit]
          · rw [if_neg hi, stm_neq (by omega), h1 i i0 (by omega) hi]
        refine ⟨s0, by omega, c_rec (d := d) hC0 hN hC' hW hsep fs272 (by omega) (fun i i0 i1 => ?_) y0 y1 t0 t1 fun M2 f2 => ?_⟩
        · rw [er i i0 i1]
          exact lrow_RW (N := N) (by omega) (by omega) i i0 i1
        · rw [rk_row hW er, ak273, iadd_of (x := j + 1) (by omega) (by omega)]
          refine ⟨by omega, by omega, ih _ (fun i i0 i1 hi => ?_) (fun k k0 k1 => ?_) fun q q0 q1 q2 => ?_⟩
          · rw [stm_neq (by omega), f2 _ (by omega), stm_neq (by omega), h1 i i0 i1 hi]
          · by_cases hk : k = j + 1
            · rw [hk, stm_hit]
            · rw [stm_neq (by omega), f2 _ (by omega), stm_neq (by omega), h2 k k0 (by omega)]
          · rw [stm_ne (by omega), f2 _ q0, stm_ne (by omega), h3 q q0 q1 q2]
    intro j j0 j1 M' h1 h2 h3
    have := key (j - 1) (by omega) (by omega) M' h1 (fun k k0 k1 => h2 k k0 (by omega)) h3
    rw [show j - 1 + 1 = j by omega] at this
    exact this
  have L1 : ∀ j, 0 ≤ j → j ≤ 3 → ∀ M', (∀ i, 0 ≤ i → i < j → M' 272 i = 0) → (∀ q, q ≠ 272 → M' q = M q) → Go (d + 4) 103 Q 2 [vr 261, vr n, vi s, vi t, vi m, vi y, vi w, vi j, vn, vn] [] SHX R M' 0 0 := by
    refine upto (fun M' h1 h3 => ?_) fun j j0 j1 ih M' h1 h3 => ?_
    · refine b_X10_unadded_2 ?_
      rw [if_neg (by decide)]
      exact L2 1 (by decide) (by omega) M' (fun i i0 i1 _ => h1 i i0 i1) (fun k k0 k1 => by omega) (fun q _ q1 _ => h3 q q1)
    · refine b_X10_unadded_2 ?_
      rw [if_pos j1]
      simp (disch := omega) only [ok261, rc261_2 hC0, ak272, iadd_of]
      refine ⟨j0, j1, ih _ (fun i i0 i1 => ?_) fun q q1 => ?_⟩
      · by_cases hi : i = j
        · rw [hi, stm_hit]
        · rw [stm_neq (by omega), h1 i i0 (by omega)]
      · rw [stm_ne q1, h3 q q1]
  exact L1 0 (by decide) (by decide) M (fun i i0 i1 => by omega) (fun _ _ => rfl)
end
