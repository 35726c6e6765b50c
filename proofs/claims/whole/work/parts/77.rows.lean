/-! ROWS BY NUMBER -/
def rowsF (m : Int) : Nat → Int
  | 0 => 1
  | k + 1 => rowsF m k * (m + 1)
def layF (m : Int) : Nat → Int → (Int → Int) → (Int → Int)
  | 0, _, f => f
  | k + 1, v, f => layF m k (v / (m + 1)) (upf f (k : Int) (v % (m + 1)))
/-- the row of a number -/
def lay (N : NTW) (m v : Int) : Int → Int := layF m (N 0 1).toNat v (fun _ => 0)
/-- how many there are -/
def rwsN (N : NTW) (m : Int) : Int := rowsF m (N 0 1).toNat
theorem rowsF_b {m : Int} (h0 : 0 ≤ m) (h1 : m ≤ 99) : ∀ k : Nat, k ≤ 3 → 1 ≤ rowsF m k ∧ rowsF m k ≤ 1000000 ∧ (k ≤ 2 → rowsF m k ≤ 10000) := by
  intro k hk
  have e1 : rowsF m 1 = m + 1 := by show 1 * (m + 1) = _; omega
  have b2 : 1 ≤ rowsF m 2 ∧ rowsF m 2 ≤ 10000 := by
    show 1 ≤ rowsF m 1 * (m + 1) ∧ rowsF m 1 * (m + 1) ≤ 10000
    rw [e1]
    have u1 : (1 : Int) * 1 ≤ (m + 1) * (m + 1) := Int.mul_le_mul (by omega) (by omega) (by decide) (by omega)
    have u2 : (m + 1) * (m + 1) ≤ 100 * 100 := Int.mul_le_mul (by omega) (by omega) (by omega) (by decide)
    omega
  have b3 : 1 ≤ rowsF m 3 ∧ rowsF m 3 ≤ 1000000 := by
    show 1 ≤ rowsF m 2 * (m + 1) ∧ rowsF m 2 * (m + 1) ≤ 1000000
    have u1 : (1 : Int) * 1 ≤ rowsF m 2 * (m + 1) := Int.mul_le_mul (by omega) (by omega) (by decide) (by omega)
    have u2 : rowsF m 2 * (m + 1) ≤ 10000 * 100 := Int.mul_le_mul (by omega) (by omega) (by omega) (by decide)
    omega
  have b0 : rowsF m 0 = 1 := rfl
  have : k = 0 ∨ k = 1 ∨ k = 2 ∨ k = 3 := by omega
  rcases this with rfl | rfl | rfl | rfl <;> omega
theorem layF_out {m : Int} : ∀ (k : Nat) (v : Int) (f : Int → Int) (i : Int), (i < 0 ∨ (k : Int) ≤ i) → layF m k v f i = f i
  | 0, _, _, _, _ => rfl
  | k + 1, v, f, i, h => by
    unfold layF
    rw [layF_out k _ _ i (by omega), upf_ne (by omega)]
theorem layF_congr {m : Int} : ∀ (k : Nat) (v : Int) (f g : Int → Int) (i : Int), 0 ≤ i → i < (k : Int) → layF m k v f i = layF m k v g i
  | 0, _, _, _, _, h0, h1 => by omega
  | k + 1, v, f, g, i, h0, h1 => by
    unfold layF
    by_cases hi : i < (k : Int)
    · exact layF_congr k _ _ _ i h0 hi
    · rw [layF_out k _ _ i (by omega), layF_out k _ _ i (by omega), show i = (k : Int) by omega, upf_hit, upf_hit]
theorem layF_b {m : Int} (hm : 0 ≤ m) : ∀ (k : Nat) (v : Int) (f : Int → Int) (i : Int), 0 ≤ i → i < (k : Int) → 0 ≤ layF m k v f i ∧ layF m k v f i ≤ m
  | 0, _, _, _, h0, h1 => by omega
  | k + 1, v, f, i, h0, h1 => by
    unfold layF
    by_cases hi : i < (k : Int)
    · exact layF_b hm k _ _ i h0 hi
    · rw [layF_out k _ _ i (by omega), show i = (k : Int) by omega, upf_hit]
      have := Int.emod_nonneg v (show m + 1 ≠ 0 by omega)
      have := Int.emod_lt_of_pos v (show 0 < m + 1 by omega)
      omega
theorem lay_RW {N : NTW} {m v : Int} (h0 : 0 ≤ m) (h1 : m ≤ 999) : RW N (lay N m v) := fun i i0 i1 => by
  have := layF_b h0 (N 0 1).toNat v (fun _ => 0) i i0 (by omega)
  unfold lay
  omega
theorem rwsN_b {N : NTW} {m : Int} (hS : N 0 1 ≤ 3) (h0 : 0 ≤ m) (h1 : m ≤ 99) : 1 ≤ rwsN N m ∧ rwsN N m ≤ 1000000 := by
  have := rowsF_b h0 h1 (N 0 1).toNat (by omega)
  exact ⟨this.1, this.2.1⟩
theorem stm_upf {M : MEM} {a i x : Int} : stm M a i x a = upf (M a) i x := by
  funext j
  unfold stm upf
  by_cases h : j = i
  · rw [if_pos ⟨rfl, h⟩, if_pos h]
  · rw [if_neg (fun z => h z.2), if_neg h]
section
variable {d : Nat} {R M : MEM} {b n m v : Int} {N : NTW} {Q : RES}
theorem imul_rows {k : Nat} (h0 : 0 ≤ m) (h1 : m ≤ 99) (hk : k ≤ 2) : imul (rowsF m k) (m + 1) = rowsF m (k + 1) := by
  have u := rowsF_b h0 h1 k (by omega)
  have w := rowsF_b h0 h1 (k + 1) (by omega)
  have e : rowsF m (k + 1) = rowsF m k * (m + 1) := rfl
  rw [imul_of (by omega) (by omega), e]
theorem c_rows (hN : NR R n) (hC : NC M n N) (hW : WN N) (m0 : 0 ≤ m) (m1 : m ≤ 99) (hq : Q (rwsN N m) SHX R M) : Mw d 29 [vr n, vi m] SHX R M 0 0 Q := by
  have hS := wn_S hW
  refine Mw_of mok29 rfl fun _ _ => b_X4_rows_0 ?_
  have key : ∀ k : Nat, k ≤ (N 0 1).toNat → Go d 29 Q 4 [vr n, vi m, vi (rowsF m k), vi (k : Int)] [] SHX R M 0 0 := by
    refine uptoN ?_ fun k hk ih => ?_
    · refine b_X4_rows_4 ?_
      rw [okN hN, nc_S hC, if_neg (by omega)]
      exact hq
    · refine b_X4_rows_4 ?_
      rw [okN hN, nc_S hC, if_pos (by omega), iadd_of (x := m) (by omega) (by omega), imul_rows m0 m1 (by omega), iadd_of (by omega) (by omega)]
      exact ih
  exact key 0 (by omega)
theorem m_rowsOf (hR : RM R) (hM : NM M b N) (hW : WN N) (m0 : 0 ≤ m) (m1 : m ≤ 99) (hq : Q (rwsN N m) SHX R M) : Mw (d + 1) 234 [vr 364, vi m] SHX R M 0 0 Q := by
  have hS := wn_S hW
  refine Mw_of mok234 rfl fun _ _ => b_X12_rowsOf_0 ?_
  have key : ∀ k : Nat, k ≤ (N 0 1).toNat → Go (d + 1) 234 Q 4 [vr 364, vi m, vi (rowsF m k), vi (k : Int)] [] SHX R M 0 0 := by
    refine uptoN ?_ fun k hk ih => ?_
    · refine b_X12_rowsOf_4 ?_
      rw [ok364]
      refine w_startMany (d := d) hR (nm_b hM) (nm_b0 hM) (nm_b1 hM) ?_
      rw [nm_S hM, if_neg (by omega)]
      exact hq
    · refine b_X12_rowsOf_4 ?_
      rw [ok364]
      refine w_startMany (d := d) hR (nm_b hM) (nm_b0 hM) (nm_b1 hM) ?_
      rw [nm_S hM, if_pos (by omega), iadd_of (x := m) (by omega) (by omega), imul_rows m0 m1 (by omega), iadd_of (by omega) (by omega)]
      exact ih
  exact key 0 (by omega)
theorem div_b (m0 : 0 ≤ m) (v0 : 0 ≤ v) : 0 ≤ v / (m + 1) ∧ v / (m + 1) ≤ v := ⟨Int.ediv_nonneg v0 (by omega), Int.ediv_le_self _ v0⟩
theorem c_setRow {ρ : Int} (hN : NR R n) (hC : NC M n N) (hW : WN N) (hρ : shk SHX ρ = (100, 3)) (m0 : 0 ≤ m) (m1 : m ≤ 999) (v0 : 0 ≤ v) (v1 : v ≤ 2000000) (hq : ∀ M', (∀ s, 0 ≤ s → s < N 0 1 → M' ρ s = lay N m v s) → (∀ q, q ≠ ρ → M' q = M q) → Q 0 SHX R M') : Mw d 30 [vr n, vr ρ, vi m, vi v] SHX R M 0 0 Q := by
  have hS := wn_S hW
  refine Mw_of mok30 rfl fun _ _ => b_X4_setRow_0 ?_
  rw [okN hN, nc_S hC, iadd_of (by omega) (by omega), isub_of (by omega) (by omega), show imax 1 (m + 1) = m + 1 by unfold imax; split <;> omega]
  have key : ∀ (k : Nat) (u : Int) (M' : MEM), (k : Int) ≤ N 0 1 → 0 ≤ u → u ≤ 2000000 → (∀ q, q ≠ ρ → M' q = M q) → (∀ s, 0 ≤ s → s < N 0 1 → layF m k u (M' ρ) s = lay N m v s) → Go d 30 Q 13 [vn, vr ρ, vn, vn, vi (m + 1), vi u, vi ((k : Int) - 1)] [] SHX R M' 0 0 := by
    intro k
    induction k with
    | zero =>
      intro u M' _ _ _ h1 h2
      refine b_X4_setRow_13 ?_
      rw [if_pos (by omega)]
      exact hq M' h2 h1
    | succ k ih =>
      intro u M' hk u0 u1 h1 h2
      have := div_b m0 u0
      refine b_X4_setRow_13 ?_
      rw [if_neg (by omega), ak_mk hρ, idiv_of u0 (by omega) (by omega) (by omega), irem_of u0 (by omega) (by omega) (by omega), iadd_of (by omega) (by omega), show ((k + 1 : Nat) : Int) - 1 + -1 = (k : Int) - 1 by omega, show ((k + 1 : Nat) : Int) - 1 = (k : Int) by omega]
      refine ⟨by omega, by omega, by omega, by omega, ih _ _ (by omega) (by omega) (by omega) (fun q hq => by rw [stm_ne hq, h1 q hq]) fun s s0 s1 => ?_⟩
      rw [stm_upf]
      exact h2 s s0 s1
  have := key (N 0 1).toNat v M (by omega) v0 v1 (fun _ _ => rfl) fun s s0 s1 => layF_congr _ _ _ _ s s0 (by omega)
  rw [show (((N 0 1).toNat : Nat) : Int) = N 0 1 by omega] at this
  exact this
theorem m_layRow (hR : RM R) (hM : NM M b N) (hW : WN N) (m0 : 0 ≤ m) (m1 : m ≤ 999) (v0 : 0 ≤ v) (v1 : v ≤ 2000000) (hq : ∀ M', (∀ s, 0 ≤ s → s < N 0 1 → M' 396 s = lay N m v s) → (∀ q, q ≠ 396 → M' q = M q) → Q 0 SHX R M') : Mw (d + 1) 235 [vr 364, vi v, vi m] SHX R M 0 0 Q := by
  have hS := wn_S hW
  refine Mw_of mok235 rfl fun _ _ => b_X12_layRow_0 ?_
  rw [ok364]
  refine w_startMany (d := d) hR (nm_b hM) (nm_b0 hM) (nm_b1 hM) ?_
  rw [nm_S hM, isub_of (by omega) (by omega)]
  have key : ∀ (k : Nat) (u : Int) (M' : MEM), (k : Int) ≤ N 0 1 → 0 ≤ u → u ≤ 2000000 → (∀ q, q ≠ 396 → M' q = M q) → (∀ s, 0 ≤ s → s < N 0 1 → layF m k u (M' 396) s = lay N m v s) → Go (d + 1) 235 Q 7 [vr 364, vn, vi m, vi u, vi ((k : Int) - 1)] [] SHX R M' 0 0 := by
    intro k
    induction k with
    | zero =>
      intro u M' _ _ _ h1 h2
      refine b_X12_layRow_7 ?_
      rw [if_pos (by omega)]
      exact hq M' h2 h1
    | succ k ih =>
      intro u M' hk u0 u1 h1 h2
      have := div_b m0 u0
      refine b_X12_layRow_7 ?_
      rw [if_neg (by omega), ok364, fr46 hR, ak396, iadd_of (x := m) (by omega) (by omega), idiv_of u0 (by omega) (by omega) (by omega), irem_of u0 (by omega) (by omega) (by omega), iadd_of (by omega) (by omega), show ((k + 1 : Nat) : Int) - 1 + -1 = (k : Int) - 1 by omega, show ((k + 1 : Nat) : Int) - 1 = (k : Int) by omega]
      refine ⟨by omega, by omega, by omega, by omega, ih _ _ (by omega) (by omega) (by omega) (fun q hq => by rw [stm_ne hq, h1 q hq]) fun s s0 s1 => ?_⟩
      rw [stm_upf]
      exact h2 s s0 s1
  have := key (N 0 1).toNat v M (by omega) v0 v1 (fun _ _ => rfl) fun s s0 s1 => layF_congr _ _ _ _ s s0 (by omega)
  rw [show (((N 0 1).toNat : Nat) : Int) = N 0 1 by omega] at this
  exact this
end
