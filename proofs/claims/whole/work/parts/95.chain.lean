/-! CHAIN -/
def ckd (k v : Int) : Int := if k = 0 then v / 2 else if k = 1 then v + 1 else if k = 2 then (if 0 < v then v - 1 else 0) else 2 * v
def ckR (g : Nat → Int) : Nat → Int → Int
  | 0, x => x
  | k + 1, x => ckd (g k) (ckR g k x)
def ckM : Nat → Int → Int
  | 0, x => x
  | k + 1, x => imax (ckM k x + 1) (2 * ckM k x)
def ckL : Nat → Int → Int
  | 0, x => x
  | k + 1, x => ckL k x / 2
def ckD (n v k : Nat) : Int := ((v / 4 ^ (n - 1 - k) % 4 : Nat) : Int)
def ckE (g : Nat → Int) (dep L v : Nat) : Nat → Int := fun k => if k < dep then g k else ckD L v (k - dep)
def OKx (np : Int) (O W : Int → Int) (g : Nat → Int) (dep L v : Nat) : Prop := ∀ i, 0 ≤ i → i < np → ckR (ckE g dep L v) (dep + L) (O i) = W i
def FRx (dep : Nat) (X X' : MEM) : Prop := (∀ q, q ≤ 345 + (dep : Int) ∨ 354 < q → X' q = X q) ∧ ∀ k : Nat, k < dep → X' 354 (k : Int) = X 354 (k : Int)
theorem ckd_rng {k v : Int} (h : 0 ≤ v) : v / 2 ≤ ckd k v ∧ 0 ≤ ckd k v ∧ ckd k v ≤ imax (v + 1) (2 * v) ∧ ckd k v + 1 ≤ 2 * (v + 1) := by
  unfold ckd imax
  split
  · split <;> omega
  · split
    · split <;> omega
    · split
      · split <;> split <;> omega
      · split <;> omega
theorem imax_mono {a b x y : Int} (h : a ≤ x) (g : b ≤ y) : imax a b ≤ imax x y := by
  unfold imax
  split <;> split <;> omega
theorem ckR_rng {g : Nat → Int} {x : Int} (h : 0 ≤ x) : ∀ k : Nat, ckL k x ≤ ckR g k x ∧ 0 ≤ ckR g k x ∧ ckR g k x ≤ ckM k x ∧ 0 ≤ ckL k x
  | 0 => ⟨Int.le_refl _, h, Int.le_refl _, h⟩
  | k + 1 => by
    obtain ⟨h1, h2, h3, h4⟩ := ckR_rng (g := g) h k
    obtain ⟨e1, e2, e3, e4⟩ := ckd_rng (k := g k) h2
    show ckL k x / 2 ≤ ckd (g k) (ckR g k x) ∧ 0 ≤ ckd (g k) (ckR g k x) ∧ ckd (g k) (ckR g k x) ≤ imax (ckM k x + 1) (2 * ckM k x) ∧ 0 ≤ ckL k x / 2
    have := imax_mono (a := ckR g k x + 1) (b := 2 * ckR g k x) (x := ckM k x + 1) (y := 2 * ckM k x) (by omega) (by omega)
    omega
def p2 : Nat → Int
  | 0 => 1
  | k + 1 => 2 * p2 k
theorem p2_le : ∀ k : Nat, k ≤ 8 → 1 ≤ p2 k ∧ p2 k ≤ 256
  | 0, _ => by decide
  | 1, _ => by decide
  | 2, _ => by decide
  | 3, _ => by decide
  | 4, _ => by decide
  | 5, _ => by decide
  | 6, _ => by decide
  | 7, _ => by decide
  | 8, _ => by decide
  | k + 9, h => by omega
theorem ckR_p2 {g : Nat → Int} {x : Int} (h : 0 ≤ x) : ∀ k : Nat, ckR g k x + 1 ≤ (x + 1) * p2 k
  | 0 => by show x + 1 ≤ (x + 1) * 1; omega
  | k + 1 => by
    have ih := ckR_p2 (g := g) h k
    obtain ⟨e1, e2, e3, e4⟩ := ckd_rng (k := g k) (ckR_rng (g := g) h k).2.1
    show ckd (g k) (ckR g k x) + 1 ≤ (x + 1) * (2 * p2 k)
    rw [Int.mul_left_comm]
    omega
theorem ckR_top {g : Nat → Int} {x : Int} (h : 0 ≤ x) (h2 : x ≤ 999) {k : Nat} (hk : k ≤ 8) : 0 ≤ ckR g k x ∧ ckR g k x ≤ 256000 := by
  have h1 := ckR_p2 (g := g) h k
  have h3 := p2_le k hk
  have h4 := (ckR_rng (g := g) h k).2.1
  have h5 : (x + 1) * p2 k ≤ 1000 * 256 := Int.mul_le_mul (by omega) h3.2 (by omega) (by decide)
  omega
theorem ckM_b {x : Int} (h : 0 ≤ x) : ∀ k : Nat, 0 ≤ ckM k x ∧ ckM k x + 1 ≤ (x + 1) * p2 k
  | 0 => ⟨h, by show x + 1 ≤ (x + 1) * 1; omega⟩
  | k + 1 => by
    have ih := ckM_b h k
    show 0 ≤ imax (ckM k x + 1) (2 * ckM k x) ∧ imax (ckM k x + 1) (2 * ckM k x) + 1 ≤ (x + 1) * (2 * p2 k)
    rw [Int.mul_left_comm]
    unfold imax
    split <;> omega
theorem ckM_top {x : Int} (h : 0 ≤ x) (h2 : x ≤ 256000) {k : Nat} (hk : k ≤ 8) : 0 ≤ ckM k x ∧ ckM k x ≤ 70000000 := by
  have h1 := ckM_b h k
  have h3 := p2_le k hk
  have h5 : (x + 1) * p2 k ≤ 256001 * 256 := Int.mul_le_mul (by omega) h3.2 (by omega) (by decide)
  omega
theorem ckL_shr {x : Int} (h0 : 0 ≤ x) (h1 : x ≤ 256000) : ∀ k : Nat, k ≤ 8 → ishr x (k : Int) = ckL k x := by
  intro k hk
  rw [ishr_of (by omega) (by omega) (by omega)]
  match k, hk with
  | 0, _ => show x / 2 ^ 0 = x; rw [show (2 : Int) ^ 0 = 1 by decide]; omega
  | 1, _ => show x / 2 ^ 1 = x / 2; rw [show (2 : Int) ^ 1 = 2 by decide]
  | 2, _ => show x / 2 ^ 2 = x / 2 / 2; rw [show (2 : Int) ^ 2 = 4 by decide]; omega
  | 3, _ => show x / 2 ^ 3 = x / 2 / 2 / 2; rw [show (2 : Int) ^ 3 = 8 by decide]; omega
  | 4, _ => show x / 2 ^ 4 = x / 2 / 2 / 2 / 2; rw [show (2 : Int) ^ 4 = 16 by decide]; omega
  | 5, _ => show x / 2 ^ 5 = x / 2 / 2 / 2 / 2 / 2; rw [show (2 : Int) ^ 5 = 32 by decide]; omega
  | 6, _ => show x / 2 ^ 6 = x / 2 / 2 / 2 / 2 / 2 / 2; rw [show (2 : Int) ^ 6 = 64 by decide]; omega
  | 7, _ => show x / 2 ^ 7 = x / 2 / 2 / 2 / 2 / 2 / 2 / 2; rw [show (2 : Int) ^ 7 = 128 by decide]; omega
  | 8, _ => show x / 2 ^ 8 = x / 2 / 2 / 2 / 2 / 2 / 2 / 2 / 2; rw [show (2 : Int) ^ 8 = 256 by decide]; omega
  | k + 9, h => omega
theorem ckR_congr {g g' : Nat → Int} {x : Int} : ∀ k : Nat, (∀ i, i < k → g i = g' i) → ckR g k x = ckR g' k x
  | 0, _ => rfl
  | k + 1, h => by
    show ckd (g k) (ckR g k x) = ckd (g' k) (ckR g' k x)
    rw [h k (Nat.lt_succ_self k), ckR_congr k fun i hi => h i (by omega)]
theorem ckR_add {g : Nat → Int} {x : Int} (j : Nat) : ∀ k : Nat, ckR g (j + k) x = ckR (fun i => g (j + i)) k (ckR g j x)
  | 0 => rfl
  | k + 1 => by
    show ckd (g (j + k)) (ckR g (j + k) x) = ckd (g (j + k)) (ckR (fun i => g (j + i)) k (ckR g j x))
    rw [ckR_add j k]
theorem p4_pos : ∀ L : Nat, 0 < 4 ^ L
  | 0 => by decide
  | L + 1 => by
    have := p4_pos L
    rw [Nat.pow_succ]
    omega
theorem ckD_top {L s v : Nat} (hv : v < 4 ^ L) (hs : s < 4) : ckD (L + 1) (s * 4 ^ L + v) 0 = (s : Int) := by
  show (((s * 4 ^ L + v) / 4 ^ (L + 1 - 1 - 0) % 4 : Nat) : Int) = _
  rw [show L + 1 - 1 - 0 = L by omega, Nat.mul_comm s, Nat.mul_add_div (p4_pos L), Nat.div_eq_of_lt hv, Nat.add_zero, Nat.mod_eq_of_lt hs]
theorem ckD_low {L s v k : Nat} (hk : k < L) : ckD (L + 1) (s * 4 ^ L + v) (k + 1) = ckD L v k := by
  show (((s * 4 ^ L + v) / 4 ^ (L + 1 - 1 - (k + 1)) % 4 : Nat) : Int) = ((v / 4 ^ (L - 1 - k) % 4 : Nat) : Int)
  obtain ⟨j, hj⟩ : ∃ j, j = L - 1 - k := ⟨_, rfl⟩
  rw [show L + 1 - 1 - (k + 1) = j by omega, ← hj, show L = j + (k + 1) by omega, Nat.pow_add, Nat.mul_left_comm, Nat.mul_add_div (p4_pos j), Nat.pow_succ]
  congr 1
  rw [← Nat.mul_assoc]
  omega
theorem ckE_lt {g : Nat → Int} {dep L v k : Nat} (h : k < dep) : ckE g dep L v k = g k := if_pos h
theorem ckE_step {g : Nat → Int} {dep L s v : Nat} (hv : v < 4 ^ L) (hs : s < 4) : ∀ k, k < dep + (L + 1) → ckE g dep (L + 1) (s * 4 ^ L + v) k = ckE (fun i => if i = dep then (s : Int) else g i) (dep + 1) L v k := fun k hk => by
  unfold ckE
  by_cases h1 : k < dep
  · rw [if_pos h1, if_pos (by omega)]
    show g k = if k = dep then (s : Int) else g k
    rw [if_neg (by omega)]
  · by_cases h2 : k = dep
    · rw [if_neg h1, if_pos (by omega)]
      show ckD (L + 1) (s * 4 ^ L + v) (k - dep) = if k = dep then (s : Int) else g k
      rw [if_pos h2, h2, Nat.sub_self]
      exact ckD_top hv hs
    · rw [if_neg h1, if_neg (by omega), show k - dep = (k - (dep + 1)) + 1 by omega]
      exact ckD_low (by omega)
theorem OKx_step {np : Int} {O W : Int → Int} {g : Nat → Int} {dep L s v : Nat} (hv : v < 4 ^ L) (hs : s < 4) : OKx np O W g dep (L + 1) (s * 4 ^ L + v) ↔ OKx np O W (fun i => if i = dep then (s : Int) else g i) (dep + 1) L v := by
  unfold OKx
  have e : ∀ i, ckR (ckE g dep (L + 1) (s * 4 ^ L + v)) (dep + (L + 1)) (O i) = ckR (ckE (fun i => if i = dep then (s : Int) else g i) (dep + 1) L v) (dep + 1 + L) (O i) := fun i => by
    rw [show dep + 1 + L = dep + (L + 1) by omega]
    exact ckR_congr _ (ckE_step hv hs)
  constructor
  · intro h i i0 i1; rw [← e i]; exact h i i0 i1
  · intro h i i0 i1; rw [e i]; exact h i i0 i1
theorem OKx_pre {np : Int} {O W : Int → Int} {g : Nat → Int} {dep L v : Nat} (h : OKx np O W g dep L v) {i : Int} (i0 : 0 ≤ i) (i1 : i < np) : ckR (fun j => ckE g dep L v (dep + j)) L (ckR g dep (O i)) = W i := by
  have := h i i0 i1
  rw [ckR_add, ckR_congr (g' := g) dep fun i hi => ckE_lt hi] at this
  exact this
theorem sh345 {i : Int} (h0 : 0 ≤ i) (h1 : i < 9) : shk SHX (345 + i) = (100, 4) := by
  have : i = 0 ∨ i = 1 ∨ i = 2 ∨ i = 3 ∨ i = 4 ∨ i = 5 ∨ i = 6 ∨ i = 7 ∨ i = 8 := by omega
  rcases this with rfl | rfl | rfl | rfl | rfl | rfl | rfl | rfl | rfl
  · exact fs345
  · exact fs346
  · exact fs347
  · exact fs348
  · exact fs349
  · exact fs350
  · exact fs351
  · exact fs352
  · exact fs353
section
variable {d c : Nat} {R M X : MEM} {b n x y z t m k v u np : Int} {N : NTW} {Q : RES} {O W : Int → Int}
theorem c_made (h0 : 0 ≤ x) (h1 : x ≤ 1000000) (hq : Q (ckd k x) SHX R M) : Mw d 12 [vi k, vi x] SHX R M 0 0 Q := by
  refine Mw_of mok12 rfl fun _ _ => b_X1_made_0 ?_
  unfold ckd at hq
  by_cases e0 : k = 0
  · rw [if_pos e0] at hq ⊢
    rw [idiv_of h0 (by omega) (by decide) (by decide)]
    exact ⟨by decide, hq⟩
  · rw [if_neg e0] at hq ⊢
    by_cases e1 : k = 1
    · rw [if_pos e1] at hq ⊢
      rw [iadd_of (by omega) (by omega)]
      exact hq
    · rw [if_neg e1] at hq ⊢
      by_cases e2 : k = 2
      · rw [if_pos e2] at hq ⊢
        rw [isub_of (by omega) (by omega)]
        have : imax 0 (x - 1) = if 0 < x then x - 1 else 0 := by
          unfold imax
          split <;> split <;> omega
        rw [this]
        exact hq
      · rw [if_neg e2] at hq ⊢
        rw [imul_of (by omega) (by omega), Int.mul_comm]
        exact hq
theorem m_made (h0 : 0 ≤ x) (h1 : x ≤ 1000000) (hq : Q (ckd k x) SHX R M) : Mw d 260 [vi x, vi k] SHX R M 0 0 Q := by
  refine Mw_of mok260 rfl fun _ _ => b_X12_made_0 ?_
  unfold ckd at hq
  by_cases e0 : k = 0
  · rw [if_pos e0] at hq ⊢
    rw [idiv_of h0 (by omega) (by decide) (by decide)]
    exact ⟨by decide, hq⟩
  · rw [if_neg e0] at hq ⊢
    by_cases e1 : k = 1
    · rw [if_pos e1] at hq ⊢
      rw [iadd_of (by omega) (by omega)]
      exact hq
    · rw [if_neg e1] at hq ⊢
      by_cases e2 : k = 2
      · rw [if_pos e2] at hq ⊢
        by_cases e3 : 0 < x
        · rw [if_pos e3] at hq ⊢
          rw [isub_of (by omega) (by omega)]
          exact hq
        · rw [if_neg e3] at hq ⊢
          exact hq
      · rw [if_neg e2] at hq ⊢
        rw [imul_of (by omega) (by omega)]
        exact hq
theorem c_reach {dep L : Nat} (hc : RC R) (hn : X 342 0 = np) (n0 : 0 ≤ np) (n4 : np ≤ 4) (d8 : dep ≤ 8) (l8 : L ≤ 8) (hv : ∀ i, 0 ≤ i → i < np → 0 ≤ X (345 + (dep : Int)) i ∧ X (345 + (dep : Int)) i ≤ 256000) (hq1 : (L = 0 → ∀ i, 0 ≤ i → i < np → X (345 + (dep : Int)) i = X 343 i) → Q 1 SHX R X) (hq0 : (∃ i, 0 ≤ i ∧ i < np ∧ ∀ g : Nat → Int, ckR g L (X (345 + (dep : Int)) i) ≠ X 343 i) → Q 0 SHX R X) : Mw d 11 [vr 342, vi (dep : Int), vi (L : Int)] SHX R X 0 0 Q := by
  refine Mw_of mok11 rfl fun _ _ => b_X1_isInReach_0 ?_
  have key : ∀ u, 0 ≤ u → u ≤ np → (L = 0 → ∀ i, 0 ≤ i → i < u → X (345 + (dep : Int)) i = X 343 i) → Go d 11 Q 2 [vr 342, vi (dep : Int), vi (L : Int), vi u, vn, vn, vn] [] SHX R X 0 0 := by
    refine upto (fun h => ?_) fun u u0 u1 ih h => ?_
    · refine b_X1_isInReach_2 ?_
      rw [ok342, hn, if_neg (by omega)]
      exact hq1 h
    · obtain ⟨v0, v1⟩ := hv u u0 u1
      have L17 : ∀ k : Nat, k ≤ L → Go d 11 Q 17 [vr 342, vi (dep : Int), vi (L : Int), vi u, vi (X (345 + (dep : Int)) u), vi (ckM k (X (345 + (dep : Int)) u)), vi (k : Int)] [] SHX R X 0 0 := by
        refine uptoN ?_ ?_
        · refine b_X1_isInReach_17 ?_
          rw [if_neg (by omega)]
          simp only [ok342, rc342_1 hc, ak343]
          rw [ckL_shr v0 v1 L l8]
          refine ⟨u0, by omega, ?_⟩
          by_cases h1 : X 343 u < ckL L (X (345 + (dep : Int)) u)
          · rw [if_pos h1]
            exact hq0 ⟨u, u0, u1, fun g => by have := (ckR_rng (g := g) v0 L).1; omega⟩
          · rw [if_neg h1]
            refine ⟨u0, by omega, ?_⟩
            by_cases h2 : ckM L (X (345 + (dep : Int)) u) < X 343 u
            · rw [if_pos h2]
              exact hq0 ⟨u, u0, u1, fun g => by have := (ckR_rng (g := g) v0 L).2.2.1; omega⟩
            · rw [if_neg h2, iadd_of (by omega) (by omega)]
              refine ih fun hL i i0 i1 => ?_
              by_cases hiu : i = u
              · subst hL
                rw [hiu]
                have e1 : ckL 0 (X (345 + (dep : Int)) u) = X (345 + (dep : Int)) u := rfl
                have e2 : ckM 0 (X (345 + (dep : Int)) u) = X (345 + (dep : Int)) u := rfl
                omega
              · exact h hL i i0 (by omega)
        · intro k hk ih2
          have hb := ckM_top v0 v1 (k := k) (by omega)
          refine b_X1_isInReach_17 ?_
          rw [if_pos (by omega), if_pos (by omega), iadd_of (x := (k : Int)) (by omega) (by omega), iadd_of (by omega) (by omega), imul_of (by omega) (by omega), show (k : Int) + 1 = ((k + 1 : Nat) : Int) by omega]
          exact ih2
      refine b_X1_isInReach_2 ?_
      rw [ok342, hn, if_pos u1, ok342, rc342_2 hc, ak344, rc344 hc (by omega) (by omega), ak_mk (kd := 100) (sh345 (i := (dep : Int)) (by omega) (by omega))]
      exact ⟨by omega, by omega, u0, by omega, L17 0 (Nat.zero_le _)⟩
  exact key 0 (by decide) n0 fun _ i i0 i1 => by omega
theorem FRx_self (dep : Nat) : FRx dep X X := ⟨fun _ _ => rfl, fun _ _ => rfl⟩
theorem c_search (hc : RC R) (n0 : 0 ≤ np) (n4 : np ≤ 4) (hO : ∀ i, 0 ≤ i → i < np → 0 ≤ O i ∧ O i ≤ 999) : ∀ (L dep : Nat) (g : Nat → Int) (X : MEM) (Q : RES), dep + L ≤ 8 → X 342 0 = np → (∀ i, 0 ≤ i → i < np → X 343 i = W i) → (∀ i, 0 ≤ i → i < np → X (345 + (dep : Int)) i = ckR g dep (O i)) → (∀ k : Nat, k < dep → X 354 (k : Int) = g k) → (∀ X' v, v < 4 ^ L → OKx np O W g dep L v → (∀ u, u < v → ¬ OKx np O W g dep L u) → (∀ k : Nat, k < dep + L → X' 354 (k : Int) = ckE g dep L v k) → FRx dep X X' → Q 1 SHX R X') → (∀ X', (∀ u, u < 4 ^ L → ¬ OKx np O W g dep L u) → FRx dep X X' → Q 0 SHX R X') → Mw (d + L + 1) 10 [vr 342, vi (dep : Int), vi (L : Int)] SHX R X 0 0 Q
  | 0, dep, g, X, Q, h8, hn, hw, hx, hg, hq1, hq0 => by
    refine Mw_of mok10 rfl fun _ _ => b_X1_search_0 ?_
    have e0 : ∀ v : Nat, OKx np O W g dep 0 v ↔ ∀ i, 0 ≤ i → i < np → ckR g dep (O i) = W i := fun v => by
      unfold OKx
      have e : ∀ i, ckR (ckE g dep 0 v) (dep + 0) (O i) = ckR g dep (O i) := fun i => ckR_congr dep fun k hk => ckE_lt hk
      constructor
      · intro h i i0 i1; rw [← e i]; exact h i i0 i1
      · intro h i i0 i1; rw [e i]; exact h i i0 i1
    rw [ok342]
    refine c_reach (d := d) (L := 0) hc hn n0 n4 (by omega) (by decide) (fun i i0 i1 => by rw [hx i i0 i1]; exact ckR_top (hO i i0 i1).1 (hO i i0 i1).2 (by omega)) (fun h _ => ?_) fun h _ => ?_
    · rw [if_neg (by decide), if_neg (by decide), if_pos (show ((0 : Nat) : Int) = 0 from rfl)]
      refine hq1 X 0 (by decide) ((e0 0).2 fun i i0 i1 => ?_) (fun u hu => by omega) (fun k hk => ?_) (FRx_self dep)
      · rw [← hx i i0 i1, ← hw i i0 i1]; exact h rfl i i0 i1
      · rw [ckE_lt (by omega)]; exact hg k (by omega)
    · rw [if_pos rfl]
      obtain ⟨i, i0, i1, hno⟩ := h
      refine hq0 X (fun u _ hok => ?_) (FRx_self dep)
      have := hno g
      rw [hx i i0 i1, hw i i0 i1] at this
      exact this ((e0 u).1 hok i i0 i1)
  | L + 1, dep, g, X, Q, h8, hn, hw, hx, hg, hq1, hq0 => by
    refine Mw_of mok10 rfl fun _ _ => b_X1_search_0 ?_
    rw [ok342]
    refine c_reach (d := d + (L + 1)) (L := L + 1) hc hn n0 n4 (by omega) (by omega) (fun i i0 i1 => by rw [hx i i0 i1]; exact ckR_top (hO i i0 i1).1 (hO i i0 i1).2 (by omega)) (fun _ _ => ?_) fun h _ => ?_
    · rw [if_neg (by decide), if_pos (by omega), if_pos (by omega)]
      have key : ∀ s : Nat, s ≤ 4 → ∀ Y, FRx dep X Y → (∀ u, u < s * 4 ^ L → ¬ OKx np O W g dep (L + 1) u) → Go (d + (L + 1) + 1) 10 Q 20 [vr 342, vi (dep : Int), vi ((L + 1 : Nat) : Int), vi (s : Int), vn] [] SHX R Y 0 0 := by
        refine uptoN ?_ ?_
        · intro Y hY hno
          refine b_X1_search_20 ?_
          rw [if_neg (by decide)]
          exact hq0 Y (fun u hu => hno u (by rw [Nat.pow_succ] at hu; omega)) hY
        · intro s hs ih Y hY hno
          refine b_X1_search_20 ?_
          rw [if_pos (by omega)]
          have yx : ∀ i, 0 ≤ i → i < np → Y (345 + (dep : Int)) i = ckR g dep (O i) := fun i i0 i1 => by rw [hY.1 _ (by omega)]; exact hx i i0 i1
          have yn : Y 342 0 = np := by rw [hY.1 _ (by omega)]; exact hn
          have L25 : ∀ u, 0 ≤ u → u ≤ np → ∀ Z, (∀ q, q ≠ 345 + (dep : Int) + 1 → Z q = Y q) → (∀ i, 0 ≤ i → i < u → Z (345 + (dep : Int) + 1) i = ckd (s : Int) (ckR g dep (O i))) → Go (d + (L + 1) + 1) 10 Q 25 [vr 342, vi (dep : Int), vi ((L + 1 : Nat) : Int), vi (s : Int), vi u] [] SHX R Z 0 0 := by
            refine upto (fun Z hZ hz => ?_) fun u u0 u1 ihu Z hZ hz => ?_
            · refine b_X1_search_25 ?_
              have zn : Z 342 0 = np := by rw [hZ _ (by omega)]; exact yn
              rw [ok342, zn, if_neg (by omega), ok342, rc342_3 hc, ak354, ok342, iadd_of (x := (dep : Int)) (by omega) (by omega), isub_of (by omega) (by omega), show (dep : Int) + 1 = ((dep + 1 : Nat) : Int) by omega, show ((L + 1 : Nat) : Int) - 1 = (L : Int) by omega]
              have nx : 345 + ((dep + 1 : Nat) : Int) = 345 + (dep : Int) + 1 := by omega
              have fr0 : ∀ X', FRx (dep + 1) (stm Z 354 (dep : Int) (s : Int)) X' → FRx dep X X' := fun X' hf => by
                refine ⟨fun q hq => ?_, fun k hk => ?_⟩
                · rw [hf.1 q (by omega), stm_ne (by omega), hZ q (by omega), hY.1 q hq]
                · rw [hf.2 k (by omega), stm_neq (by omega), hZ _ (by omega), hY.2 k hk]
              refine ⟨by omega, by omega, c_search hc n0 n4 hO L (dep + 1) (fun i => if i = dep then (s : Int) else g i) _ _ (by omega) ?_ (fun i i0 i1 => ?_) (fun i i0 i1 => ?_) (fun k hk => ?_) (fun X' v hv hok hle hd hf _ => ?_) fun X' hno2 hf _ => ?_⟩
              · rw [stm_neq (by omega)]; exact zn
              · rw [stm_neq (by omega), hZ _ (by omega), hY.1 _ (by omega)]; exact hw i i0 i1
              · rw [nx, stm_neq (by omega), hz i i0 i1]
                show _ = ckd (if dep = dep then (s : Int) else g dep) (ckR (fun i => if i = dep then (s : Int) else g i) dep (O i))
                rw [if_pos rfl, ckR_congr (g' := g) dep fun i hi => if_neg (by omega)]
              · show _ = if k = dep then (s : Int) else g k
                by_cases hkd : k = dep
                · rw [if_pos hkd, hkd, stm_hit]
                · rw [if_neg hkd, stm_neq (by omega), hZ _ (by omega), hY.2 k (by omega)]; exact hg k (by omega)
              · rw [if_neg (by decide)]
                have hb : s * 4 ^ L + v < 4 ^ (L + 1) := by
                  rw [Nat.pow_succ]
                  have : s * 4 ^ L ≤ 3 * 4 ^ L := Nat.mul_le_mul_right _ (by omega)
                  omega
                refine hq1 X' (s * 4 ^ L + v) hb ((OKx_step hv (by omega)).2 hok) (fun u hu => ?_) (fun k hk => ?_) (fr0 X' hf)
                · by_cases hlo : u < s * 4 ^ L
                  · exact hno u hlo
                  · obtain ⟨u', hu'⟩ : ∃ u', u = s * 4 ^ L + u' := ⟨u - s * 4 ^ L, by omega⟩
                    subst hu'
                    intro z
                    exact hle u' (by omega) ((OKx_step (by omega) (by omega)).1 z)
                · rw [ckE_step hv (by omega) k hk]
                  exact hd k (by omega)
              · rw [if_pos rfl, iadd_of (by omega) (by omega), show (s : Int) + 1 = ((s + 1 : Nat) : Int) by omega]
                refine ih X' (fr0 X' hf) fun u hu => ?_
                by_cases hlo : u < s * 4 ^ L
                · exact hno u hlo
                · obtain ⟨u', hu'⟩ : ∃ u', u = s * 4 ^ L + u' := ⟨u - s * 4 ^ L, by omega⟩
                  have hu4 : u' < 4 ^ L := by
                    rw [Nat.succ_mul] at hu
                    omega
                  subst hu'
                  intro z
                  exact hno2 u' hu4 ((OKx_step hu4 (by omega)).1 z)
            · have zx : Z (345 + (dep : Int)) u = ckR g dep (O u) := by rw [hZ _ (by omega)]; exact yx u u0 u1
              have zn : Z 342 0 = np := by rw [hZ _ (by omega)]; exact yn
              have rt := ckR_top (g := g) (hO u u0 u1).1 (hO u u0 u1).2 (k := dep) (by omega)
              refine b_X1_search_25 ?_
              rw [ok342, zn, if_pos u1, ok342, rc342_2 hc, iadd_of (x := (dep : Int)) (by omega) (by omega), ak344, ok342, ak344, rc344 hc (by omega) (by omega), rc344 hc (by omega) (by omega), ak_mk (kd := 100) (sh345 (i := (dep : Int)) (by omega) (by omega)), zx]
              refine ⟨by omega, by omega, by omega, by omega, u0, by omega, c_made (d := d + (L + 1)) rt.1 (by omega) ?_⟩
              rw [ak_mk (kd := 100) (sh345 (i := (dep : Int) + 1) (by omega) (by omega)), iadd_of (x := u) (by omega) (by omega), show 345 + ((dep : Int) + 1) = 345 + (dep : Int) + 1 by omega]
              refine ⟨u0, by omega, ihu _ (fun q hq => by rw [stm_ne hq, hZ q hq]) fun i i0 i1 => ?_⟩
              by_cases hiu : i = u
              · rw [hiu, stm_hit]
              · rw [stm_neq (by omega)]; exact hz i i0 (by omega)
          exact L25 0 (by decide) n0 Y (fun _ _ => rfl) fun i i0 i1 => by omega
      exact key 0 (by decide) X (FRx_self dep) fun u hu => by omega
    · rw [if_pos rfl]
      obtain ⟨i, i0, i1, hno⟩ := h
      refine hq0 X (fun u _ hok => ?_) (FRx_self dep)
      have := hno (fun j => ckE g dep (L + 1) u (dep + j))
      rw [hx i i0 i1, hw i i0 i1] at this
      exact this (OKx_pre hok i0 i1)
end
