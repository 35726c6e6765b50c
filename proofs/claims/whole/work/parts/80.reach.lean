/-! REACH: bits of a number, ways, and where they lead -/
def HB (x t : Int) : Prop := x.toNat.testBit t.toNat = true
def B16 (x : Int) : Prop := 0 ≤ x ∧ x < 65536
theorem B16_0 : B16 0 := ⟨by decide, by decide⟩
theorem hb_0 {t : Int} : ¬ HB 0 t := by
  unfold HB
  rw [show (0 : Int).toNat = 0 from rfl, Nat.zero_testBit]
  decide
theorem hb_test {x t : Int} (h : B16 x) (t0 : 0 ≤ t) (t1 : t < 31) : (iand (ishr x t) 1 = 1) ↔ HB x t := by
  obtain ⟨a, rfl⟩ := Int.eq_ofNat_of_zero_le h.1
  obtain ⟨b, rfl⟩ := Int.eq_ofNat_of_zero_le t0
  have := h.2
  exact bit_iff (by omega) (by omega)
theorem hb_or {x y t : Int} (h : B16 x) (g : B16 y) : (HB (ior x y) t ↔ HB x t ∨ HB y t) ∧ B16 (ior x y) := by
  obtain ⟨a, rfl⟩ := Int.eq_ofNat_of_zero_le h.1
  obtain ⟨b, rfl⟩ := Int.eq_ofNat_of_zero_le g.1
  have h2 := h.2
  have g2 := g.2
  have : a ||| b < 65536 := Nat.or_lt_two_pow (n := 16) (by omega) (by omega)
  unfold HB B16
  rw [ior_nat (by omega) (by omega)]
  refine ⟨?_, by omega, by omega⟩
  show (a ||| b).testBit _ = true ↔ a.testBit _ = true ∨ b.testBit _ = true
  rw [Nat.testBit_or]
  simp
theorem hb_and {x y t : Int} (h : B16 x) (g : B16 y) : (HB (iand x y) t ↔ HB x t ∧ HB y t) ∧ B16 (iand x y) := by
  obtain ⟨a, rfl⟩ := Int.eq_ofNat_of_zero_le h.1
  obtain ⟨b, rfl⟩ := Int.eq_ofNat_of_zero_le g.1
  have h2 := h.2
  have g2 := g.2
  have : a &&& b ≤ a := Nat.and_le_left
  unfold HB B16
  rw [iand_nat (by omega) (by omega)]
  refine ⟨?_, by omega, by omega⟩
  show (a &&& b).testBit _ = true ↔ a.testBit _ = true ∧ b.testBit _ = true
  rw [Nat.testBit_and]
  simp
theorem hb_shl {s t : Int} (s0 : 0 ≤ s) (s1 : s < 16) (t0 : 0 ≤ t) : (HB (ishl 1 s) t ↔ s = t) ∧ B16 (ishl 1 s) := by
  obtain ⟨a, rfl⟩ := Int.eq_ofNat_of_zero_le s0
  obtain ⟨b, rfl⟩ := Int.eq_ofNat_of_zero_le t0
  have : 2 ^ a < 2 ^ 16 := Nat.pow_lt_pow_right (by decide) (by omega)
  unfold HB B16
  rw [ishl_1 (by omega)]
  refine ⟨?_, Int.natCast_nonneg _, Int.ofNat_lt.2 this⟩
  show (2 ^ a).testBit b = true ↔ _
  rw [tb_pow]
  simp
  omega
theorem hb_ext {x y : Int} (h : B16 x) (g : B16 y) (e : ∀ t, 0 ≤ t → t < 16 → (HB x t ↔ HB y t)) : x = y := by
  obtain ⟨a, rfl⟩ := Int.eq_ofNat_of_zero_le h.1
  obtain ⟨b, rfl⟩ := Int.eq_ofNat_of_zero_le g.1
  have h2 := h.2
  have g2 := g.2
  have : a = b := by
    apply Nat.eq_of_testBit_eq
    intro i
    by_cases hi : i < 16
    · have := e (i : Int) (by omega) (by omega)
      unfold HB at this
      simp only [Int.toNat_natCast] at this
      cases h1 : a.testBit i <;> cases h2 : b.testBit i <;> simp_all
    · have p : 2 ^ 16 ≤ 2 ^ i := Nat.pow_le_pow_right (by decide) (by omega)
      rw [Nat.testBit_lt_two_pow (by omega), Nat.testBit_lt_two_pow (by omega)]
  rw [this]
def EW (N : NTW) (t i : Int) : Prop := ∃ w, 0 ≤ w ∧ w < N 0 2 ∧ N 6 w = t ∧ N 7 w = i
def walk (N : NTW) : Nat → Int → Int → Prop
  | 0, t, i => EW N t i
  | n + 1, t, i => ∃ j, EW N t j ∧ walk N n j i
/-- ways lead from t to i -/
def RCH (N : NTW) (t i : Int) : Prop := ∃ n, walk N n t i
/-- with stops below k only -/
def WK (N : NTW) : Nat → Int → Int → Prop
  | 0, t, i => EW N t i
  | k + 1, t, i => WK N k t i ∨ (WK N k t (k : Int) ∧ WK N k (k : Int) i)
section
variable {N : NTW}
theorem walk_app : ∀ (n m : Nat) (t j i : Int), walk N n t j → walk N m j i → walk N (n + m + 1) t i
  | 0, m, t, j, i, h, g => by
    rw [show 0 + m + 1 = m + 1 by omega]
    exact ⟨j, h, g⟩
  | n + 1, m, t, j, i, ⟨u, h1, h2⟩, g => by
    rw [show n + 1 + m + 1 = n + m + 1 + 1 by omega]
    exact ⟨u, h1, walk_app n m u j i h2 g⟩
theorem WK_walk : ∀ (k : Nat) (t i : Int), WK N k t i → RCH N t i
  | 0, _, _, h => ⟨0, h⟩
  | k + 1, t, i, h => by
    rcases h with h | ⟨h1, h2⟩
    · exact WK_walk k t i h
    · obtain ⟨n, hn⟩ := WK_walk k _ _ h1
      obtain ⟨m, hm⟩ := WK_walk k _ _ h2
      exact ⟨_, walk_app n m _ _ _ hn hm⟩
theorem WK_tr : ∀ (k : Nat) (t j i : Int), 0 ≤ j → j < (k : Int) → WK N k t j → WK N k j i → WK N k t i
  | 0, _, _, _, h0, h1, _, _ => by omega
  | k + 1, t, j, i, h0, h1, g1, g2 => by
    by_cases hj : j < (k : Int)
    · rcases g1 with g1 | ⟨g1, g3⟩
      · rcases g2 with g2 | ⟨g2, g4⟩
        · exact Or.inl (WK_tr k t j i h0 hj g1 g2)
        · exact Or.inr ⟨WK_tr k t j _ h0 hj g1 g2, g4⟩
      · rcases g2 with g2 | ⟨g2, g4⟩
        · exact Or.inr ⟨g1, WK_tr k _ j i h0 hj g3 g2⟩
        · exact Or.inr ⟨g1, g4⟩
    · have e : j = (k : Int) := by omega
      subst e
      have a : WK N k t (k : Int) := g1.elim id fun z => z.1
      have b : WK N k (k : Int) i := g2.elim id fun z => z.2
      exact Or.inr ⟨a, b⟩
theorem WK_E : ∀ (k : Nat) (t i : Int), EW N t i → WK N k t i
  | 0, _, _, h => h
  | k + 1, t, i, h => Or.inl (WK_E k t i h)
theorem EW_rng (hW : WN N) {t i : Int} (h : EW N t i) : (0 ≤ t ∧ t < N 0 0) ∧ 0 ≤ i ∧ i < N 0 0 := by
  obtain ⟨w, w0, w1, rfl, rfl⟩ := h
  exact ⟨wn_wf hW w w0 w1, wn_wt hW w w0 w1⟩
theorem walk_WK (hW : WN N) : ∀ (n : Nat) (t i : Int), walk N n t i → WK N (N 0 0).toNat t i
  | 0, t, i, h => WK_E _ t i h
  | n + 1, t, i, ⟨j, h1, h2⟩ => by
    have := EW_rng hW h1
    exact WK_tr _ t j i (by omega) (by omega) (WK_E _ t j h1) (walk_WK hW n j i h2)
theorem WK_iff (hW : WN N) {t i : Int} : WK N (N 0 0).toNat t i ↔ RCH N t i := ⟨WK_walk _ t i, fun ⟨n, h⟩ => walk_WK hW n t i h⟩
theorem EW_up {t i : Int} : EW N t i ↔ ∃ w, 0 ≤ w ∧ w < N 0 2 ∧ N 6 w = t ∧ N 7 w = i := Iff.rfl
end
section
variable {d : Nat} {R M : MEM} {n : Int} {N : NTW} {Q : RES}
theorem c_close (hc : RC R) (hN : NR R n) (hC : NC M n N) (hW : WN N) (n1 : n ≤ 14) (hq : ∀ M', (∀ q, q ≠ 337 → M' q = M q) → (∀ t, 0 ≤ t → t < N 0 0 → B16 (M' 337 t)) → (∀ t i, 0 ≤ t → t < N 0 0 → 0 ≤ i → i < 16 → (HB (M' 337 t) i ↔ RCH N t i)) → Q 0 SHX R M') : Mw d 57 [vr 274, vr n] SHX R M 0 0 Q := by
  have hT := wn_T hW
  have hw := wn_W hW
  have cell : ∀ M' : MEM, (∀ q, q ≠ 337 → M' q = M q) → NC M' n N := fun M' f => NC_of9 hC fun q q0 q1 => f q (by omega)
  refine Mw_of mok57 rfl fun _ _ => b_X6_close_0 ?_
  -- the closing
  have L39 : ∀ k : Nat, k ≤ (N 0 0).toNat → ∀ M', (∀ q, q ≠ 337 → M' q = M q) → (∀ t, 0 ≤ t → t < N 0 0 → B16 (M' 337 t)) → (∀ t i, 0 ≤ t → t < N 0 0 → 0 ≤ i → i < 16 → (HB (M' 337 t) i ↔ WK N k t i)) → Go d 57 Q 39 [vr 274, vr n, vi (k : Int), vn] [] SHX R M' 0 0 := by
    refine uptoN (fun M' f hb hw => ?_) fun k hk ih M' f hb hwk => ?_
    · refine b_X6_close_39 ?_
      rw [okN hN, nc_T (cell M' f), if_neg (by omega)]
      exact hq M' f hb fun t i t0 t1 i0 i1 => (hw t i t0 t1 i0 i1).trans (WK_iff ‹WN N›)
    · refine b_X6_close_39 ?_
      rw [okN hN, nc_T (cell M' f), if_pos (by omega)]
      have L45 : ∀ u : Int, 0 ≤ u → u ≤ N 0 0 → ∀ M2, (∀ q, q ≠ 337 → M2 q = M q) → (∀ t, 0 ≤ t → t < N 0 0 → B16 (M2 337 t)) → (∀ t i, 0 ≤ t → t < u → 0 ≤ i → i < 16 → (HB (M2 337 t) i ↔ WK N (k + 1) t i)) → (∀ t i, u ≤ t → t < N 0 0 → 0 ≤ i → i < 16 → (HB (M2 337 t) i ↔ WK N k t i)) → (∀ i, 0 ≤ i → i < 16 → (HB (M2 337 (k : Int)) i ↔ WK N k (k : Int) i)) → Go d 57 Q 45 [vr 274, vr n, vi (k : Int), vi u] [] SHX R M2 0 0 := by
        refine upto (fun M2 f2 hb2 h1 h2 h3 => ?_) fun u u0 u1 ih2 M2 f2 hb2 h1 h2 h3 => ?_
        · refine b_X6_close_45 ?_
          rw [okN hN, nc_T (cell M2 f2), if_neg (by omega), iadd_of (by omega) (by omega)]
          exact ih M2 f2 hb2 fun t i t0 t1 i0 i1 => h1 t i t0 t1 i0 i1
        · refine b_X6_close_45 ?_
          rw [okN hN, nc_T (cell M2 f2), if_pos (by omega), ok274, rc274_1 hc, ak337]
          refine ⟨u0, by omega, ?_⟩
          have bu := hb2 u u0 u1
          have bk := hb2 (k : Int) (by omega) (by omega)
          have tst := hb_test (t := (k : Int)) bu (by omega) (by omega)
          rw [iadd_of (x := u) (by omega) (by omega)]
          by_cases hbit : iand (ishr (M2 337 u) (k : Int)) 1 = 1
          · rw [if_pos hbit, ok274, ok274, ak337, ak337, ak337]
            have hk2 : WK N k u (k : Int) := (h2 u (k : Int) (by omega) u1 (by omega) (by omega)).1 (tst.1 hbit)
            have val : ∀ i, 0 ≤ i → i < 16 → (HB (ior (M2 337 u) (M2 337 (k : Int))) i ↔ WK N (k + 1) u i) := fun i i0 i1 => by
              rw [(hb_or bu bk).1, h2 u i (by omega) u1 i0 i1, h3 i i0 i1]
              exact ⟨fun z => z.elim Or.inl fun z => Or.inr ⟨hk2, z⟩, fun z => z.elim Or.inl fun z => Or.inr z.2⟩
            refine ⟨u0, by omega, by omega, by omega, u0, by omega, ih2 _ (fun q hq => by rw [stm_ne hq, f2 q hq]) (fun t t0 t1 => ?_) (fun t i t0 t1 i0 i1 => ?_) (fun t i t0 t1 i0 i1 => ?_) fun i i0 i1 => ?_⟩
            · by_cases ht : t = u
              · rw [ht, stm_hit]; exact (hb_or (t := 0) bu bk).2
              · rw [stm_neq (by omega)]; exact hb2 t t0 t1
            · by_cases ht : t = u
              · rw [ht, stm_hit]; exact val i i0 i1
              · rw [stm_neq (by omega)]; exact h1 t i t0 (by omega) i0 i1
            · rw [stm_neq (by omega)]; exact h2 t i (by omega) t1 i0 i1
            · by_cases ht : (k : Int) = u
              · rw [ht, stm_hit, ← ht, (hb_or bk bk).1, h3 i i0 i1]
                exact ⟨fun z => z.elim id id, Or.inl⟩
              · rw [stm_neq (by omega)]; exact h3 i i0 i1
          · rw [if_neg hbit]
            have hk2 : ¬ WK N k u (k : Int) := fun z => hbit (tst.2 ((h2 u (k : Int) (by omega) u1 (by omega) (by omega)).2 z))
            refine ih2 M2 f2 hb2 (fun t i t0 t1 i0 i1 => ?_) (fun t i t0 t1 i0 i1 => h2 t i (by omega) t1 i0 i1) h3
            by_cases ht : t = u
            · subst ht
              rw [h2 t i (by omega) u1 i0 i1]
              exact ⟨Or.inl, fun z => z.elim id fun z => absurd z.1 hk2⟩
            · exact h1 t i t0 (by omega) i0 i1
      exact L45 0 (by decide) (by omega) M' f hb (fun t i t0 t1 => by omega) (fun t i t0 t1 i0 i1 => hwk t i t0 t1 i0 i1) (fun i i0 i1 => hwk (k : Int) i (by omega) (by omega) i0 i1)
  -- the ways
  have L15 : ∀ w : Int, 0 ≤ w → w ≤ N 0 2 → ∀ M', (∀ q, q ≠ 337 → M' q = M q) → (∀ t, 0 ≤ t → t < N 0 0 → B16 (M' 337 t)) → (∀ t i, 0 ≤ t → t < N 0 0 → 0 ≤ i → i < 16 → (HB (M' 337 t) i ↔ ∃ v, 0 ≤ v ∧ v < w ∧ N 6 v = t ∧ N 7 v = i)) → Go d 57 Q 15 [vr 274, vr n, vi w, vn] [] SHX R M' 0 0 := by
    refine upto (fun M' f hb hwk => ?_) fun w w0 w1 ih M' f hb hwk => ?_
    · refine b_X6_close_15 ?_
      rw [okN hN, nc_W (cell M' f), if_neg (by omega)]
      exact L39 0 (by omega) M' f hb hwk
    · have wf := wn_wf hW w w0 w1
      have wt := wn_wt hW w w0 w1
      refine b_X6_close_15 ?_
      rw [okN hN, nc_W (cell M' f), if_pos (by omega), ok274, rc274_1 hc, okN hN, nr8 hN, nr9 hN, aN6 hN, aN7 hN, nc6 (cell M' f) w w0 w1, nc7 (cell M' f) w w0 w1, okN hN, ak337, ak337, iadd_of (by omega) (by omega)]
      have bs := (hb_shl (s := N 7 w) (t := 0) wt.1 (by omega) (by decide)).2
      refine ⟨w0, by omega, wf.1, by omega, w0, by omega, wf.1, by omega, ih _ (fun q hq => by rw [stm_ne hq, f q hq]) (fun t t0 t1 => ?_) fun t i t0 t1 i0 i1 => ?_⟩
      · by_cases ht : t = N 6 w
        · rw [ht, stm_hit]; exact (hb_or (t := 0) (hb _ wf.1 wf.2) bs).2
        · rw [stm_neq (by omega)]; exact hb t t0 t1
      · by_cases ht : t = N 6 w
        · rw [ht, stm_hit, (hb_or (hb _ wf.1 wf.2) bs).1, hwk _ i wf.1 wf.2 i0 i1, (hb_shl wt.1 (by omega) i0).1]
          constructor
          · rintro (⟨v, v0, v1, v2, v3⟩ | e)
            · exact ⟨v, v0, by omega, v2, v3⟩
            · exact ⟨w, w0, by omega, rfl, e⟩
          · rintro ⟨v, v0, v1, v2, v3⟩
            by_cases hv : v = w
            · subst hv; exact Or.inr v3
            · exact Or.inl ⟨v, v0, by omega, v2, v3⟩
        · rw [stm_neq (by omega), hwk t i t0 t1 i0 i1]
          constructor
          · rintro ⟨v, v0, v1, v2, v3⟩
            exact ⟨v, v0, by omega, v2, v3⟩
          · rintro ⟨v, v0, v1, v2, v3⟩
            refine ⟨v, v0, ?_, v2, v3⟩
            by_cases hv : v = w
            · subst hv; exact absurd v2.symm ht
            · omega
  have L2 : ∀ u : Int, 0 ≤ u → u ≤ N 0 0 → ∀ M', (∀ q, q ≠ 337 → M' q = M q) → (∀ t, 0 ≤ t → t < u → M' 337 t = 0) → Go d 57 Q 2 [vr 274, vr n, vi u, vn] [] SHX R M' 0 0 := by
    refine upto (fun M' f h0 => ?_) fun u u0 u1 ih M' f h0 => ?_
    · refine b_X6_close_2 ?_
      rw [okN hN, nc_T (cell M' f), if_neg (by omega)]
      refine L15 0 (by decide) hw.1 M' f (fun t t0 t1 => by rw [h0 t t0 t1]; exact B16_0) fun t i t0 t1 i0 i1 => ?_
      rw [h0 t t0 t1]
      exact ⟨fun z => absurd z hb_0, fun ⟨v, v0, v1, _⟩ => by omega⟩
    · refine b_X6_close_2 ?_
      rw [okN hN, nc_T (cell M' f), if_pos (by omega), ok274, rc274_1 hc, ak337, iadd_of (by omega) (by omega)]
      refine ⟨u0, by omega, ih _ (fun q hq => by rw [stm_ne hq, f q hq]) fun t t0 t1 => ?_⟩
      by_cases ht : t = u
      · rw [ht, stm_hit]
      · rw [stm_neq (by omega)]; exact h0 t t0 (by omega)
  exact L2 0 (by decide) (by omega) M (fun _ _ => rfl) fun t t0 t1 => by omega
end
