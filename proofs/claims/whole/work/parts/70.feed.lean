/-! FEED: bytes -/
theorem iand_255 (z : Int) : iand z 255 = z % 256 := by
  show BitVec.toInt (Int32.toBitVec (Int32.ofInt z &&& Int32.ofInt 255)) = _
  rw [Int32.toBitVec_and]
  have e : ((Int32.ofInt z).toBitVec &&& (Int32.ofInt 255).toBitVec).toNat = (z % 256).toNat := by
    rw [BitVec.toNat_and]
    have e1 : (Int32.ofInt z).toBitVec.toNat = (z % 4294967296).toNat := by
      show (BitVec.ofInt 32 z).toNat = _
      rw [BitVec.toNat_ofInt]; rfl
    have e2 : (Int32.ofInt 255).toBitVec.toNat = 255 := by decide
    rw [e1, e2, show (255 : Nat) = 2 ^ 8 - 1 from rfl, Nat.and_two_pow_sub_one_eq_mod]
    omega
  rw [BitVec.toInt_eq_toNat_of_lt (by rw [e]; omega), e]
  omega
theorem bp_b (x : Int32) : x.toInt8.toInt32 &&& 255 = x &&& 255 := by
  apply Int32.toBitVec_inj.mp
  rw [Int32.toBitVec_and, Int32.toBitVec_and, Int8.toBitVec_toInt32, Int32.toBitVec_toInt8]
  apply BitVec.eq_of_getLsbD_eq
  intro i hi
  rw [BitVec.getLsbD_and, BitVec.getLsbD_and]
  have hm : ∀ i < 32, 8 ≤ i → (255 : Int32).toBitVec.getLsbD i = false := by decide
  rcases Nat.lt_or_ge i 8 with z | z
  · rw [BitVec.getLsbD_signExtend, BitVec.getLsbD_signExtend, if_pos z, if_pos hi]
    simp only [z, hi, decide_true, Bool.true_and]
  · rw [hm i hi z]; simp
theorem iand_w8 (z : Int) : iand (w8 z) 255 = iand z 255 := by
  unfold iand w8
  rw [oi32]
  exact congrArg Int32.toInt (bp_b (Int32.ofInt z))
section
variable {d c : Nat} {R M : MEM} {b n v : Int} {N : NTW} {Q : RES}
theorem c_put (hC : RC R) (hn : M 27 1 = n) (n0 : 0 ≤ n) (n1 : n + 4 ≤ 1600) (hq : ∀ M', M' 27 1 = n + 4 → (∀ i, i < n ∨ n + 4 ≤ i → M' 28 i = M 28 i) → (∀ k, 0 ≤ k → k < 4 → M' 28 (n + k) = iand (ishr v (24 - 8 * k)) 255) → (∀ q j, q ≠ 28 → ¬ (q = 27 ∧ j = 1) → M' q j = M q j) → Q 0 SHX R M') : Mw d 82 [vr 27, vi v] SHX R M 0 0 Q := by
  refine Mw_of mok82 rfl fun _ _ => b_X9_put_0 ?_
  have key : ∀ j, 0 ≤ j → j ≤ 4 → ∀ M', M' 27 1 = n + j → (∀ i, i < n ∨ n + j ≤ i → M' 28 i = M 28 i) → (∀ k, 0 ≤ k → k < j → M' 28 (n + k) = iand (ishr v (24 - 8 * k)) 255) → (∀ q j, q ≠ 28 → ¬ (q = 27 ∧ j = 1) → M' q j = M q j) → Go d 82 Q 2 [vr 27, vi v, vi (24 - 8 * j)] [] SHX R M' 0 0 := by
    refine upto (fun M' h1 h2 h3 h4 => ?_) fun j j0 j1 ih M' h1 h2 h3 h4 => ?_
    · refine b_X9_put_2 ?_
      rw [if_pos (by decide)]
      exact hq M' h1 h2 h3 h4
    · refine b_X9_put_2 ?_
      rw [if_neg (by omega), ok27, h1, if_pos (by omega)]
      simp (disch := omega) only [ok27, rc27_0 hC, ak28, stm_neq, h1, iadd_of]
      refine ⟨by omega, by omega, ?_⟩
      rw [show (24 - 8 * j + -8 : Int) = 24 - 8 * (j + 1) by omega]
      refine ih _ (by rw [stm_hit]; omega) (fun i hi => ?_) (fun k k0 k1 => ?_) fun q i hq1 hq2 => ?_
      · rw [stm_neq (by omega), stm_neq (by omega)]
        exact h2 i (by omega)
      · rw [stm_neq (by omega)]
        by_cases hk : k = j
        · rw [hk, stm_hit]
        · rw [stm_neq (by omega)]
          exact h3 k k0 (by omega)
      · rw [stm_neq (by omega), stm_neq (by omega)]
        exact h4 q i hq1 hq2
  exact key 0 (by decide) (by decide) M (by omega) (fun _ _ => rfl) (fun k k0 k1 => by omega) (fun _ _ _ _ => rfl)
/-- the five numbers -/
def fvv (a0 a1 a2 a3 a4 k : Int) : Int := if k < 4 then a0 else if k < 8 then a1 else if k < 12 then a2 else if k < 16 then a3 else a4
theorem and3 : ∀ k : Fin 20, iand ((k.val : Nat) : Int) 3 = ((k.val : Nat) : Int) % 4 := by decide +kernel
theorem and3' {k : Int} (h0 : 0 ≤ k) (h1 : k < 20) : iand k 3 = k % 4 := by
  have := and3 ⟨k.toNat, by omega⟩
  simp only [Int.toNat_of_nonneg h0] at this
  exact this
theorem m_feed {a0 a1 a2 a3 a4 : Int} (hR : RM R) (hn : M 364 2 = n) (n0 : 0 ≤ n) (n1 : n + 20 ≤ 1600) (hq : ∀ M', M' 364 2 = n + 20 → (∀ i, i < n ∨ n + 20 ≤ i → M' 365 i = M 365 i) → (∀ k, 0 ≤ k → k < 20 → M' 365 (n + k) = w8 (w8 (ishr (fvv a0 a1 a2 a3 a4 k) (24 - 8 * (k % 4))))) → (∀ q j, q ≠ 365 → ¬ (q = 364 ∧ j = 2) → M' q j = M q j) → Q (n + 20) SHX R M') : Mw d 275 [vr 364, vi a0, vi a1, vi a2, vi a3, vi a4] SHX R M 0 0 Q := by
  refine Mw_of mok275 rfl fun _ _ => b_X12_feed_0 ?_
  rw [ok364, hn, iadd_of (by omega) (by omega), if_neg (by omega)]
  have key : ∀ j, 0 ≤ j → j ≤ 20 → ∀ M', M' 364 2 = n → (∀ i, i < n ∨ n + j ≤ i → M' 365 i = M 365 i) → (∀ k, 0 ≤ k → k < j → M' 365 (n + k) = w8 (w8 (ishr (fvv a0 a1 a2 a3 a4 k) (24 - 8 * (k % 4))))) → (∀ q j, q ≠ 365 → ¬ (q = 364 ∧ j = 2) → M' q j = M q j) → Go d 275 Q 10 [vr 364, vi a0, vi a1, vi a2, vi a3, vi a4, vi j, vn] [] SHX R M' 0 0 := by
    refine upto (fun M' h1 h2 h3 h4 => ?_) fun j j0 j1 ih M' h1 h2 h3 h4 => ?_
    · refine b_X12_feed_10 ?_
      rw [if_neg (by decide)]
      simp (disch := omega) only [ok364, stm_hit, h1, iadd_of]
      refine hq _ (stm_hit _ _ _ _) (fun i hi => ?_) (fun k k0 k1 => ?_) fun q i hq1 hq2 => ?_
      · rw [stm_neq (by omega)]; exact h2 i hi
      · rw [stm_neq (by omega)]; exact h3 k k0 k1
      · rw [stm_neq (by omega)]; exact h4 q i hq1 hq2
    · have go : ∀ x, x = fvv a0 a1 a2 a3 a4 j → Go d 275 Q 10 [vr 364, vi a0, vi a1, vi a2, vi a3, vi a4, vi (j + 1), vn] [] SHX R (stm M' 365 (n + j) (w8 (w8 (ishr x (24 - 8 * (j % 4)))))) 0 0 := by
        intro x hx
        refine ih _ (by rw [stm_neq (by omega)]; exact h1) (fun i hi => ?_) (fun k k0 k1 => ?_) fun q i hq1 hq2 => ?_
        · rw [stm_neq (by omega)]; exact h2 i (by omega)
        · by_cases hk : k = j
          · rw [hk, stm_hit, hx]
          · rw [stm_neq (by omega)]; exact h3 k k0 (by omega)
        · rw [stm_neq (by omega)]; exact h4 q i hq1 hq2
      refine b_X12_feed_10 ?_
      rw [if_pos (by omega), and3' j0 (by omega), h1]
      simp (disch := omega) only [ok364, fr0 hR, ak365, iadd_of, isub_of, imul_of]
      unfold fvv at go
      split
      · exact ⟨by omega, by omega, go _ (by rw [if_pos (by omega)])⟩
      · rename_i g0
        rw [if_neg g0] at go
        split
        · exact ⟨by omega, by omega, go _ (by rw [if_pos (by omega)])⟩
        · rename_i g1
          rw [if_neg g1] at go
          split
          · exact ⟨by omega, by omega, go _ (by rw [if_pos (by omega)])⟩
          · rename_i g2
            rw [if_neg g2] at go
            split
            · exact ⟨by omega, by omega, go _ (by rw [if_pos (by omega)])⟩
            · rename_i g3
              rw [if_neg g3] at go
              exact ⟨by omega, by omega, go _ rfl⟩
  exact key 0 (by decide) (by decide) M hn (fun _ _ => rfl) (fun k k0 k1 => by omega) (fun _ _ _ _ => rfl)
theorem p_feed {a0 a1 a2 a3 a4 : Int} (h : INV c R M b N) : PR (d + 1) 105 275 [vi a0, vi a1, vi a2, vi a3, vi a4] R M (Inv (c + 1)) := by
  obtain ⟨hn, hN, hC, hW, hM, hc, hR, b0, b1⟩ := in_net h
  have h' := h
  obtain ⟨hr, ha, ht, hf, hw, hs, hb, hp, hg, hy⟩ := h'
  have t0 := it_0 ht
  refine Mw_of mok105 rfl fun _ _ => b_X11_feed_0 ?_
  rw [ok0, rc0_0 hc, ok27, it_n ht]
  by_cases h0 : 1580 < M 364 2
  · rw [if_pos h0]
    refine ⟨rfl, Mw_of mok275 rfl fun _ _ => b_X12_feed_0 ?_⟩
    rw [ok364, iadd_of (by omega) (by omega), if_pos (by omega)]
    exact ⟨rfl, rfl, same h⟩
  · rw [if_neg h0, ok0, ok27]
    refine c_put (d := d) hc (it_n ht) (by omega) (by omega) fun M1 k1 l1 m1 f1 => ?_
    rw [ok0, rc0_0 hc, ok27]
    refine c_put (d := d) hc k1 (by omega) (by omega) fun M2 k2 l2 m2 f2 => ?_
    rw [ok0, rc0_0 hc, ok27]
    refine c_put (d := d) hc k2 (by omega) (by omega) fun M3 k3 l3 m3 f3 => ?_
    rw [ok0, rc0_0 hc, ok27]
    refine c_put (d := d) hc k3 (by omega) (by omega) fun M4 k4 l4 m4 f4 => ?_
    rw [ok0, rc0_0 hc, ok27]
    refine c_put (d := d) hc k4 (by omega) (by omega) fun M5 k5 l5 m5 f5 => ?_
    have F : ∀ q j, q ≠ 28 → ¬ (q = 27 ∧ j = 1) → M5 q j = M q j := fun q j u w => by rw [f5 q j u w, f4 q j u w, f3 q j u w, f2 q j u w, f1 q j u w]
    have B0 : ∀ i, i < M 364 2 → M5 28 i = M 28 i := fun i hi => by rw [l5 i (by omega), l4 i (by omega), l3 i (by omega), l2 i (by omega), l1 i (by omega)]
    have B1 : ∀ k, 0 ≤ k → k < 20 → M5 28 (M 364 2 + k) = iand (ishr (fvv a0 a1 a2 a3 a4 k) (24 - 8 * (k % 4))) 255 := by
      intro k k0 k1
      unfold fvv
      by_cases g0 : k < 4
      · rw [if_pos g0, l5 _ (by omega), l4 _ (by omega), l3 _ (by omega), l2 _ (by omega), m1 k k0 g0, show k % 4 = k by omega]
      · rw [if_neg g0]
        by_cases g1 : k < 8
        · have := m2 (k - 4) (by omega) (by omega)
          rw [if_pos g1, l5 _ (by omega), l4 _ (by omega), l3 _ (by omega), show M 364 2 + k = M 364 2 + 4 + (k - 4) by omega, this, show k % 4 = k - 4 by omega]
        · rw [if_neg g1]
          by_cases g2 : k < 12
          · have := m3 (k - 8) (by omega) (by omega)
            rw [if_pos g2, l5 _ (by omega), l4 _ (by omega), show M 364 2 + k = M 364 2 + 4 + 4 + (k - 8) by omega, this, show k % 4 = k - 8 by omega]
          · rw [if_neg g2]
            by_cases g3 : k < 16
            · have := m4 (k - 12) (by omega) (by omega)
              rw [if_pos g3, l5 _ (by omega), show M 364 2 + k = M 364 2 + 4 + 4 + 4 + (k - 12) by omega, this, show k % 4 = k - 12 by omega]
            · have := m5 (k - 16) (by omega) (by omega)
              rw [if_neg g3, show M 364 2 + k = M 364 2 + 4 + 4 + 4 + 4 + (k - 16) by omega, this, show k % 4 = k - 16 by omega]
    rw [ok0, rc0_0 hc, ok27, k5]
    refine ⟨rfl, ?_⟩
    have e2 : M5 364 2 = M 364 2 := F _ _ (by decide) (by omega)
    refine m_feed hR e2 (by omega) (by omega) fun M6 k6 l6 m6 f6 => ?_
    have G : ∀ q j, q ≠ 28 → q ≠ 365 → ¬ (q = 27 ∧ j = 1) → ¬ (q = 364 ∧ j = 2) → M6 q j = M q j := fun q j u v w z => by rw [f6 q j v z, F q j u w]
    have Gr : ∀ q, q ≠ 28 → q ≠ 365 → q ≠ 27 → q ≠ 364 → M6 q = M q := fun q u v w z => funext fun j => G q j u v (by omega) (by omega)
    have e28 : ∀ i, M6 28 i = M5 28 i := fun i => f6 28 i (by decide) (by omega)
    have ht' : IT M6 := by
      refine ⟨by rw [k6]; omega, by rw [f6 27 1 (by decide) (by decide), k5, k6]; omega, fun i i0 i1 => ?_, fun i hi => ?_⟩
      · rw [k6] at i1
        rw [e28]
        by_cases hi : i < M 364 2
        · rw [B0 i hi, l6 i (by omega), F 365 i (by decide) (by omega)]
          exact it_b ht i i0 hi
        · have u1 := B1 (i - M 364 2) (by omega) (by omega)
          have u2 := m6 (i - M 364 2) (by omega) (by omega)
          rw [show M 364 2 + (i - M 364 2) = i by omega] at u1 u2
          rw [u2, iand_w8, iand_w8, u1]
          refine ⟨?_, ?_, rfl⟩ <;> rw [iand_255] <;> omega
      · rw [Gr 29 (by decide) (by decide) (by decide) (by decide)]
        exact it_k ht i hi
    refine ⟨rfl, by omega, b, N, ⟨hr, IA_of ha (G _ _ (by omega) (by omega) (by omega) (by omega)) (fun q _ _ _ => Gr _ (by omega) (by omega) (by omega) (by omega)) (fun q _ _ => Gr _ (by omega) (by omega) (by omega) (by omega)) (Gr _ (by omega) (by omega) (by omega) (by omega)) (Gr _ (by omega) (by omega) (by omega) (by omega)) (Gr _ (by omega) (by omega) (by omega) (by omega)), ht', IF_of hf (G _ _ (by omega) (by omega) (by omega) (by omega)) (G _ _ (by omega) (by omega) (by omega) (by omega)) (G _ _ (by omega) (by omega) (by omega) (by omega)) (G _ _ (by omega) (by omega) (by omega) (by omega)) (G _ _ (by omega) (by omega) (by omega) (by omega)) (le_eqr (G _ _ (by omega) (by omega) (by omega) (by omega)) (if_s hf)), IW_of hw (fun i _ _ => G _ _ (by omega) (by omega) (by omega) (by omega)) (fun i _ _ => G _ _ (by omega) (by omega) (by omega) (by omega)), IS_of hs (Nat.le_succ c) (fun j _ _ => G _ _ (by omega) (by omega) (by omega) (by omega)) (fun q _ _ => Gr _ (by omega) (by omega) (by omega) (by omega)) (G _ _ (by omega) (by omega) (by omega) (by omega)) (G _ _ (by omega) (by omega) (by omega) (by omega)) (fun i _ _ => G _ _ (by omega) (by omega) (by omega) (by omega)) (Gr _ (by omega) (by omega) (by omega) (by omega)), IB_of hb (Nat.le_succ c) (Gr _ (by omega) (by omega) (by omega) (by omega)) (fun q _ _ => Gr _ (by omega) (by omega) (by omega) (by omega)) (Gr _ (by omega) (by omega) (by omega) (by omega)) (Gr _ (by omega) (by omega) (by omega) (by omega)), IP_of hp (G _ _ (by omega) (by omega) (by omega) (by omega)) (G _ _ (by omega) (by omega) (by omega) (by omega)) (Gr _ (by omega) (by omega) (by omega) (by omega)) (Gr _ (by omega) (by omega) (by omega) (by omega)) (Gr _ (by omega) (by omega) (by omega) (by omega)) (Gr _ (by omega) (by omega) (by omega) (by omega)), IG_of hg (G _ _ (by omega) (by omega) (by omega) (by omega)) (G _ _ (by omega) (by omega) (by omega) (by omega)) (G _ _ (by omega) (by omega) (by omega) (by omega)) (G _ _ (by omega) (by omega) (by omega) (by omega)) (fun q _ _ => Gr _ (by omega) (by omega) (by omega) (by omega)) (fun q _ _ => Gr _ (by omega) (by omega) (by omega) (by omega)), IY_of hy (G _ _ (by omega) (by omega) (by omega) (by omega)) (G _ _ (by omega) (by omega) (by omega) (by omega)) (Gr _ (by omega) (by omega) (by omega) (by omega)) (fun i _ => G _ _ (by omega) (by omega) (by omega) (by omega))⟩⟩
end
