/-! IMAGES -/
section
variable {d c : Nat} {R M : MEM} {b n v x y z : Int} {N : NTW} {Q : RES}
theorem c_copy0 {a a2 : Int} {S : SK} (hS : SR R a) (hS2 : SR R a2) (hd : a2 + 5 ≤ a ∨ a + 5 ≤ a2) (hB : SKY 0 (blk M a2) S) (hq : ∀ A', SKY 0 A' S → Q 0 SHX R (CS M a A')) : Mw d 68 [vr a, vr a2] SHX R M 0 0 Q := by
  have e : CS M a (blk M a) = M := CS_self _ _
  have := c_copy (d := d) (Q := Q) (A := blk M a) (M := M) hS hS2 hd hB hq
  rw [e] at this
  exact this
theorem m_image9 (hR : RM R) (x0 : 0 ≤ x) (x1 : x < 3) (hq : ∀ M', (∀ i, 0 ≤ i → i < 218 → M' 413 (218 * x + i) = M 392 i) → (∀ i, i < 218 * x ∨ 218 * x + 218 ≤ i → M' 413 i = M 413 i) → M' 414 x = 1 → (∀ q j, q ≠ 413 → ¬ (q = 414 ∧ j = x) → M' q j = M q j) → Q (M 392 216) SHX R M') : Go d 272 Q 9 [vr 364, vi x, vi 0] [] SHX R M 0 0 := by
  have key : ∀ j, 0 ≤ j → j ≤ 218 → ∀ M', (∀ i, 0 ≤ i → i < j → M' 413 (218 * x + i) = M 392 i) → (∀ i, i < 218 * x ∨ 218 * x + j ≤ i → M' 413 i = M 413 i) → (∀ q, q ≠ 413 → M' q = M q) → Go d 272 Q 9 [vr 364, vi x, vi j] [] SHX R M' 0 0 := by
    refine upto (fun M' h1 h2 h3 => ?_) fun j j0 j1 ih M' h1 h2 h3 => ?_
    · refine b_X12_image_9 ?_
      rw [if_neg (by decide)]
      simp (disch := omega) only [ok364, fr42 hR, fr73 hR, ak414, ak392, stm_neq, h3 392 (by decide)]
      refine ⟨x0, x1, by decide, by decide, hq _ (fun i i0 i1 => ?_) (fun i hi => ?_) (stm_hit _ _ _ _) fun q i hq1 hq2 => ?_⟩
      · rw [stm_neq (by omega)]; exact h1 i i0 i1
      · rw [stm_neq (by omega)]; exact h2 i hi
      · rw [stm_neq (by omega), h3 q hq1]
    · refine b_X12_image_9 ?_
      rw [if_pos j1]
      simp (disch := omega) only [ok364, fr42 hR, fr72 hR, ak413, ak392, imul_of, iadd_of, h3 392 (by decide)]
      refine ⟨j0, j1, by omega, by omega, ih _ (fun i i0 i1 => ?_) (fun i hi => ?_) fun q hq1 => ?_⟩
      · by_cases hi : i = j
        · rw [hi, stm_hit]
        · rw [stm_neq (by omega)]; exact h1 i i0 (by omega)
      · rw [stm_neq (by omega)]; exact h2 i (by omega)
      · rw [stm_ne (by omega)]; exact h3 q hq1
  exact key 0 (by decide) (by decide) M (fun i i0 i1 => by omega) (fun _ _ => rfl) (fun _ _ => rfl)
theorem m_back14 (hR : RM R) (x0 : 0 ≤ x) (x1 : x < 3) (hq : ∀ M', (∀ i, 0 ≤ i → i < 218 → M' 392 i = M 413 (218 * x + i)) → M' 364 51 = 0 → M' 364 52 = 0 → (∀ q j, q ≠ 392 → ¬ (q = 364 ∧ (j = 51 ∨ j = 52)) → M' q j = M q j) → Q (M 413 (218 * x + 216)) SHX R M') : Go d 273 Q 14 [vr 364, vi x, vi 0] [] SHX R M 0 0 := by
  have key : ∀ j, 0 ≤ j → j ≤ 218 → ∀ M', (∀ i, 0 ≤ i → i < j → M' 392 i = M 413 (218 * x + i)) → (∀ q, q ≠ 392 → M' q = M q) → Go d 273 Q 14 [vr 364, vi x, vi j] [] SHX R M' 0 0 := by
    refine upto (fun M' h1 h3 => ?_) fun j j0 j1 ih M' h1 h3 => ?_
    · refine b_X12_back_14 ?_
      rw [if_neg (by decide)]
      simp (disch := omega) only [ok364, fr42 hR, ak392, stm_neq, h1 216 (by decide) (by decide)]
      refine ⟨by decide, by decide, hq _ (fun i i0 i1 => ?_) ?_ (stm_hit _ _ _ _) fun q i hq1 hq2 => ?_⟩
      · rw [stm_neq (by omega), stm_neq (by omega)]; exact h1 i i0 i1
      · rw [stm_neq (by omega), stm_hit]
      · rw [stm_neq (by omega), stm_neq (by omega), h3 q hq1]
    · refine b_X12_back_14 ?_
      rw [if_pos j1]
      simp (disch := omega) only [ok364, fr42 hR, fr72 hR, ak413, ak392, imul_of, iadd_of, h3 413 (by decide)]
      refine ⟨by omega, by omega, j0, j1, ih _ (fun i i0 i1 => ?_) fun q hq1 => ?_⟩
      · by_cases hi : i = j
        · rw [hi, stm_hit]
        · rw [stm_neq (by omega)]; exact h1 i i0 (by omega)
      · rw [stm_ne (by omega)]; exact h3 q hq1
  exact key 0 (by decide) (by decide) M (fun i i0 i1 => by omega) (fun _ _ => rfl)
theorem p_image (h : INV c R M b N) : PR (d + 1) 141 272 [vi x] R M (Inv (c + 1)) := by
  obtain ⟨hn, hN, hC, hW, hM, hc, hR, b0, b1⟩ := in_net h
  obtain ⟨hS, h37, hA, hG, g0, g1⟩ := in_now h
  have h' := h
  obtain ⟨hr, ha, ht, hf, hw, hs, hb, hp, hg, hy⟩ := h'
  refine Mw_of mok141 rfl fun _ _ => b_X11_image_0 ?_
  refine c_isWithin (d := d) (fun h0 h1 _ => ?_) fun h0 _ => ?_
  · have h2 : x < 3 := by omega
    have hS2 := SR243 hc h0 h2
    rw [if_neg (by decide), ok0, rc0_3 hc, ak243, ok0, rc0_2 hc, ok36]
    refine ⟨h0, h2, c_now hc g0 g1 ?_⟩
    rw [sky243 hc h0 h2, okS hS2]
    refine c_copy0 (d := d) hS2 hS (Or.inl (by omega)) hA fun A' hA' => ?_
    rw [ok0, rc0_4 hc, ak259, ok0, rc0_3 hc, ak243, sky243 hc h0 h2, okS hS2, stm_neq (by omega), CS_0, sky_bt hA', cut_at (by decide) (by decide)]
    refine ⟨h0, h2, h0, h2, rfl, Mw_of mok272 rfl fun _ _ => b_X12_image_0 ?_⟩
    refine m_isIn (fun _ _ _ => ?_) fun g _ => absurd ⟨h0, h1⟩ g
    rw [if_neg (by decide)]
    refine m_image9 hR h0 h2 fun M' k1 k2 k3 k4 => ?_
    have C : ∀ q j, q ≠ 413 → ¬ (q = 414 ∧ j = x) → ¬ (q = 259 ∧ j = x) → (q < 244 + 5 * x ∨ 244 + 5 * x + 5 ≤ q) → M' q j = M q j := fun q j u1 u2 u3 u4 => by rw [k4 q j u1 u2, stm_neq u3, CS_ne u4]
    have C' : ∀ q, q ≠ 413 → q ≠ 414 → q ≠ 259 → (q < 244 + 5 * x ∨ 244 + 5 * x + 5 ≤ q) → M' q = M q := fun q u1 u2 u3 u4 => funext fun j => C q j u1 (by omega) (by omega) u4
    have e413 : ∀ i, stm (CS M (244 + 5 * x) A') 259 x 1 413 i = M 413 i := fun i => by rw [stm_neq (by omega), CS_ne (by omega)]
    have e392 : ∀ i, stm (CS M (244 + 5 * x) A') 259 x 1 392 i = M 392 i := fun i => by rw [stm_neq (by omega), CS_ne (by omega)]
    have hb' : IB M' N (c + 1) := fun j j0 j1 => by
      by_cases hj : j = x
      · subst hj
        rw [k3, k4 259 j (by decide) (by omega), stm_hit]
        have ec : cut (fun i => M' 413 (218 * j + i)) = cut (M 392) := by
          funext i
          unfold cut
          split
          · rename_i hi
            exact (k1 i hi.1 hi.2).trans (e392 i)
          · rfl
        rw [ec]
        refine ⟨rfl, Or.inr ⟨rfl, SKY_agree hA' (fun r i r0 r1 => ?_) (fun _ _ _ => rfl), GD_mono hG (by omega)⟩⟩
        show M' _ i = _
        rw [k4 _ i (by omega) (by omega), stm_neq (by omega), CS_k r0 r1]
      · obtain ⟨a1, a2⟩ := ib hb j j0 j1
        have ec : cut (fun i => M' 413 (218 * j + i)) = cut (fun i => M 413 (218 * j + i)) := by
          funext i
          unfold cut
          split
          · rename_i hi
            exact (k2 (218 * j + i) (by omega)).trans (e413 _)
          · rfl
        rw [ec, C 259 j (by decide) (by omega) (by omega) (by omega), C 414 j (by decide) (by omega) (by omega) (by omega)]
        refine ⟨a1, a2.imp id fun a => ⟨a.1, SKY_agree a.2.1 (fun r i r0 r1 => ?_) fun i _ _ => rfl, GD_mono a.2.2 (by omega)⟩⟩
        show M' _ i = M _ i
        rw [C _ i (by omega) (by omega) (by omega) (by omega)]
    exact ⟨rfl, (e392 216).symm, b, N, ⟨hr, IA_of ha (C _ _ (by omega) (by omega) (by omega) (by omega)) (fun q _ _ _ => C' _ (by omega) (by omega) (by omega) (by omega)) (fun q _ _ => C' _ (by omega) (by omega) (by omega) (by omega)) (C' _ (by omega) (by omega) (by omega) (by omega)) (C' _ (by omega) (by omega) (by omega) (by omega)) (C' _ (by omega) (by omega) (by omega) (by omega)), IT_of ht (C _ _ (by omega) (by omega) (by omega) (by omega)) (C _ _ (by omega) (by omega) (by omega) (by omega)) (C' _ (by omega) (by omega) (by omega) (by omega)) (C' _ (by omega) (by omega) (by omega) (by omega)) (C' _ (by omega) (by omega) (by omega) (by omega)), IF_of hf (C _ _ (by omega) (by omega) (by omega) (by omega)) (C _ _ (by omega) (by omega) (by omega) (by omega)) (C _ _ (by omega) (by omega) (by omega) (by omega)) (C _ _ (by omega) (by omega) (by omega) (by omega)) (C _ _ (by omega) (by omega) (by omega) (by omega)) (le_eqr (C _ _ (by omega) (by omega) (by omega) (by omega)) (if_s hf)), IW_of hw (fun i _ _ => C _ _ (by omega) (by omega) (by omega) (by omega)) (fun i _ _ => C _ _ (by omega) (by omega) (by omega) (by omega)), IS_of hs (Nat.le_succ c) (fun j _ _ => C _ _ (by omega) (by omega) (by omega) (by omega)) (fun q _ _ => C' _ (by omega) (by omega) (by omega) (by omega)) (C _ _ (by omega) (by omega) (by omega) (by omega)) (C _ _ (by omega) (by omega) (by omega) (by omega)) (fun i _ _ => C _ _ (by omega) (by omega) (by omega) (by omega)) (C' _ (by omega) (by omega) (by omega) (by omega)), hb', IP_of hp (C _ _ (by omega) (by omega) (by omega) (by omega)) (C _ _ (by omega) (by omega) (by omega) (by omega)) (C' _ (by omega) (by omega) (by omega) (by omega)) (C' _ (by omega) (by omega) (by omega) (by omega)) (C' _ (by omega) (by omega) (by omega) (by omega)) (C' _ (by omega) (by omega) (by omega) (by omega)), IG_of hg (C _ _ (by omega) (by omega) (by omega) (by omega)) (C _ _ (by omega) (by omega) (by omega) (by omega)) (C _ _ (by omega) (by omega) (by omega) (by omega)) (C _ _ (by omega) (by omega) (by omega) (by omega)) (fun q _ _ => C' _ (by omega) (by omega) (by omega) (by omega)) (fun q _ _ => C' _ (by omega) (by omega) (by omega) (by omega)), IY_of hy (C _ _ (by omega) (by omega) (by omega) (by omega)) (C _ _ (by omega) (by omega) (by omega) (by omega)) (C' _ (by omega) (by omega) (by omega) (by omega)) (fun i _ => C _ _ (by omega) (by omega) (by omega) (by omega))⟩⟩
  · rw [if_pos rfl]
    refine ⟨rfl, Mw_of mok272 rfl fun _ _ => b_X12_image_0 ?_⟩
    refine m_isIn (fun k0 k1 _ => absurd ⟨k0, k1⟩ h0) fun g _ => ?_
    rw [if_pos rfl]
    exact ⟨rfl, rfl, same h⟩
theorem p_back (h : INV c R M b N) : PR (d + 2) 142 273 [vi x] R M (Inv (c + 1)) := by
  obtain ⟨hn, hN, hC, hW, hM, hc, hR, b0, b1⟩ := in_net h
  obtain ⟨hS, h37, hA, hG, g0, g1⟩ := in_now h
  have h' := h
  obtain ⟨hr, ha, ht, hf, hw, hs, hb, hp, hg, hy⟩ := h'
  refine Mw_of mok142 rfl fun _ _ => b_X11_back_0 ?_
  refine c_isWithin (d := d + 1) (fun h0 h1 _ => ?_) fun h0 _ => ?_
  · have h2 : x < 3 := by omega
    have hS2 := SR243 hc h0 h2
    obtain ⟨a1, a2⟩ := ib hb x h0 h2
    rw [if_neg (by decide), ok0, rc0_4 hc, ak259]
    refine ⟨h0, h2, ?_⟩
    by_cases hz : M 259 x = 0
    · rw [if_pos hz]
      refine ⟨rfl, Mw_of mok273 rfl fun _ _ => b_X12_back_0 ?_⟩
      refine m_isIn (fun _ _ _ => ?_) fun g _ => absurd ⟨h0, h1⟩ g
      rw [if_neg (by decide), ok364, fr73 hR, ak414, if_pos (by omega)]
      exact ⟨h0, h2, rfl, rfl, same h⟩
    · have hz2 : M 414 x = 1 := by omega
      obtain ⟨s1, s2, s3⟩ := a2.resolve_left (by omega)
      rw [if_neg hz, ok0, ok0, rc0_3 hc, ak243, rc0_2 hc, ok36]
      refine ⟨h0, h2, Mw_of mok6 rfl fun _ _ => b_X0_restartFrom_0 ?_⟩
      rw [ok36, ok36, rc36_0 hc, ak37, h37, okS hS, sky243 hc h0 h2]
      refine ⟨g0, by omega, ?_⟩
      refine c_copy0 (d := d) hS hS2 (Or.inr (by omega)) s2 fun A' hA' => ?_
      rw [ok36, ok36, ok0, rc0_3 hc, ak243, sky243 hc h0 h2, okS hS2, stm_neq (by omega), stm_neq (by omega), CS_ne (by omega)]
      have e10 : M (244 + 5 * x) 10 = M 413 (218 * x + 216) := by
        have := sky_bt s2
        rw [cut_at (by decide) (by decide)] at this
        rw [← this]
        show _ = M (_ + 0) 10
        rw [Int.add_zero]
      refine ⟨h0, h2, rfl, Mw_of mok273 rfl fun _ _ => b_X12_back_0 ?_⟩
      refine m_isIn (fun _ _ _ => ?_) fun g _ => absurd ⟨h0, h1⟩ g
      rw [if_neg (by decide), ok364, fr73 hR, ak414, stm_neq (by omega), stm_neq (by omega), CS_ne (by omega), if_neg (by omega)]
      refine ⟨h0, h2, m_back14 hR h0 h2 fun M' k1 k2 k3 k4 => ?_⟩
      have e413 : ∀ i, stm (stm (CS M (38 + 5 * M 36 1) A') 36 2 0) 36 3 0 413 i = M 413 i := fun i => by rw [stm_neq (by omega), stm_neq (by omega), CS_ne (by omega)]
      have C : ∀ q j, q ≠ 392 → ¬ (q = 364 ∧ (j = 51 ∨ j = 52)) → ¬ (q = 36 ∧ (j = 2 ∨ j = 3)) → (q < 38 + 5 * M 36 1 ∨ 38 + 5 * M 36 1 + 5 ≤ q) → M' q j = M q j := fun q j u1 u2 u3 u4 => by rw [k4 q j u1 u2, stm_neq (by omega), stm_neq (by omega), CS_ne u4]
      have C' : ∀ q, q ≠ 392 → q ≠ 364 → q ≠ 36 → (q < 38 + 5 * M 36 1 ∨ 38 + 5 * M 36 1 + 5 ≤ q) → M' q = M q := fun q u1 u2 u3 u4 => funext fun j => C q j u1 (by omega) (by omega) u4
      have eh : M' 36 1 = M 36 1 := C _ _ (by decide) (by omega) (by omega) (by omega)
      have ec : cut (M' 392) = cut (fun i => M 413 (218 * x + i)) := by
        funext i
        unfold cut
        split
        · rename_i hi
          exact (k1 i hi.1 hi.2).trans (e413 _)
        · rfl
      have hs' : IS M' N (c + 1) := by
        refine ⟨by omega, ⟨?_, by omega⟩, ⟨?_, by omega⟩, by omega, fun k q0 q1 => ?_⟩
        · rw [k4 36 2 (by decide) (by omega), stm_neq (by omega), stm_hit, k2]
        · rw [k4 36 3 (by decide) (by omega), stm_hit, k3]
        · have hk : k = 0 := by omega
          rw [hk, stt_0, ec, eh, show (M 36 1 + 0) % 41 = M 36 1 by omega]
          refine ⟨SKY_agree hA' (fun r i r0 r1 => ?_) (fun _ _ _ => rfl), GD_mono s3 (by omega)⟩
          show M' _ i = _
          rw [k4 _ i (by omega) (by omega), stm_neq (by omega), stm_neq (by omega), CS_k r0 r1]
      exact ⟨rfl, by rw [e413, e10], b, N, ⟨hr, IA_of ha (C _ _ (by omega) (by omega) (by omega) (by omega)) (fun q _ _ _ => C' _ (by omega) (by omega) (by omega) (by omega)) (fun q _ _ => C' _ (by omega) (by omega) (by omega) (by omega)) (C' _ (by omega) (by omega) (by omega) (by omega)) (C' _ (by omega) (by omega) (by omega) (by omega)) (C' _ (by omega) (by omega) (by omega) (by omega)), IT_of ht (C _ _ (by omega) (by omega) (by omega) (by omega)) (C _ _ (by omega) (by omega) (by omega) (by omega)) (C' _ (by omega) (by omega) (by omega) (by omega)) (C' _ (by omega) (by omega) (by omega) (by omega)) (C' _ (by omega) (by omega) (by omega) (by omega)), IF_of hf (C _ _ (by omega) (by omega) (by omega) (by omega)) (C _ _ (by omega) (by omega) (by omega) (by omega)) (C _ _ (by omega) (by omega) (by omega) (by omega)) (C _ _ (by omega) (by omega) (by omega) (by omega)) (C _ _ (by omega) (by omega) (by omega) (by omega)) (le_eqr (C _ _ (by omega) (by omega) (by omega) (by omega)) (if_s hf)), IW_of hw (fun i _ _ => C _ _ (by omega) (by omega) (by omega) (by omega)) (fun i _ _ => C _ _ (by omega) (by omega) (by omega) (by omega)), hs', IB_of hb (Nat.le_succ c) (C' _ (by omega) (by omega) (by omega) (by omega)) (fun q _ _ => C' _ (by omega) (by omega) (by omega) (by omega)) (C' _ (by omega) (by omega) (by omega) (by omega)) (C' _ (by omega) (by omega) (by omega) (by omega)), IP_of hp (C _ _ (by omega) (by omega) (by omega) (by omega)) (C _ _ (by omega) (by omega) (by omega) (by omega)) (C' _ (by omega) (by omega) (by omega) (by omega)) (C' _ (by omega) (by omega) (by omega) (by omega)) (C' _ (by omega) (by omega) (by omega) (by omega)) (C' _ (by omega) (by omega) (by omega) (by omega)), IG_of hg (C _ _ (by omega) (by omega) (by omega) (by omega)) (C _ _ (by omega) (by omega) (by omega) (by omega)) (C _ _ (by omega) (by omega) (by omega) (by omega)) (C _ _ (by omega) (by omega) (by omega) (by omega)) (fun q _ _ => C' _ (by omega) (by omega) (by omega) (by omega)) (fun q _ _ => C' _ (by omega) (by omega) (by omega) (by omega)), IY_of hy (C _ _ (by omega) (by omega) (by omega) (by omega)) (C _ _ (by omega) (by omega) (by omega) (by omega)) (C' _ (by omega) (by omega) (by omega) (by omega)) (fun i _ => C _ _ (by omega) (by omega) (by omega) (by omega))⟩⟩
  · rw [if_pos rfl]
    refine ⟨rfl, Mw_of mok273 rfl fun _ _ => b_X12_back_0 ?_⟩
    refine m_isIn (fun k0 k1 _ => absurd ⟨k0, k1⟩ h0) fun g _ => ?_
    rw [if_pos rfl]
    exact ⟨rfl, rfl, same h⟩
end
