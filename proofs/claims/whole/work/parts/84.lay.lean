/-! PATHS: the reference's table, and the ops -/
theorem ladd_of {x y : Int} (h1 : -9223372036854775808 ≤ x + y) (h2 : x + y < 9223372036854775808) : ladd x y = x + y := ti64 ⟨h1, h2⟩
theorem lcmp_pos {x y : Int} : (0 < lcmp x y) ↔ y < x := by
  unfold lcmp
  split
  · omega
  · split <;> omega
section
variable {d c : Nat} {R M : MEM} {n s t b x y z : Int} {N : NTW} {Q : RES}
theorem pth_0 (hW : WN N) : pth N 0 s t = if s = t then 1 else 0 := by
  rw [← psF_end hW (by decide)]
  unfold psF
  rw [sm_0 (f := fun w => if N 7 w = t ∧ N 8 w ≤ 0 then pth N (0 - N 8 w) s (N 6 w) else 0) _ fun w w0 w1 => by
    have := wn_W hW
    have := wn_wb hW w w0 (by omega)
    exact if_neg (by omega)]
  by_cases h : s = t
  · rw [if_pos ⟨rfl, h⟩, if_pos h]; rfl
  · rw [if_neg fun z => h z.2, if_neg h]; rfl
theorem psF_0 {p : Int} (h : p ≠ 0) : psF N p s t 0 = 0 := by
  unfold psF
  rw [if_neg fun z => h z.1]
  rfl
theorem m_lay (hR : RM R) (hM : NM M b N) (hW : WN N) (hb : ∀ w : Int, 0 ≤ w → w < 16 → M 378 (16 * b + w) = N 8 w) (s0 : 0 ≤ s) (s1 : s < N 0 0) (hq : ∀ M', (∀ q, q ≠ 401 → M' q = M q) → (∀ u t, 0 ≤ u → u ≤ 60 → 0 ≤ t → t < N 0 0 → M' 401 (10 * u + t) = mn9 (pth N u s t)) → Q 0 SHX R M') : Mw (d + 1) 251 [vr 364, vi s] SHX R M 0 0 Q := by
  have hT := wn_T hW
  have hw := wn_W hW
  have b0 := nm_b0 hM
  have b1 := nm_b1 hM
  refine Mw_of mok251 rfl fun _ _ => b_X12_layPaths_0 ?_
  have cell : ∀ M' : MEM, (∀ q, q ≠ 401 → M' q = M q) → NM M' b N := fun M' f => NM_of hM (by rw [f _ (by decide)]) (fun q q0 q1 => f q (by omega)) (f _ (by decide))
  have L19 : ∀ p : Int, 1 ≤ p → p ≤ 61 → ∀ M', (∀ q, q ≠ 401 → M' q = M q) → (∀ u t, 0 ≤ u → u < p → 0 ≤ t → t < N 0 0 → M' 401 (10 * u + t) = mn9 (pth N u s t)) → (∀ i, 10 * p ≤ i → i < 610 → M' 401 i = 0) → Go (d + 1) 251 Q 19 [vr 364, vn, vi p, vn, vn, vn, vn, vn] [] SHX R M' 0 0 := by
    have key : ∀ p : Int, 0 ≤ p → p ≤ 60 → ∀ M', (∀ q, q ≠ 401 → M' q = M q) → (∀ u t, 0 ≤ u → u < p + 1 → 0 ≤ t → t < N 0 0 → M' 401 (10 * u + t) = mn9 (pth N u s t)) → (∀ i, 10 * (p + 1) ≤ i → i < 610 → M' 401 i = 0) → Go (d + 1) 251 Q 19 [vr 364, vn, vi (p + 1), vn, vn, vn, vn, vn] [] SHX R M' 0 0 := by
      refine upto (fun M' f h _ => ?_) fun p0 q0 q1 ih M' f h g => ?_
      · refine b_X12_layPaths_19 ?_
        rw [if_pos (by decide)]
        exact hq M' f fun u t u0 u1 t0 t1 => h u t u0 (by omega) t0 t1
      · refine b_X12_layPaths_19 ?_
        rw [if_neg (by omega)]
        obtain ⟨p, hp⟩ : ∃ p, p = p0 + 1 := ⟨_, rfl⟩
        rw [← hp] at h g ih ⊢
        have L24 : ∀ w : Int, 0 ≤ w → w ≤ N 0 2 → ∀ M', (∀ q, q ≠ 401 → M' q = M q) → (∀ u t, 0 ≤ u → u < p → 0 ≤ t → t < N 0 0 → M' 401 (10 * u + t) = mn9 (pth N u s t)) → (∀ t, 0 ≤ t → t < N 0 0 → M' 401 (10 * p + t) = mn9 (psF N p s t w)) → (∀ i, 10 * (p + 1) ≤ i → i < 610 → M' 401 i = 0) → Go (d + 1) 251 Q 24 [vr 364, vn, vi p, vi w, vn, vn, vn, vn] [] SHX R M' 0 0 := by
          refine upto (fun M' f h g1 g => ?_) fun w w0 w1 ih2 M' f h g1 g => ?_
          · refine b_X12_layPaths_24 ?_
            have hM' := cell M' f
            rw [ok364]
            refine w_wayMany (d := d) hR (nm_b hM') b0 b1 ?_
            rw [nm_W hM', if_neg (by omega), iadd_of (by omega) (by omega)]
            refine ih M' f (fun u t u0 u1 t0 t1 => ?_) g
            by_cases hu : u = p
            · rw [hu, g1 t t0 t1, psF_end hW (by omega)]
            · exact h u t u0 (by omega) t0 t1
          · have wf := wn_wf hW w w0 w1
            have wt := wn_wt hW w w0 w1
            have wb := wn_wb hW w w0 w1
            have hM' := cell M' f
            refine b_X12_layPaths_24 ?_
            rw [ok364]
            refine w_wayMany (d := d) hR (nm_b hM') b0 b1 ?_
            rw [nm_W hM', if_pos w1, ok364]
            refine Mw_of mok243 rfl fun _ _ => b_X12_told_0 ?_
            have e8 : M' 378 (16 * b + w) = N 8 w := by rw [f _ (by decide)]; exact hb w w0 (by omega)
            simp (disch := omega) only [ok364, fr22 hR, ak378, nm_b hM', imul_of, iadd_of, isub_of, e8]
            refine ⟨by omega, by omega, ?_⟩
            by_cases hlt : p - N 8 w < 0
            · rw [if_pos hlt]
              refine ih2 M' f h (fun t t0 t1 => ?_) g
              rw [g1 t t0 t1, psF_step w0, if_neg (by omega), Int.add_zero]
            · have e1 := h (p - N 8 w) (N 6 w) (by omega) (by omega) wf.1 wf.2
              have e2 := g1 (N 7 w) wt.1 wt.2
              have p1 := mn9_b (psF_nn (N := N) p s (N 7 w) w)
              have p2 := mn9_b (pth_nn (N := N) (p - N 8 w) s (N 6 w))
              rw [if_neg hlt]
              simp (disch := omega) only [ok364, fr20 hR, fr21 hR, fr57 hR, ak376, ak377, ak401, nm_b hM', imul_of, iadd_of, nm6 hM', nm7 hM', e1, e2]
              rw [ladd_of (by omega) (by omega), w32_of (by omega) (by omega)]
              have nx : Go (d + 1) 251 Q 24 [vr 364, vn, vi p, vi (w + 1), vn, vn, vn, vn] [] SHX R (stm M' 401 (10 * p + N 7 w) (mn9 (mn9 (psF N p s (N 7 w) w) + mn9 (pth N (p - N 8 w) s (N 6 w))))) 0 0 := by
                refine ih2 _ (fun q hq => by rw [stm_ne hq, f q hq]) (fun u t u0 u1 t0 t1 => by rw [stm_neq (by omega), h u t u0 u1 t0 t1]) (fun t t0 t1 => ?_) fun i i0 i1 => by rw [stm_neq (by omega), g i i0 i1]
                rw [psF_step w0]
                by_cases ht : t = N 7 w
                · rw [ht, stm_hit, if_pos ⟨rfl, by omega⟩, mn9_add (psF_nn _ _ _ _) (pth_nn _ _ _)]
                · rw [stm_neq (by omega), g1 t t0 t1, if_neg (by omega), Int.add_zero]
              refine ⟨by omega, by omega, by omega, by omega, by omega, by omega, by omega, by omega, ?_⟩
              by_cases hbig : 0 < lcmp (mn9 (psF N p s (N 7 w) w) + mn9 (pth N (p - N 8 w) s (N 6 w))) 1000000000
              · rw [if_pos hbig]
                rw [show mn9 (mn9 (psF N p s (N 7 w) w) + mn9 (pth N (p - N 8 w) s (N 6 w))) = 1000000000 from if_pos (lcmp_pos.1 hbig)] at nx
                exact ⟨by omega, by omega, nx⟩
              · rw [if_neg hbig]
                rw [show mn9 (mn9 (psF N p s (N 7 w) w) + mn9 (pth N (p - N 8 w) s (N 6 w))) = _ from if_neg fun z => hbig (lcmp_pos.2 z)] at nx
                exact ⟨by omega, by omega, nx⟩
        exact L24 0 (by decide) hw.1 M' f h (fun t t0 t1 => by rw [psF_0 (by omega)]; exact g _ (by omega) (by omega)) fun i i0 i1 => g i (by omega) i1
    intro p p0 p1 M' f h g
    have := key (p - 1) (by omega) (by omega) M' f (fun u t u0 u1 => h u t u0 (by omega)) (fun i i0 i1 => g i (by omega) i1)
    rw [show p - 1 + 1 = p by omega] at this
    exact this
  have L2 : ∀ j : Int, 0 ≤ j → j ≤ 610 → ∀ M', (∀ q, q ≠ 401 → M' q = M q) → (∀ i, 0 ≤ i → i < j → M' 401 i = 0) → Go (d + 1) 251 Q 2 [vr 364, vi s, vi j, vn, vn, vn, vn, vn] [] SHX R M' 0 0 := by
    refine upto (fun M' f h => ?_) fun j j0 j1 ih M' f h => ?_
    · refine b_X12_layPaths_2 ?_
      rw [if_neg (by decide), ok364, fr57 hR, ak401]
      refine ⟨s0, by omega, L19 1 (by decide) (by decide) _ (fun q hq => by rw [stm_ne hq, f q hq]) (fun u t u0 u1 t0 t1 => ?_) fun i i0 i1 => by rw [stm_neq (by omega), h i (by omega) i1]⟩
      rw [show u = 0 by omega, pth_0 hW, show 10 * 0 + t = t by omega]
      by_cases ht : s = t
      · rw [if_pos ht, ← ht, stm_hit]; rfl
      · rw [if_neg ht, stm_neq (by omega), h t t0 (by omega)]; rfl
    · refine b_X12_layPaths_2 ?_
      rw [if_pos j1, ok364, fr57 hR, ak401, iadd_of (by omega) (by omega)]
      refine ⟨j0, j1, ih _ (fun q hq => by rw [stm_ne hq, f q hq]) fun i i0 i1 => ?_⟩
      by_cases hi : i = j
      · rw [hi, stm_hit]
      · rw [stm_neq (by omega), h i i0 (by omega)]
  exact L2 0 (by decide) (by decide) M (fun _ _ => rfl) fun i i0 i1 => by omega
end
