/-! OPS: what is told of everything; the tape's end, the row, pairs, sights, the time -/
def abV (M : MEM) (N : NTW) (x : Int) : Int := if x = 0 then N 0 0 else if x = 1 then N 0 1 else if x = 2 then N 0 2 else if x = 3 then N 0 3 else if x = 4 then M 392 216 else if x = 5 then M 392 217 else if x = 6 then M 364 51 else if x = 7 then M 364 52 else if x = 8 then M 364 61 else if x = 9 then M 364 70 else if x = 10 then M 364 71 else if x = 11 then M 364 2 else if x = 12 then N 0 4 else if x = 13 then M 364 55 else -1
section
variable {d c : Nat} {R M : MEM} {b : Int} {N : NTW} {x y z : Int}
theorem m_about {v : Int} (h : INV c R M b N) (hv : v = abV M N x) : Mw (d + 1) 274 [vr 364, vi x] SHX R M 0 0 (fun w sh2 R2 M2 => sh2 = SHX ∧ v = w ∧ Inv (c + 1) R2 M2) := by
  obtain ⟨hn, hN, hC, hW, hM, hc, hR, b0, b1⟩ := in_net h
  refine Mw_of mok274 rfl fun _ _ => b_X12_about_0 ?_
  unfold abV at hv
  by_cases y0 : x = 0
  · rw [if_pos y0] at hv
    rw [if_pos y0, ok364]
    exact w_towerMany (d := d) hR (nm_b hM) b0 b1 ⟨rfl, by rw [hv, nm_T hM], same h⟩
  rw [if_neg y0] at hv
  rw [if_neg y0]
  by_cases y1 : x = 1
  · rw [if_pos y1] at hv
    rw [if_pos y1, ok364]
    exact w_startMany (d := d) hR (nm_b hM) b0 b1 ⟨rfl, by rw [hv, nm_S hM], same h⟩
  rw [if_neg y1] at hv
  rw [if_neg y1]
  by_cases y2 : x = 2
  · rw [if_pos y2] at hv
    rw [if_pos y2, ok364]
    exact w_wayMany (d := d) hR (nm_b hM) b0 b1 ⟨rfl, by rw [hv, nm_W hM], same h⟩
  rw [if_neg y2] at hv
  rw [if_neg y2]
  by_cases y3 : x = 3
  · rw [if_pos y3] at hv
    rw [if_pos y3, ok364, ok364, fr14 hR, ak370, nm_b hM, nm_C hM]
    exact ⟨b0, by omega, rfl, hv, same h⟩
  rw [if_neg y3] at hv
  rw [if_neg y3]
  by_cases y4 : x = 4
  · rw [if_pos y4] at hv
    rw [if_pos y4, ok364, fr42 hR, ak392]
    exact ⟨by decide, by decide, rfl, hv, same h⟩
  rw [if_neg y4] at hv
  rw [if_neg y4]
  by_cases y5 : x = 5
  · rw [if_pos y5] at hv
    rw [if_pos y5, ok364, fr42 hR, ak392]
    exact ⟨by decide, by decide, rfl, hv, same h⟩
  rw [if_neg y5] at hv
  rw [if_neg y5]
  by_cases y6 : x = 6
  · rw [if_pos y6] at hv
    rw [if_pos y6, ok364]
    exact ⟨rfl, hv, same h⟩
  rw [if_neg y6] at hv
  rw [if_neg y6]
  by_cases y7 : x = 7
  · rw [if_pos y7] at hv
    rw [if_pos y7, ok364]
    exact ⟨rfl, hv, same h⟩
  rw [if_neg y7] at hv
  rw [if_neg y7]
  by_cases y8 : x = 8
  · rw [if_pos y8] at hv
    rw [if_pos y8, ok364]
    exact ⟨rfl, hv, same h⟩
  rw [if_neg y8] at hv
  rw [if_neg y8]
  by_cases y9 : x = 9
  · rw [if_pos y9] at hv
    rw [if_pos y9, ok364]
    exact ⟨rfl, hv, same h⟩
  rw [if_neg y9] at hv
  rw [if_neg y9]
  by_cases y10 : x = 10
  · rw [if_pos y10] at hv
    rw [if_pos y10, ok364]
    exact ⟨rfl, hv, same h⟩
  rw [if_neg y10] at hv
  rw [if_neg y10]
  by_cases y11 : x = 11
  · rw [if_pos y11] at hv
    rw [if_pos y11, ok364]
    exact ⟨rfl, hv, same h⟩
  rw [if_neg y11] at hv
  rw [if_neg y11]
  by_cases y12 : x = 12
  · rw [if_pos y12] at hv
    rw [if_pos y12, ok364, ok364, fr15 hR, ak371, nm_b hM, nm_U hM]
    exact ⟨b0, by omega, rfl, hv, same h⟩
  rw [if_neg y12] at hv
  rw [if_neg y12]
  by_cases y13 : x = 13
  · rw [if_pos y13] at hv
    rw [if_pos y13, ok364]
    exact ⟨rfl, hv, same h⟩
  rw [if_neg y13] at hv
  rw [if_neg y13]
  exact ⟨rfl, hv, same h⟩
theorem p_about (h : INV c R M b N) : PR (d + 1) 143 274 [vi x] R M (Inv (c + 1)) := by
  obtain ⟨hn, hN, hC, hW, hM, hc, hR, b0, b1⟩ := in_net h
  obtain ⟨hS, h37, hA, hG, g0, g1⟩ := in_now h
  have hs := in_s h
  have hp := in_p h
  have hg := in_g h
  have ht := in_t h
  have hy := in_y h
  have z : ∀ i, 0 ≤ i → i < 218 → cut (M 392) i = M 392 i := fun i i0 i1 => cut_at i0 i1
  have q10 : M (38 + 5 * M 36 1) 10 = M 392 216 := by have := sky_bt hA; rw [z _ (by decide) (by decide)] at this; rw [← this]; show _ = M (_ + 0) 10; rw [Int.add_zero]
  have q9 : M (38 + 5 * M 36 1) 9 = M 392 217 := by have := sky_se hA; rw [z _ (by decide) (by decide)] at this; rw [← this]; show _ = M (_ + 0) 9; rw [Int.add_zero]
  refine Mw_of mok143 rfl fun _ _ => b_X11_about_0 ?_
  have fin : ∀ v, v = abV M N x → Mw (d + 1) 274 [vr 364, vi x] SHX R M 0 0 (fun w sh2 R2 M2 => sh2 = SHX ∧ v = w ∧ Inv (c + 1) R2 M2) := fun v hv => m_about h hv
  unfold abV at fin
  by_cases y0 : x = 0
  · rw [if_pos y0] at fin
    rw [if_pos y0, ok0, hn, okN hN, nc_T hC]
    exact ⟨rfl, fin _ rfl⟩
  simp only [if_neg y0] at fin
  rw [if_neg y0]
  by_cases y1 : x = 1
  · rw [if_pos y1] at fin
    rw [if_pos y1, ok0, hn, okN hN, nc_S hC]
    exact ⟨rfl, fin _ rfl⟩
  simp only [if_neg y1] at fin
  rw [if_neg y1]
  by_cases y2 : x = 2
  · rw [if_pos y2] at fin
    rw [if_pos y2, ok0, hn, okN hN, nc_W hC]
    exact ⟨rfl, fin _ rfl⟩
  simp only [if_neg y2] at fin
  rw [if_neg y2]
  by_cases y3 : x = 3
  · rw [if_pos y3] at fin
    rw [if_pos y3, ok0, hn, okN hN, nc_C hC]
    exact ⟨rfl, fin _ rfl⟩
  simp only [if_neg y3] at fin
  rw [if_neg y3]
  by_cases y4 : x = 4
  · rw [if_pos y4] at fin
    rw [if_pos y4, ok0, rc0_2 hc, ok36]
    refine c_now (d := d) hc g0 g1 ?_
    rw [okS hS, q10]
    exact ⟨rfl, fin _ rfl⟩
  simp only [if_neg y4] at fin
  rw [if_neg y4]
  by_cases y5 : x = 5
  · rw [if_pos y5] at fin
    rw [if_pos y5, ok0, rc0_2 hc, ok36]
    refine c_now (d := d) hc g0 g1 ?_
    rw [okS hS, q9]
    exact ⟨rfl, fin _ rfl⟩
  simp only [if_neg y5] at fin
  rw [if_neg y5]
  by_cases y6 : x = 6
  · rw [if_pos y6] at fin
    rw [if_pos y6, ok0, rc0_2 hc, ok36, (is_u hs).1]
    exact ⟨rfl, fin _ rfl⟩
  simp only [if_neg y6] at fin
  rw [if_neg y6]
  by_cases y7 : x = 7
  · rw [if_pos y7] at fin
    rw [if_pos y7, ok0, rc0_2 hc, ok36, (is_r hs).1]
    exact ⟨rfl, fin _ rfl⟩
  simp only [if_neg y7] at fin
  rw [if_neg y7]
  by_cases y8 : x = 8
  · rw [if_pos y8] at fin
    rw [if_pos y8, ok0, rc0_9 hc, ok342, (ip_n hp).1]
    exact ⟨rfl, fin _ rfl⟩
  simp only [if_neg y8] at fin
  rw [if_neg y8]
  by_cases y9 : x = 9
  · rw [if_pos y9] at fin
    rw [if_pos y9, ok0, rc0_10 hc, ok355, (ig_n hg).1]
    exact ⟨rfl, fin _ rfl⟩
  simp only [if_neg y9] at fin
  rw [if_neg y9]
  by_cases y10 : x = 10
  · rw [if_pos y10] at fin
    rw [if_pos y10, ok0, (ig_t hg).1]
    exact ⟨rfl, fin _ rfl⟩
  simp only [if_neg y10] at fin
  rw [if_neg y10]
  by_cases y11 : x = 11
  · rw [if_pos y11] at fin
    rw [if_pos y11, ok0, rc0_0 hc, ok27, it_n ht]
    exact ⟨rfl, fin _ rfl⟩
  simp only [if_neg y11] at fin
  rw [if_neg y11]
  by_cases y12 : x = 12
  · rw [if_pos y12] at fin
    rw [if_pos y12, ok0, hn, okN hN, nc_U hC]
    exact ⟨rfl, fin _ rfl⟩
  simp only [if_neg y12] at fin
  rw [if_neg y12]
  by_cases y13 : x = 13
  · rw [if_pos y13] at fin
    rw [if_pos y13, ok0, rc0_11 hc, ok338, (iy_n hy).1]
    exact ⟨rfl, fin _ rfl⟩
  simp only [if_neg y13] at fin
  rw [if_neg y13]
  exact ⟨rfl, fin _ rfl⟩
theorem p_end (h : INV c R M b N) : PR d 106 276 [vi x] R M (Inv (c + 1)) := by
  obtain ⟨hn, hN, hC, hW, hM, hc, hR, b0, b1⟩ := in_net h
  have h' := h
  obtain ⟨hr, ha, ht, hf, hw, hs, hb, hp, hg, hy⟩ := h'
  have no : (x < 0 ∨ M 364 2 < x) → Mw d 276 [vr 364, vi x] SHX R M 0 0 (fun w sh2 R2 M2 => sh2 = SHX ∧ -1 = w ∧ Inv (c + 1) R2 M2) := fun hx => by
    refine Mw_of mok276 rfl fun _ _ => b_X12_end_0 ?_
    by_cases h0 : x < 0
    · rw [if_pos h0]; exact ⟨rfl, rfl, same h⟩
    · rw [if_neg h0, ok364, if_pos (by omega)]; exact ⟨rfl, rfl, same h⟩
  refine Mw_of mok106 rfl fun _ _ => b_X11_end_0 ?_
  by_cases h0 : x < 0
  · rw [if_pos h0]; exact ⟨rfl, no (Or.inl h0)⟩
  · rw [if_neg h0, ok0, rc0_0 hc, ok27, it_n ht]
    by_cases h1 : M 364 2 < x
    · rw [if_pos h1]; exact ⟨rfl, no (Or.inr h1)⟩
    · rw [if_neg h1, ok0, ok27]
      refine ⟨rfl, Mw_of mok276 rfl fun _ _ => b_X12_end_0 ?_⟩
      rw [if_neg h0, ok364, stm_neq (by omega), if_neg h1, ok364]
      have ht' : IT (stm (stm M 27 1 x) 364 2 x) := by
        refine ⟨by rw [stm_hit]; have := it_0 ht; omega, by rw [stm_neq (by omega), stm_hit, stm_hit], fun i i0 i1 => ?_, fun i hi => ?_⟩
        · rw [stm_hit] at i1
          rw [stm_neq (by omega), stm_neq (by omega), stm_neq (by omega), stm_neq (by omega)]
          exact it_b ht i i0 (by omega)
        · rw [stm_neq (by omega), stm_neq (by omega)]
          exact it_k ht i hi
      exact ⟨rfl, rfl, b, N, ⟨hr, IA_of ha (by rw [stm_neq (by omega), stm_neq (by omega)]) (fun q _ _ _ => by rw [stm_ne (by omega), stm_ne (by omega)]) (fun q _ _ => by rw [stm_ne (by omega), stm_ne (by omega)]) (by rw [stm_ne (by omega), stm_ne (by omega)]) (by rw [stm_ne (by omega), stm_ne (by omega)]) (by rw [stm_ne (by omega), stm_ne (by omega)]), ht', IF_of hf (by rw [stm_neq (by omega), stm_neq (by omega)]) (by rw [stm_neq (by omega), stm_neq (by omega)]) (by rw [stm_neq (by omega), stm_neq (by omega)]) (by rw [stm_neq (by omega), stm_neq (by omega)]) (by rw [stm_neq (by omega), stm_neq (by omega)]) (le_eqr (by rw [stm_neq (by omega), stm_neq (by omega)]) (if_s hf)), IW_of hw (fun i _ _ => by rw [stm_neq (by omega), stm_neq (by omega)]) (fun i _ _ => by rw [stm_neq (by omega), stm_neq (by omega)]), IS_of hs (Nat.le_succ c) (fun j _ _ => by rw [stm_neq (by omega), stm_neq (by omega)]) (fun q _ _ => by rw [stm_ne (by omega), stm_ne (by omega)]) (by rw [stm_neq (by omega), stm_neq (by omega)]) (by rw [stm_neq (by omega), stm_neq (by omega)]) (fun i _ _ => by rw [stm_neq (by omega), stm_neq (by omega)]) (by rw [stm_ne (by omega), stm_ne (by omega)]), IB_of hb (Nat.le_succ c) (by rw [stm_ne (by omega), stm_ne (by omega)]) (fun q _ _ => by rw [stm_ne (by omega), stm_ne (by omega)]) (by rw [stm_ne (by omega), stm_ne (by omega)]) (by rw [stm_ne (by omega), stm_ne (by omega)]), IP_of hp (by rw [stm_neq (by omega), stm_neq (by omega)]) (by rw [stm_neq (by omega), stm_neq (by omega)]) (by rw [stm_ne (by omega), stm_ne (by omega)]) (by rw [stm_ne (by omega), stm_ne (by omega)]) (by rw [stm_ne (by omega), stm_ne (by omega)]) (by rw [stm_ne (by omega), stm_ne (by omega)]), IG_of hg (by rw [stm_neq (by omega), stm_neq (by omega)]) (by rw [stm_neq (by omega), stm_neq (by omega)]) (by rw [stm_neq (by omega), stm_neq (by omega)]) (by rw [stm_neq (by omega), stm_neq (by omega)]) (fun q _ _ => by rw [stm_ne (by omega), stm_ne (by omega)]) (fun q _ _ => by rw [stm_ne (by omega), stm_ne (by omega)]), IY_of hy (by rw [stm_neq (by omega), stm_neq (by omega)]) (by rw [stm_neq (by omega), stm_neq (by omega)]) (by rw [stm_ne (by omega), stm_ne (by omega)]) (fun i _ => by rw [stm_neq (by omega), stm_neq (by omega)])⟩⟩
theorem p_row (h : INV c R M b N) : PR (d + 2) 118 225 [vi x, vi y] R M (Inv (c + 1)) := by
  obtain ⟨hn, hN, hC, hW, hM, hc, hR, b0, b1⟩ := in_net h
  have h' := h
  obtain ⟨hr, ha, ht, hf, hw, hs, hb, hp, hg, hy⟩ := h'
  have hS3 := wn_S hW
  have no : ¬ ((0 ≤ x ∧ x < N 0 1) ∧ 0 ≤ y ∧ y ≤ 999) → Mw (d + 2) 225 [vr 364, vi x, vi y] SHX R M 0 0 (fun w sh2 R2 M2 => sh2 = SHX ∧ -1 = w ∧ Inv (c + 1) R2 M2) := fun hx => by
    refine Mw_of mok225 rfl fun _ _ => b_X12_row_0 ?_
    rw [ok364]
    refine w_startMany (d := d + 1) hR (nm_b hM) b0 b1 ?_
    rw [nm_S hM, isub_of (by omega) (by omega)]
    refine m_isIn (fun k0 k1 _ => ?_) fun g _ => ?_
    · rw [if_neg (by decide)]
      refine m_isIn (fun u0 u1 _ => absurd ⟨⟨k0, by omega⟩, u0, u1⟩ hx) fun g _ => ?_
      rw [if_pos rfl]
      exact ⟨rfl, rfl, same h⟩
    · rw [if_pos rfl]
      exact ⟨rfl, rfl, same h⟩
  refine Mw_of mok118 rfl fun _ _ => b_X11_row_0 ?_
  rw [ok0]
  refine c_isStart (d := d) hn hN hC hW (fun h0 h1 _ => ?_) fun h0 _ => ?_
  · rw [if_neg (by decide)]
    refine c_isWithin (fun k0 k1 _ => ?_) fun k0 _ => ?_
    · obtain ⟨w1, w2, w3⟩ := hw x h0 (by omega)
      rw [if_neg (by decide), ok0, rc0_5 hc, ak260, ok0, ak260, w1]
      refine ⟨h0, by omega, h0, by omega, rfl, Mw_of mok225 rfl fun _ _ => b_X12_row_0 ?_⟩
      rw [ok364]
      refine w_startMany (d := d + 1) hR (b := b) (by rw [stm_neq (by omega)]; exact nm_b hM) b0 b1 ?_
      rw [stm_neq (by omega), nm_S hM, isub_of (by omega) (by omega)]
      refine m_isIn (fun _ _ _ => ?_) fun g _ => absurd ⟨h0, by omega⟩ g
      rw [if_neg (by decide)]
      refine m_isIn (fun _ _ _ => ?_) fun g _ => absurd ⟨k0, k1⟩ g
      rw [if_neg (by decide), ok364, fr46 hR, ak396, ok364, ak396]
      have hw' : IW (stm (stm M 260 x y) 396 x y) := fun i i0 i1 => by
        by_cases hi : i = x
        · rw [hi, stm_neq (by omega), stm_hit, stm_hit]
          exact ⟨rfl, k0, k1⟩
        · rw [stm_neq (by omega), stm_neq (by omega), stm_neq (by omega), stm_neq (by omega)]
          exact hw i i0 i1
      exact ⟨h0, by omega, h0, by omega, rfl, (by rw [stm_neq (by omega)]), b, N, ⟨hr, IA_of ha (by rw [stm_neq (by omega), stm_neq (by omega)]) (fun q _ _ _ => by rw [stm_ne (by omega), stm_ne (by omega)]) (fun q _ _ => by rw [stm_ne (by omega), stm_ne (by omega)]) (by rw [stm_ne (by omega), stm_ne (by omega)]) (by rw [stm_ne (by omega), stm_ne (by omega)]) (by rw [stm_ne (by omega), stm_ne (by omega)]), IT_of ht (by rw [stm_neq (by omega), stm_neq (by omega)]) (by rw [stm_neq (by omega), stm_neq (by omega)]) (by rw [stm_ne (by omega), stm_ne (by omega)]) (by rw [stm_ne (by omega), stm_ne (by omega)]) (by rw [stm_ne (by omega), stm_ne (by omega)]), IF_of hf (by rw [stm_neq (by omega), stm_neq (by omega)]) (by rw [stm_neq (by omega), stm_neq (by omega)]) (by rw [stm_neq (by omega), stm_neq (by omega)]) (by rw [stm_neq (by omega), stm_neq (by omega)]) (by rw [stm_neq (by omega), stm_neq (by omega)]) (le_eqr (by rw [stm_neq (by omega), stm_neq (by omega)]) (if_s hf)), hw', IS_of hs (Nat.le_succ c) (fun j _ _ => by rw [stm_neq (by omega), stm_neq (by omega)]) (fun q _ _ => by rw [stm_ne (by omega), stm_ne (by omega)]) (by rw [stm_neq (by omega), stm_neq (by omega)]) (by rw [stm_neq (by omega), stm_neq (by omega)]) (fun i _ _ => by rw [stm_neq (by omega), stm_neq (by omega)]) (by rw [stm_ne (by omega), stm_ne (by omega)]), IB_of hb (Nat.le_succ c) (by rw [stm_ne (by omega), stm_ne (by omega)]) (fun q _ _ => by rw [stm_ne (by omega), stm_ne (by omega)]) (by rw [stm_ne (by omega), stm_ne (by omega)]) (by rw [stm_ne (by omega), stm_ne (by omega)]), IP_of hp (by rw [stm_neq (by omega), stm_neq (by omega)]) (by rw [stm_neq (by omega), stm_neq (by omega)]) (by rw [stm_ne (by omega), stm_ne (by omega)]) (by rw [stm_ne (by omega), stm_ne (by omega)]) (by rw [stm_ne (by omega), stm_ne (by omega)]) (by rw [stm_ne (by omega), stm_ne (by omega)]), IG_of hg (by rw [stm_neq (by omega), stm_neq (by omega)]) (by rw [stm_neq (by omega), stm_neq (by omega)]) (by rw [stm_neq (by omega), stm_neq (by omega)]) (by rw [stm_neq (by omega), stm_neq (by omega)]) (fun q _ _ => by rw [stm_ne (by omega), stm_ne (by omega)]) (fun q _ _ => by rw [stm_ne (by omega), stm_ne (by omega)]), IY_of hy (by rw [stm_neq (by omega), stm_neq (by omega)]) (by rw [stm_neq (by omega), stm_neq (by omega)]) (by rw [stm_ne (by omega), stm_ne (by omega)]) (fun i _ => by rw [stm_neq (by omega), stm_neq (by omega)])⟩⟩
    · rw [if_pos rfl]
      exact ⟨rfl, no fun z => k0 z.2⟩
  · rw [if_pos rfl]
    exact ⟨rfl, no fun z => h0 z.1⟩
theorem p_hush (h : INV c R M b N) : PR d 133 259 [] R M (Inv (c + 1)) := by
  obtain ⟨hn, hN, hC, hW, hM, hc, hR, b0, b1⟩ := in_net h
  have h' := h
  obtain ⟨hr, ha, ht, hf, hw, hs, hb, hp, hg, hy⟩ := h'
  refine Mw_of mok133 rfl fun _ _ => b_X11_hush_0 ?_
  rw [ok0, rc0_9 hc, ok342, ok0, ok342]
  refine ⟨rfl, Mw_of mok259 rfl fun _ _ => b_X12_hush_0 ?_⟩
  rw [ok364, ok364]
  have hp' : IP (stm (stm M 342 0 0) 364 61 0) := by
    refine ⟨by rw [stm_neq (by omega), stm_hit, stm_hit]; decide, fun i i0 i1 => ?_⟩
    rw [stm_hit] at i1
    omega
  exact ⟨rfl, (by rw [stm_neq (by omega)]; exact (ip_n hp).1), b, N, ⟨hr, IA_of ha (by rw [stm_neq (by omega), stm_neq (by omega)]) (fun q _ _ _ => by rw [stm_ne (by omega), stm_ne (by omega)]) (fun q _ _ => by rw [stm_ne (by omega), stm_ne (by omega)]) (by rw [stm_ne (by omega), stm_ne (by omega)]) (by rw [stm_ne (by omega), stm_ne (by omega)]) (by rw [stm_ne (by omega), stm_ne (by omega)]), IT_of ht (by rw [stm_neq (by omega), stm_neq (by omega)]) (by rw [stm_neq (by omega), stm_neq (by omega)]) (by rw [stm_ne (by omega), stm_ne (by omega)]) (by rw [stm_ne (by omega), stm_ne (by omega)]) (by rw [stm_ne (by omega), stm_ne (by omega)]), IF_of hf (by rw [stm_neq (by omega), stm_neq (by omega)]) (by rw [stm_neq (by omega), stm_neq (by omega)]) (by rw [stm_neq (by omega), stm_neq (by omega)]) (by rw [stm_neq (by omega), stm_neq (by omega)]) (by rw [stm_neq (by omega), stm_neq (by omega)]) (le_eqr (by rw [stm_neq (by omega), stm_neq (by omega)]) (if_s hf)), IW_of hw (fun i _ _ => by rw [stm_neq (by omega), stm_neq (by omega)]) (fun i _ _ => by rw [stm_neq (by omega), stm_neq (by omega)]), IS_of hs (Nat.le_succ c) (fun j _ _ => by rw [stm_neq (by omega), stm_neq (by omega)]) (fun q _ _ => by rw [stm_ne (by omega), stm_ne (by omega)]) (by rw [stm_neq (by omega), stm_neq (by omega)]) (by rw [stm_neq (by omega), stm_neq (by omega)]) (fun i _ _ => by rw [stm_neq (by omega), stm_neq (by omega)]) (by rw [stm_ne (by omega), stm_ne (by omega)]), IB_of hb (Nat.le_succ c) (by rw [stm_ne (by omega), stm_ne (by omega)]) (fun q _ _ => by rw [stm_ne (by omega), stm_ne (by omega)]) (by rw [stm_ne (by omega), stm_ne (by omega)]) (by rw [stm_ne (by omega), stm_ne (by omega)]), hp', IG_of hg (by rw [stm_neq (by omega), stm_neq (by omega)]) (by rw [stm_neq (by omega), stm_neq (by omega)]) (by rw [stm_neq (by omega), stm_neq (by omega)]) (by rw [stm_neq (by omega), stm_neq (by omega)]) (fun q _ _ => by rw [stm_ne (by omega), stm_ne (by omega)]) (fun q _ _ => by rw [stm_ne (by omega), stm_ne (by omega)]), IY_of hy (by rw [stm_neq (by omega), stm_neq (by omega)]) (by rw [stm_neq (by omega), stm_neq (by omega)]) (by rw [stm_ne (by omega), stm_ne (by omega)]) (fun i _ => by rw [stm_neq (by omega), stm_neq (by omega)])⟩⟩
theorem p_pair (h : INV c R M b N) : PR (d + 1) 132 258 [vi x, vi y] R M (Inv (c + 1)) := by
  obtain ⟨hn, hN, hC, hW, hM, hc, hR, b0, b1⟩ := in_net h
  have h' := h
  obtain ⟨hr, ha, ht, hf, hw, hs, hb, hp, hg, hy⟩ := h'
  obtain ⟨p1, p2, p3⟩ := ip_n hp
  have no : ¬ ((0 ≤ x ∧ x ≤ 999) ∧ (0 ≤ y ∧ y ≤ 999) ∧ M 364 61 < 4) → Mw (d + 1) 258 [vr 364, vi x, vi y] SHX R M 0 0 (fun w sh2 R2 M2 => sh2 = SHX ∧ -1 = w ∧ Inv (c + 1) R2 M2) := fun hx => by
    refine Mw_of mok258 rfl fun _ _ => b_X12_pair_0 ?_
    refine m_isIn (fun k0 k1 _ => ?_) fun g _ => ?_
    · rw [if_neg (by decide)]
      refine m_isIn (fun u0 u1 _ => ?_) fun g _ => ?_
      · rw [if_neg (by decide), ok364, if_pos (by omega)]
        exact ⟨rfl, rfl, same h⟩
      · rw [if_pos rfl]
        exact ⟨rfl, rfl, same h⟩
    · rw [if_pos rfl]
      exact ⟨rfl, rfl, same h⟩
  refine Mw_of mok132 rfl fun _ _ => b_X11_pair_0 ?_
  refine c_isWithin (d := d) (fun h0 h1 _ => ?_) fun h0 _ => ?_
  · rw [if_neg (by decide)]
    refine c_isWithin (d := d) (fun k0 k1 _ => ?_) fun k0 _ => ?_
    · rw [if_neg (by decide), ok0, rc0_9 hc, ok342]
      refine Mw_of mok8 rfl fun _ _ => b_X1_want_0 ?_
      rw [ok342, p1]
      by_cases h4 : M 364 61 < 4
      · have e2 : R 344 0 = 345 := rc344 hc (by decide) (by decide)
        rw [if_pos h4]
        simp (disch := omega) only [ok342, rc342_1 hc, rc342_2 hc, ak_mk (kd := 105) fs344, e2, ak345, ak343, stm_neq, p1, iadd_of, stm_hit]
        refine ⟨by decide, by decide, p2, by omega, p2, by omega, trivial, Mw_of mok258 rfl fun _ _ => b_X12_pair_0 ?_⟩
        refine m_isIn (fun _ _ _ => ?_) fun g _ => absurd ⟨h0, h1⟩ g
        rw [if_neg (by decide)]
        refine m_isIn (fun _ _ _ => ?_) fun g _ => absurd ⟨k0, k1⟩ g
        rw [if_neg (by decide)]
        simp (disch := omega) only [ok364, fr59 hR, ak403, fr60 hR, ak404, stm_neq, stm_hit, iadd_of, if_neg (show ¬ M 364 61 = 4 by omega)]
        have hp' : IP (stm (stm (stm (stm (stm (stm M 345 (M 364 61) x) 343 (M 364 61) y) 342 0 (M 364 61 + 1)) 403 (M 364 61) x) 404 (M 364 61) y) 364 61 (M 364 61 + 1)) := by
          refine ⟨⟨by rw [stm_neq (by omega), stm_neq (by omega), stm_neq (by omega), stm_hit, stm_hit], by rw [stm_hit]; omega, by rw [stm_hit]; omega⟩, fun i i0 i1 => ?_⟩
          rw [stm_hit] at i1
          by_cases hi : i = M 364 61
          · simp (disch := omega) only [hi, stm_neq, stm_hit]
            exact ⟨trivial, trivial, h0, h1, k0, k1⟩
          · simp (disch := omega) only [stm_neq]
            exact ip_v hp i i0 (by omega)
        exact ⟨p2, by omega, p2, by omega, trivial, trivial, b, N, ⟨hr, IA_of ha (by simp (disch := omega) only [stm_neq]) (fun q _ _ _ => by simp (disch := omega) only [stm_ne]) (fun q _ _ => by simp (disch := omega) only [stm_ne]) (by simp (disch := omega) only [stm_ne]) (by simp (disch := omega) only [stm_ne]) (by simp (disch := omega) only [stm_ne]), IT_of ht (by simp (disch := omega) only [stm_neq]) (by simp (disch := omega) only [stm_neq]) (by simp (disch := omega) only [stm_ne]) (by simp (disch := omega) only [stm_ne]) (by simp (disch := omega) only [stm_ne]), IF_of hf (by simp (disch := omega) only [stm_neq]) (by simp (disch := omega) only [stm_neq]) (by simp (disch := omega) only [stm_neq]) (by simp (disch := omega) only [stm_neq]) (by simp (disch := omega) only [stm_neq]) (le_eqr (by simp (disch := omega) only [stm_neq]) (if_s hf)), IW_of hw (fun i _ _ => by simp (disch := omega) only [stm_neq]) (fun i _ _ => by simp (disch := omega) only [stm_neq]), IS_of hs (Nat.le_succ c) (fun j _ _ => by simp (disch := omega) only [stm_neq]) (fun q _ _ => by simp (disch := omega) only [stm_ne]) (by simp (disch := omega) only [stm_neq]) (by simp (disch := omega) only [stm_neq]) (fun i _ _ => by simp (disch := omega) only [stm_neq]) (by simp (disch := omega) only [stm_ne]), IB_of hb (Nat.le_succ c) (by simp (disch := omega) only [stm_ne]) (fun q _ _ => by simp (disch := omega) only [stm_ne]) (by simp (disch := omega) only [stm_ne]) (by simp (disch := omega) only [stm_ne]), hp', IG_of hg (by simp (disch := omega) only [stm_neq]) (by simp (disch := omega) only [stm_neq]) (by simp (disch := omega) only [stm_neq]) (by simp (disch := omega) only [stm_neq]) (fun q _ _ => by simp (disch := omega) only [stm_ne]) (fun q _ _ => by simp (disch := omega) only [stm_ne]), IY_of hy (by simp (disch := omega) only [stm_neq]) (by simp (disch := omega) only [stm_neq]) (by simp (disch := omega) only [stm_ne]) (fun i _ => by simp (disch := omega) only [stm_neq])⟩⟩
      · rw [if_neg h4]
        exact ⟨rfl, no fun z => h4 z.2.2⟩
    · rw [if_pos rfl]
      exact ⟨rfl, no fun z => k0 z.2.1⟩
  · rw [if_pos rfl]
    exact ⟨rfl, no fun z => h0 z.1⟩
theorem p_untell (h : INV c R M b N) : PR (d + 1) 137 264 [vi x] R M (Inv (c + 1)) := by
  obtain ⟨hn, hN, hC, hW, hM, hc, hR, b0, b1⟩ := in_net h
  have h' := h
  obtain ⟨hr, ha, ht, hf, hw, hs, hb, hp, hg, hy⟩ := h'
  obtain ⟨p1, p2, p3⟩ := ig_n hg
  obtain ⟨t1, t2, t3⟩ := ig_t hg
  have no : ¬ ((0 ≤ x ∧ x < M 364 70) ∧ M 409 x < 0) → Mw (d + 1) 264 [vr 364, vi x] SHX R M 0 0 (fun w sh2 R2 M2 => sh2 = SHX ∧ 0 = w ∧ Inv (c + 1) R2 M2) := fun hx => by
    refine Mw_of mok264 rfl fun _ _ => b_X12_untell_0 ?_
    rw [ok364, isub_of (by omega) (by omega)]
    refine m_isIn (fun k0 k1 _ => ?_) fun g _ => ?_
    · rw [if_neg (by decide), ok364, fr66 hR, ak409, if_neg fun z => hx ⟨⟨k0, by omega⟩, z⟩]
      exact ⟨k0, by omega, rfl, rfl, same h⟩
    · rw [if_pos rfl]
      exact ⟨rfl, rfl, same h⟩
  refine Mw_of mok137 rfl fun _ _ => b_X11_untell_0 ?_
  rw [ok0, ok0, rc0_10 hc, ok355]
  refine Mw_of mok62 rfl fun _ _ => b_X7_takeBack_0 ?_
  by_cases h0 : x < 0
  · rw [if_pos h0]
    exact fun _ => ⟨rfl, no fun z => by omega⟩
  · rw [if_neg h0, ok355, p1]
    by_cases h1 : x < M 364 70
    · obtain ⟨v1, v2, v3, v4, v5, v6, v7⟩ := ig_v hg x (by omega) h1
      rw [if_pos h1, ok355, rc355_5 hc, ak360]
      refine ⟨by omega, by omega, ?_⟩
      by_cases h2 : M 360 x = -1
      · rw [if_pos h2, ok355, ak360]
        refine ⟨by omega, by omega, fun _ => ⟨rfl, Mw_of mok264 rfl fun _ _ => b_X12_untell_0 ?_⟩⟩
        rw [ok364, stm_neq (by omega), isub_of (by omega) (by omega)]
        refine m_isIn (fun _ _ _ => ?_) fun g _ => absurd ⟨by omega, by omega⟩ g
        rw [if_neg (by decide), ok364, fr66 hR, ak409, stm_neq (by omega), if_pos (by omega), ok364, ok364, ak409, stm_neq (by omega)]
        have hg' : IG (stm (stm M 360 x (M 0 14)) 409 x (M 364 71)) N := by
          refine ⟨by simp (disch := omega) only [stm_neq]; exact ig_n hg, by simp (disch := omega) only [stm_neq]; exact ig_t hg, fun i i0 i1 => ?_⟩
          rw [stm_neq (by omega), stm_neq (by omega)] at i1
          by_cases hi : i = x
          · simp (disch := omega) only [hi, stm_neq, stm_hit]
            exact ⟨v1, v2, v3, v4, v5, v6, Or.inr ⟨t1, t2, t3⟩⟩
          · simp (disch := omega) only [stm_neq]
            exact ig_v hg i i0 i1
        exact ⟨by omega, by omega, by omega, by omega, rfl, rfl, b, N, ⟨hr, IA_of ha (by rw [stm_neq (by omega), stm_neq (by omega)]) (fun q _ _ _ => by rw [stm_ne (by omega), stm_ne (by omega)]) (fun q _ _ => by rw [stm_ne (by omega), stm_ne (by omega)]) (by rw [stm_ne (by omega), stm_ne (by omega)]) (by rw [stm_ne (by omega), stm_ne (by omega)]) (by rw [stm_ne (by omega), stm_ne (by omega)]), IT_of ht (by rw [stm_neq (by omega), stm_neq (by omega)]) (by rw [stm_neq (by omega), stm_neq (by omega)]) (by rw [stm_ne (by omega), stm_ne (by omega)]) (by rw [stm_ne (by omega), stm_ne (by omega)]) (by rw [stm_ne (by omega), stm_ne (by omega)]), IF_of hf (by rw [stm_neq (by omega), stm_neq (by omega)]) (by rw [stm_neq (by omega), stm_neq (by omega)]) (by rw [stm_neq (by omega), stm_neq (by omega)]) (by rw [stm_neq (by omega), stm_neq (by omega)]) (by rw [stm_neq (by omega), stm_neq (by omega)]) (le_eqr (by rw [stm_neq (by omega), stm_neq (by omega)]) (if_s hf)), IW_of hw (fun i _ _ => by rw [stm_neq (by omega), stm_neq (by omega)]) (fun i _ _ => by rw [stm_neq (by omega), stm_neq (by omega)]), IS_of hs (Nat.le_succ c) (fun j _ _ => by rw [stm_neq (by omega), stm_neq (by omega)]) (fun q _ _ => by rw [stm_ne (by omega), stm_ne (by omega)]) (by rw [stm_neq (by omega), stm_neq (by omega)]) (by rw [stm_neq (by omega), stm_neq (by omega)]) (fun i _ _ => by rw [stm_neq (by omega), stm_neq (by omega)]) (by rw [stm_ne (by omega), stm_ne (by omega)]), IB_of hb (Nat.le_succ c) (by rw [stm_ne (by omega), stm_ne (by omega)]) (fun q _ _ => by rw [stm_ne (by omega), stm_ne (by omega)]) (by rw [stm_ne (by omega), stm_ne (by omega)]) (by rw [stm_ne (by omega), stm_ne (by omega)]), IP_of hp (by rw [stm_neq (by omega), stm_neq (by omega)]) (by rw [stm_neq (by omega), stm_neq (by omega)]) (by rw [stm_ne (by omega), stm_ne (by omega)]) (by rw [stm_ne (by omega), stm_ne (by omega)]) (by rw [stm_ne (by omega), stm_ne (by omega)]) (by rw [stm_ne (by omega), stm_ne (by omega)]), hg', IY_of hy (by rw [stm_neq (by omega), stm_neq (by omega)]) (by rw [stm_neq (by omega), stm_neq (by omega)]) (by rw [stm_ne (by omega), stm_ne (by omega)]) (fun i _ => by rw [stm_neq (by omega), stm_neq (by omega)])⟩⟩
      · rw [if_neg h2]
        exact fun _ => ⟨rfl, no fun z => by omega⟩
    · rw [if_neg h1]
      exact fun _ => ⟨rfl, no fun z => by omega⟩
theorem p_later (h : INV c R M b N) : PR (d + 1) 138 265 [vi x] R M (Inv (c + 1)) := by
  obtain ⟨hn, hN, hC, hW, hM, hc, hR, b0, b1⟩ := in_net h
  have h' := h
  obtain ⟨hr, ha, ht, hf, hw, hs, hb, hp, hg, hy⟩ := h'
  obtain ⟨t1, t2, t3⟩ := ig_t hg
  refine Mw_of mok138 rfl fun _ _ => b_X11_later_0 ?_
  refine c_isWithin (d := d) (fun h0 h1 _ => ?_) fun h0 _ => ?_
  · rw [if_neg (by decide), ok0, t1, isub_of (by omega) (by omega)]
    by_cases h2 : 100000 - x < M 364 71
    · rw [if_pos h2]
      refine ⟨rfl, Mw_of mok265 rfl fun _ _ => b_X12_later_0 ?_⟩
      refine m_isIn (fun _ _ _ => ?_) fun g _ => absurd ⟨h0, h1⟩ g
      rw [if_neg (by decide), ok364, iadd_of (by omega) (by omega), if_pos (by omega)]
      exact ⟨rfl, rfl, same h⟩
    · rw [if_neg h2, ok0, ok0, ok0, iadd_of (by omega) (by omega), stm_hit]
      refine ⟨rfl, Mw_of mok265 rfl fun _ _ => b_X12_later_0 ?_⟩
      refine m_isIn (fun _ _ _ => ?_) fun g _ => absurd ⟨h0, h1⟩ g
      rw [if_neg (by decide), ok364, stm_neq (by omega), iadd_of (by omega) (by omega), if_neg (by omega), ok364, ok364, ok364, stm_hit]
      have hg' : IG (stm (stm M 0 14 (M 364 71 + x)) 364 71 (M 364 71 + x)) N := by
        refine ⟨by simp (disch := omega) only [stm_neq]; exact ig_n hg, by rw [stm_neq (by omega), stm_hit, stm_hit]; omega, fun i i0 i1 => ?_⟩
        simp (disch := omega) only [stm_neq] at i1 ⊢
        exact ig_v hg i i0 i1
      exact ⟨rfl, rfl, b, N, ⟨hr, IA_of ha (by rw [stm_neq (by omega), stm_neq (by omega)]) (fun q _ _ _ => by rw [stm_ne (by omega), stm_ne (by omega)]) (fun q _ _ => by rw [stm_ne (by omega), stm_ne (by omega)]) (by rw [stm_ne (by omega), stm_ne (by omega)]) (by rw [stm_ne (by omega), stm_ne (by omega)]) (by rw [stm_ne (by omega), stm_ne (by omega)]), IT_of ht (by rw [stm_neq (by omega), stm_neq (by omega)]) (by rw [stm_neq (by omega), stm_neq (by omega)]) (by rw [stm_ne (by omega), stm_ne (by omega)]) (by rw [stm_ne (by omega), stm_ne (by omega)]) (by rw [stm_ne (by omega), stm_ne (by omega)]), IF_of hf (by rw [stm_neq (by omega), stm_neq (by omega)]) (by rw [stm_neq (by omega), stm_neq (by omega)]) (by rw [stm_neq (by omega), stm_neq (by omega)]) (by rw [stm_neq (by omega), stm_neq (by omega)]) (by rw [stm_neq (by omega), stm_neq (by omega)]) (le_eqr (by rw [stm_neq (by omega), stm_neq (by omega)]) (if_s hf)), IW_of hw (fun i _ _ => by rw [stm_neq (by omega), stm_neq (by omega)]) (fun i _ _ => by rw [stm_neq (by omega), stm_neq (by omega)]), IS_of hs (Nat.le_succ c) (fun j _ _ => by rw [stm_neq (by omega), stm_neq (by omega)]) (fun q _ _ => by rw [stm_ne (by omega), stm_ne (by omega)]) (by rw [stm_neq (by omega), stm_neq (by omega)]) (by rw [stm_neq (by omega), stm_neq (by omega)]) (fun i _ _ => by rw [stm_neq (by omega), stm_neq (by omega)]) (by rw [stm_ne (by omega), stm_ne (by omega)]), IB_of hb (Nat.le_succ c) (by rw [stm_ne (by omega), stm_ne (by omega)]) (fun q _ _ => by rw [stm_ne (by omega), stm_ne (by omega)]) (by rw [stm_ne (by omega), stm_ne (by omega)]) (by rw [stm_ne (by omega), stm_ne (by omega)]), IP_of hp (by rw [stm_neq (by omega), stm_neq (by omega)]) (by rw [stm_neq (by omega), stm_neq (by omega)]) (by rw [stm_ne (by omega), stm_ne (by omega)]) (by rw [stm_ne (by omega), stm_ne (by omega)]) (by rw [stm_ne (by omega), stm_ne (by omega)]) (by rw [stm_ne (by omega), stm_ne (by omega)]), hg', IY_of hy (by rw [stm_neq (by omega), stm_neq (by omega)]) (by rw [stm_neq (by omega), stm_neq (by omega)]) (by rw [stm_ne (by omega), stm_ne (by omega)]) (fun i _ => by rw [stm_neq (by omega), stm_neq (by omega)])⟩⟩
  · rw [if_pos rfl]
    refine ⟨rfl, Mw_of mok265 rfl fun _ _ => b_X12_later_0 ?_⟩
    refine m_isIn (fun k0 k1 _ => absurd ⟨k0, k1⟩ h0) fun g _ => ?_
    rw [if_pos rfl]
    exact ⟨rfl, rfl, same h⟩
end
