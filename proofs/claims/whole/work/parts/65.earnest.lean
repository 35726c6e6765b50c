/-! OPS IN EARNEST -/
section
variable {d c : Nat} {R M : MEM} {b : Int} {N : NTW} {x y z : Int}
theorem p_undo (h : INV c R M b N) : PR (d + 1) 116 222 [] R M (Inv (c + 1)) := by
  obtain ⟨hn, hN, hC, hW, hM, hc, hR, b0, b1⟩ := in_net h
  have h' := h
  obtain ⟨hr, ha, ht, hf, hw, hs, hb, hp, hg, hy⟩ := h'
  have h1 := is_h hs
  have h2 := is_u hs
  have h3 := is_r hs
  have h4 := is_m hs
  refine Mw_of mok116 rfl fun _ _ => b_X11_undo_0 ?_
  rw [ok0, rc0_2 hc, ok36]
  refine Mw_of mok3 rfl fun _ _ => b_X0_takeBack_0 ?_
  rw [ok36, h2.1]
  by_cases hu : M 364 51 = 0
  · rw [if_pos hu]
    refine fun _ => ⟨rfl, Mw_of mok222 rfl fun _ _ => b_X12_undo_0 ?_⟩
    rw [ok364, if_pos hu]
    exact ⟨rfl, rfl, same h⟩
  · rw [if_neg hu]
    obtain ⟨h', hh⟩ : ∃ h', h' = (M 36 1 + -1) % 41 := ⟨_, rfl⟩
    have fin : Mw (d + 1) 222 [vr 364] SHX R (stm (stm (stm M 36 1 h') 36 2 (M 364 51 - 1)) 36 3 (M 364 52 + 1)) 0 0 (fun w sh2 R2 M2 => sh2 = SHX ∧ 1 = w ∧ Inv (c + 1) R2 M2) := by
      refine Mw_of mok222 rfl fun _ _ => b_X12_undo_0 ?_
      simp (disch := omega) only [ok364, stm_neq, if_neg hu, stm_hit, isub_of, iadd_of]
      refine m_exchange (d := d) hR (by simp (disch := omega) only [stm_neq, stm_hit]; omega) (by simp (disch := omega) only [stm_neq, stm_hit]; omega) ?_
      simp (disch := omega) only [stm_neq, stm_hit, stm_ne]
      refine ⟨trivial, trivial, b, N, ?_⟩
      have hs' := IS_shift (M' := rset (rset (stm (stm (stm (stm (stm M 36 1 h') 36 2 (M 364 51 - 1)) 36 3 (M 364 52 + 1)) 364 51 (M 364 51 - 1)) 364 52 (M 364 52 + 1)) 397 (fun i => if 218 * (M 364 51 - 1) ≤ i ∧ i < 218 * (M 364 51 - 1) + 218 then M 392 (i - 218 * (M 364 51 - 1)) else M 397 i)) 392 (fun i => if 0 ≤ i ∧ i < 218 then M 397 (218 * (M 364 51 - 1) + i) else M 392 i)) (s := -1) hs (Or.inr rfl) (by omega) (by omega) (by simp (disch := omega) only [rset_ne, stm_neq, stm_hit]; exact hh) (by simp (disch := omega) only [rset_ne, stm_neq, stm_hit]; omega) (by simp (disch := omega) only [rset_ne, stm_neq, stm_hit]; omega) (by simp (disch := omega) only [rset_ne, stm_neq, stm_hit]; omega) (by simp (disch := omega) only [rset_ne, stm_neq, stm_hit]; omega) (fun q q0 q1 => by simp (disch := omega) only [rset_ne, stm_ne]) (fun k k0 k1 i i0 i1 => by
        unfold stt
        simp (disch := omega) only [rset_ne, rset_hit, stm_neq, stm_hit]
        by_cases hk : k = 0
        · rw [if_pos hk, if_pos ⟨i0, i1⟩, if_neg (by omega), if_pos (by omega), show M 364 51 + (k + -1) = M 364 51 - 1 by omega]
        · rw [if_neg hk]
          by_cases hk1 : k < 0
          · rw [if_pos hk1, if_neg (by omega), if_neg (by omega), if_pos (by omega), show M 364 51 - 1 + k = M 364 51 + (k + -1) by omega]
          · rw [if_neg hk1]
            by_cases hk2 : k = 1
            · rw [if_pos (by omega), if_pos (by omega)]
              congr 1
              omega
            · rw [if_neg (by omega), if_neg (by omega), if_neg (by omega), show M 364 51 - 1 + k - 1 = M 364 51 + (k + -1) - 1 by omega])
      exact ⟨hr, IA_of ha (by simp (disch := omega) only [rset_ne, stm_neq]) (fun q _ _ _ => by simp (disch := omega) only [rset_ne, stm_ne]) (fun q _ _ => by simp (disch := omega) only [rset_ne, stm_ne]) (by simp (disch := omega) only [rset_ne, stm_ne]) (by simp (disch := omega) only [rset_ne, stm_ne]) (by simp (disch := omega) only [rset_ne, stm_ne]), IT_of ht (by simp (disch := omega) only [rset_ne, stm_neq]) (by simp (disch := omega) only [rset_ne, stm_neq]) (by simp (disch := omega) only [rset_ne, stm_ne]) (by simp (disch := omega) only [rset_ne, stm_ne]) (by simp (disch := omega) only [rset_ne, stm_ne]), IF_of hf (by simp (disch := omega) only [rset_ne, stm_neq]) (by simp (disch := omega) only [rset_ne, stm_neq]) (by simp (disch := omega) only [rset_ne, stm_neq]) (by simp (disch := omega) only [rset_ne, stm_neq]) (by simp (disch := omega) only [rset_ne, stm_neq]) (le_eqr (by simp (disch := omega) only [rset_ne, stm_neq]) (if_s hf)), IW_of hw (fun i _ _ => by simp (disch := omega) only [rset_ne, stm_neq]) (fun i _ _ => by simp (disch := omega) only [rset_ne, stm_neq]), hs', IB_of hb (Nat.le_succ c) (by simp (disch := omega) only [rset_ne, stm_ne]) (fun q _ _ => by simp (disch := omega) only [rset_ne, stm_ne]) (by simp (disch := omega) only [rset_ne, stm_ne]) (by simp (disch := omega) only [rset_ne, stm_ne]), IP_of hp (by simp (disch := omega) only [rset_ne, stm_neq]) (by simp (disch := omega) only [rset_ne, stm_neq]) (by simp (disch := omega) only [rset_ne, stm_ne]) (by simp (disch := omega) only [rset_ne, stm_ne]) (by simp (disch := omega) only [rset_ne, stm_ne]) (by simp (disch := omega) only [rset_ne, stm_ne]), IG_of hg (by simp (disch := omega) only [rset_ne, stm_neq]) (by simp (disch := omega) only [rset_ne, stm_neq]) (by simp (disch := omega) only [rset_ne, stm_neq]) (by simp (disch := omega) only [rset_ne, stm_neq]) (fun q _ _ => by simp (disch := omega) only [rset_ne, stm_ne]) (fun q _ _ => by simp (disch := omega) only [rset_ne, stm_ne]), IY_of hy (by simp (disch := omega) only [rset_ne, stm_neq]) (by simp (disch := omega) only [rset_ne, stm_neq]) (by simp (disch := omega) only [rset_ne, stm_ne]) (fun i _ => by simp (disch := omega) only [rset_ne, stm_neq])⟩
    by_cases h0 : 0 < M 36 1
    · rw [ok36, if_pos h0]
      simp (disch := omega) only [ok36, stm_neq, stm_hit, isub_of, iadd_of, h2.1, h3.1]
      rw [show M 36 1 - 1 = h' by omega]
      exact fun _ => ⟨trivial, fin⟩
    · rw [ok36, if_neg h0]
      simp (disch := omega) only [ok36, stm_neq, stm_hit, isub_of, iadd_of, h2.1, h3.1]
      rw [show h' = 40 by omega] at fin
      exact fun _ => ⟨trivial, fin⟩
theorem p_redo (h : INV c R M b N) : PR (d + 1) 117 223 [] R M (Inv (c + 1)) := by
  obtain ⟨hn, hN, hC, hW, hM, hc, hR, b0, b1⟩ := in_net h
  have h' := h
  obtain ⟨hr, ha, ht, hf, hw, hs, hb, hp, hg, hy⟩ := h'
  have h1 := is_h hs
  have h2 := is_u hs
  have h3 := is_r hs
  have h4 := is_m hs
  refine Mw_of mok117 rfl fun _ _ => b_X11_redo_0 ?_
  rw [ok0, rc0_2 hc, ok36]
  refine Mw_of mok4 rfl fun _ _ => b_X0_doAgain_0 ?_
  rw [ok36, h3.1]
  by_cases hu : M 364 52 = 0
  · rw [if_pos hu]
    refine fun _ => ⟨rfl, Mw_of mok223 rfl fun _ _ => b_X12_redo_0 ?_⟩
    rw [ok364, if_pos hu]
    exact ⟨rfl, rfl, same h⟩
  · rw [if_neg hu]
    obtain ⟨h', hh⟩ : ∃ h', h' = (M 36 1 + 1) % 41 := ⟨_, rfl⟩
    have fin : Mw (d + 1) 223 [vr 364] SHX R (stm (stm (stm M 36 1 h') 36 2 (M 364 51 + 1)) 36 3 (M 364 52 - 1)) 0 0 (fun w sh2 R2 M2 => sh2 = SHX ∧ 1 = w ∧ Inv (c + 1) R2 M2) := by
      refine Mw_of mok223 rfl fun _ _ => b_X12_redo_0 ?_
      rw [ok364, stm_neq (by omega), stm_neq (by omega), stm_neq (by omega), if_neg hu, ok364]
      refine m_exchange (d := d) hR (by simp (disch := omega) only [stm_neq, stm_hit]; omega) (by simp (disch := omega) only [stm_neq, stm_hit]; omega) ?_
      simp (disch := omega) only [ok364, stm_neq, stm_hit, stm_ne, rset_ne, isub_of, iadd_of]
      refine ⟨trivial, trivial, b, N, ?_⟩
      have hs' := IS_shift (M' := stm (stm (rset (rset (stm (stm (stm M 36 1 h') 36 2 (M 364 51 + 1)) 36 3 (M 364 52 - 1)) 397 (fun i => if 218 * M 364 51 ≤ i ∧ i < 218 * M 364 51 + 218 then M 392 (i - 218 * M 364 51) else M 397 i)) 392 (fun i => if 0 ≤ i ∧ i < 218 then M 397 (218 * M 364 51 + i) else M 392 i)) 364 51 (M 364 51 + 1)) 364 52 (M 364 52 - 1)) (s := 1) hs (Or.inl rfl) (by omega) (by omega) (by simp (disch := omega) only [rset_ne, stm_neq, stm_hit]; exact hh) (by simp (disch := omega) only [rset_ne, stm_neq, stm_hit]) (by simp (disch := omega) only [rset_ne, stm_neq, stm_hit]) (by simp (disch := omega) only [rset_ne, stm_neq, stm_hit]) (by simp (disch := omega) only [rset_ne, stm_neq, stm_hit]) (fun q q0 q1 => by simp (disch := omega) only [rset_ne, stm_ne]) (fun k k0 k1 i i0 i1 => by
        unfold stt
        simp (disch := omega) only [rset_ne, rset_hit, stm_neq, stm_hit]
        by_cases hk : k = 0
        · rw [if_pos hk, if_pos ⟨i0, i1⟩, if_neg (by omega), if_neg (by omega), show M 364 51 + (k + 1) - 1 = M 364 51 by omega]
        · rw [if_neg hk]
          by_cases hk1 : k < 0
          · rw [if_pos hk1]
            by_cases hk2 : k = -1
            · rw [if_pos (by omega), if_pos (by omega)]
              congr 1
              omega
            · rw [if_neg (by omega), if_neg (by omega), if_pos (by omega), show M 364 51 + 1 + k = M 364 51 + (k + 1) by omega]
          · rw [if_neg hk1, if_neg (by omega), if_neg (by omega), if_neg (by omega), show M 364 51 + 1 + k - 1 = M 364 51 + (k + 1) - 1 by omega])
      exact ⟨hr, IA_of ha (by simp (disch := omega) only [rset_ne, stm_neq]) (fun q _ _ _ => by simp (disch := omega) only [rset_ne, stm_ne]) (fun q _ _ => by simp (disch := omega) only [rset_ne, stm_ne]) (by simp (disch := omega) only [rset_ne, stm_ne]) (by simp (disch := omega) only [rset_ne, stm_ne]) (by simp (disch := omega) only [rset_ne, stm_ne]), IT_of ht (by simp (disch := omega) only [rset_ne, stm_neq]) (by simp (disch := omega) only [rset_ne, stm_neq]) (by simp (disch := omega) only [rset_ne, stm_ne]) (by simp (disch := omega) only [rset_ne, stm_ne]) (by simp (disch := omega) only [rset_ne, stm_ne]), IF_of hf (by simp (disch := omega) only [rset_ne, stm_neq]) (by simp (disch := omega) only [rset_ne, stm_neq]) (by simp (disch := omega) only [rset_ne, stm_neq]) (by simp (disch := omega) only [rset_ne, stm_neq]) (by simp (disch := omega) only [rset_ne, stm_neq]) (le_eqr (by simp (disch := omega) only [rset_ne, stm_neq]) (if_s hf)), IW_of hw (fun i _ _ => by simp (disch := omega) only [rset_ne, stm_neq]) (fun i _ _ => by simp (disch := omega) only [rset_ne, stm_neq]), hs', IB_of hb (Nat.le_succ c) (by simp (disch := omega) only [rset_ne, stm_ne]) (fun q _ _ => by simp (disch := omega) only [rset_ne, stm_ne]) (by simp (disch := omega) only [rset_ne, stm_ne]) (by simp (disch := omega) only [rset_ne, stm_ne]), IP_of hp (by simp (disch := omega) only [rset_ne, stm_neq]) (by simp (disch := omega) only [rset_ne, stm_neq]) (by simp (disch := omega) only [rset_ne, stm_ne]) (by simp (disch := omega) only [rset_ne, stm_ne]) (by simp (disch := omega) only [rset_ne, stm_ne]) (by simp (disch := omega) only [rset_ne, stm_ne]), IG_of hg (by simp (disch := omega) only [rset_ne, stm_neq]) (by simp (disch := omega) only [rset_ne, stm_neq]) (by simp (disch := omega) only [rset_ne, stm_neq]) (by simp (disch := omega) only [rset_ne, stm_neq]) (fun q _ _ => by simp (disch := omega) only [rset_ne, stm_ne]) (fun q _ _ => by simp (disch := omega) only [rset_ne, stm_ne]), IY_of hy (by simp (disch := omega) only [rset_ne, stm_neq]) (by simp (disch := omega) only [rset_ne, stm_neq]) (by simp (disch := omega) only [rset_ne, stm_ne]) (fun i _ => by simp (disch := omega) only [rset_ne, stm_neq])⟩
    by_cases h0 : M 36 1 < 40
    · rw [ok36, if_pos h0]
      simp (disch := omega) only [ok36, stm_neq, stm_hit, isub_of, iadd_of, h2.1, h3.1]
      rw [show M 36 1 + 1 = h' by omega]
      exact fun _ => ⟨trivial, fin⟩
    · rw [ok36, if_neg h0]
      simp (disch := omega) only [ok36, stm_neq, stm_hit, isub_of, iadd_of, h2.1, h3.1]
      rw [show h' = 0 by omega] at fin
      exact fun _ => ⟨trivial, fin⟩
theorem p_begin (h : INV c R M b N) (hc5 : c ≤ 512) : PR (d + 2) 113 219 [vi x, vi y] R M (Inv (c + 1)) := by
  obtain ⟨hn, hN, hC, hW, hM, hc, hR, b0, b1⟩ := in_net h
  obtain ⟨hS, h37, hA, hG, g0, g1⟩ := in_now h
  have h' := h
  obtain ⟨hr, ha, ht, hf, hw, hs, hb, hp, hg, hy⟩ := h'
  have h1 := is_h hs
  have h2 := is_u hs
  have h3 := is_r hs
  have h4 := is_m hs
  have hS3 := wn_S hW
  have hT := wn_T hW
  obtain ⟨gO, gB, g6, g7, g12⟩ := hG
  have c6 : cut (M 392) 216 = M 392 216 := cut_at (by decide) (by decide)
  have no : ¬ ((0 ≤ x ∧ x < N 0 1) ∧ (1 ≤ y ∧ y ≤ 999) ∧ M 392 (192 + N 5 x) + y ≤ 999999) → Mw (d + 2) 219 [vr 364, vi x, vi y] SHX R M 0 0 (fun w sh2 R2 M2 => sh2 = SHX ∧ -1 = w ∧ Inv (c + 1) R2 M2) := fun hx => by
    refine Mw_of mok219 rfl fun _ _ => b_X12_begin_0 ?_
    rw [ok364]
    refine w_startMany (d := d + 1) hR (nm_b hM) b0 b1 ?_
    rw [nm_S hM, isub_of (by omega) (by omega)]
    refine m_isIn (fun k0 k1 _ => ?_) fun g _ => ?_
    · rw [if_neg (by decide)]
      refine m_isIn (fun u0 u1 _ => ?_) fun g _ => ?_
      · have k5 := wn_st hW x k0 (by omega)
        have e5 := gO.1 (192 + N 5 x) (by omega) (by omega)
        have e5' := ms_le gO.1 (i := 192 + N 5 x) (by omega) (by omega)
        have e5'' := gO.2.1
        rw [cut_at (by omega) (by omega)] at e5 e5'
        rw [if_neg (by decide), ok364, ok364, fr19 hR, ak375, ok364, fr42 hR, nm_b hM, imul_of (by omega) (by omega), iadd_of (x := 3 * b) (by omega) (by omega), nm5 hM, iadd_of (x := 192) (by omega) (by omega), ak392, iadd_of (by omega) (by omega), if_pos (by omega)]
        exact ⟨by omega, by omega, by omega, by omega, rfl, rfl, same h⟩
      · rw [if_pos rfl]
        exact ⟨rfl, rfl, same h⟩
    · rw [if_pos rfl]
      exact ⟨rfl, rfl, same h⟩
  refine Mw_of mok113 rfl fun _ _ => b_X11_begin_0 ?_
  rw [ok0]
  refine c_isStart (d := d) hn hN hC hW (fun k0 k1 _ => ?_) fun k0 _ => ?_
  · rw [if_neg (by decide)]
    refine c_isWithin (d := d + 1) (fun y0 y1 _ => ?_) fun y0 _ => ?_
    · have k5 := wn_st hW x k0 k1
      obtain ⟨t, ht5⟩ : ∃ t, t = N 5 x := ⟨_, rfl⟩
      have e5 := gO.1 (192 + t) (by omega) (by omega)
      have e5' := ms_le gO.1 (i := 192 + t) (by omega) (by omega)
      have e5'' := gO.2.1
      have ct : cut (M 392) (192 + t) = M 392 (192 + t) := cut_at (by omega) (by omega)
      have eth : M (38 + 5 * M 36 1 + 3) t = M 392 (192 + t) := by rw [← ct]; exact sky_th hA t (by omega) (by omega)
      rw [if_neg (by decide), ok0, hn, okN hN, nr6 hN, aN5 hN, ok0, rc0_2 hc, ok36, nc5 hC x k0 k1, ← ht5]
      refine ⟨k0, by omega, c_now (d := d + 1) hc g0 g1 ?_⟩
      rw [okS hS, sr2 hS, aS3 hS, eth, isub_of (by omega) (by omega)]
      refine ⟨by omega, by omega, ?_⟩
      by_cases hmax : 999999 - y < M 392 (192 + t)
      · rw [if_pos hmax]
        exact ⟨rfl, no fun z => by have := z.2.2; rw [← ht5] at this; omega⟩
      · rw [if_neg hmax, ok0, rc0_2 hc, ok36]
        obtain ⟨u', hu⟩ : ∃ u', u' = if M 364 51 = 40 then 40 else M 364 51 + 1 := ⟨_, rfl⟩
        have hu1 : 1 ≤ u' ∧ u' ≤ 40 := by rw [hu]; split <;> omega
        refine c_goOn (d := d) (u' := u') hc g0 g1 (by omega) (by omega) hA (by rw [h2.1]; exact hu) fun A1 hA1 => ?_
        obtain ⟨h', hh⟩ : ∃ h', h' = (M 36 1 + 1) % 41 := ⟨_, rfl⟩
        rw [← hh]
        have hS' := SR37 hc (show 0 ≤ h' by omega) (show h' < 41 by omega)
        have g12' : cut (M 392) 212 = M 392 212 := cut_at (by decide) (by decide)
        have n12 := gO.1 212 (by decide) (by decide)
        rw [okS hS']
        refine c_settle (d := d + 1) hS' hA1 gO (by omega) (by omega) (by omega) (by omega) (by omega) (by omega) fun A2 hA2 => ?_
        have hA3 := sky_begun (v := M 392 212 + y) hA2
        have e12 : upf (cut (M 392)) (192 + t) (cut (M 392) (192 + t) + y) 212 = M 392 212 := by rw [upf_ne (by omega), g12']
        rw [e12, show 0 + y + M 392 212 - (M 392 212 + y) = 0 by omega, ct] at hA3
        have eth2 : A2 3 t = M 392 (192 + t) + y := by
          have := sky_th hA3 t (by omega) (by omega)
          rw [this, upf_ne (by omega), upf_hit]
        rw [okS hS', sr2 hS', aS3 hS', CS_3, eth2]
        refine ⟨by omega, by omega, rfl, ?_⟩
        obtain ⟨a, haa⟩ : ∃ a, a = 38 + 5 * h' := ⟨_, rfl⟩
        rw [← haa]
        have a0 : 38 ≤ a ∧ a ≤ 238 := by omega
        refine Mw_of mok219 rfl fun _ _ => b_X12_begin_0 ?_
        have r364 : ∀ j, CS (stm (stm (stm M 36 1 h') 36 2 u') 36 3 0) a A2 364 j = M 364 j := fun j => by rw [CS_ne (by omega)]; simp (disch := omega) only [stm_neq]
        have rhi : ∀ q, 243 ≤ q → CS (stm (stm (stm M 36 1 h') 36 2 u') 36 3 0) a A2 q = M q := fun q hq => by rw [CS_ne (by omega)]; simp (disch := omega) only [stm_ne]
        rw [ok364]
        refine w_startMany (d := d + 1) hR (by rw [r364]; exact nm_b hM) b0 b1 ?_
        rw [rhi _ (by decide), nm_S hM, isub_of (by omega) (by omega)]
        refine m_isIn (fun _ _ _ => ?_) fun g _ => absurd ⟨k0, by omega⟩ g
        rw [if_neg (by decide)]
        refine m_isIn (fun _ _ _ => ?_) fun g _ => absurd ⟨y0, y1⟩ g
        rw [if_neg (by decide), ok364, ok364, fr19 hR, ak375, ok364, fr42 hR, r364, nm_b hM, imul_of (by omega) (by omega), iadd_of (x := 3 * b) (by omega) (by omega), rhi 375 (by decide), nm5 hM, ← ht5, iadd_of (x := 192) (by omega) (by omega), ak392, rhi 392 (by decide), iadd_of (x := M 392 (192 + t)) (by omega) (by omega), if_neg (by omega), ok364]
        refine ⟨by omega, by omega, by omega, by omega, m_keepAct (d := d + 1) (u' := u') hR (by rw [r364]; omega) (by rw [r364]; omega) (by rw [r364]; exact hu) fun W w1 w2 => ?_⟩
        rw [r364, rhi 397 (by decide)] at w1
        rw [rhi 392 (by decide)] at w2
        simp (disch := omega) only [ok364, fr19 hR, ak375, fr42 hR, ak392, stm_neq, stm_hit, rset_ne, rhi, iadd_of]
        refine ⟨by omega, by omega, by omega, by omega, by decide, by decide, by decide, by decide, by omega, by omega, trivial, trivial, b, N, ?_⟩
        have eS : ∀ i, 0 ≤ i → i < 218 → cut (stm (stm (stm (stm (rset (CS (stm (stm (stm M 36 1 h') 36 2 u') 36 3 0) a A2) 397 W) 364 51 u') 364 52 0) 392 (192 + t) (M 392 (192 + t) + y)) 392 212 (M 392 212 + y) 392) i = upf (upf (cut (M 392)) (192 + t) (M 392 (192 + t) + y)) 212 (M 392 212 + y) i := fun i i0 i1 => by
          rw [cut_at i0 i1]
          by_cases hi : i = 212
          · rw [hi, stm_hit, upf_hit]
          · rw [stm_neq (by omega), upf_ne hi]
            by_cases hi2 : i = 192 + t
            · rw [hi2, stm_hit, upf_hit]
            · rw [stm_neq (by omega), upf_ne hi2, stm_neq (by omega), stm_neq (by omega), rset_ne (by omega), rhi _ (by decide), cut_at i0 i1]
        have hs' := IS_new (c := c) (N := N) (u' := u') (M' := stm (stm (stm (stm (rset (CS (stm (stm (stm M 36 1 h') 36 2 u') 36 3 0) a A2) 397 W) 364 51 u') 364 52 0) 392 (192 + t) (M 392 (192 + t) + y)) 392 212 (M 392 212 + y)) hs (by simp (disch := omega) only [stm_neq, rset_ne, CS_n, stm_hit]; exact hh) (by simp (disch := omega) only [stm_neq, rset_ne, CS_n, stm_hit]) (by simp (disch := omega) only [stm_neq, rset_ne, CS_n, stm_hit]) (by simp (disch := omega) only [stm_neq, rset_ne, CS_n, stm_hit]) (by simp (disch := omega) only [stm_neq, rset_ne, CS_n, stm_hit]) hu (fun q q0 q1 q2 => by
            have e36 : stm (stm (stm (stm (rset (CS (stm (stm (stm M 36 1 h') 36 2 u') 36 3 0) a A2) 397 W) 364 51 u') 364 52 0) 392 (192 + t) (M 392 (192 + t) + y)) 392 212 (M 392 212 + y) 36 1 = h' := by simp (disch := omega) only [stm_neq, rset_ne, CS_n, stm_hit]
            rw [e36] at q2
            rw [stm_ne (by omega), stm_ne (by omega), stm_ne (by omega), stm_ne (by omega), rset_ne (by omega), CS_ne (by omega), stm_ne (by omega), stm_ne (by omega), stm_ne (by omega)]) (by
            have e36 : stm (stm (stm (stm (rset (CS (stm (stm (stm M 36 1 h') 36 2 u') 36 3 0) a A2) 397 W) 364 51 u') 364 52 0) 392 (192 + t) (M 392 (192 + t) + y)) 392 212 (M 392 212 + y) 36 1 = h' := by simp (disch := omega) only [stm_neq, rset_ne, CS_n, stm_hit]
            rw [e36, ← haa]
            refine SKY_agree hA3 (fun r j r0 r1 => ?_) eS
            show stm _ 392 212 _ (a + r) j = A2 r j
            rw [stm_neq (by omega), stm_neq (by omega), stm_neq (by omega), stm_neq (by omega), rset_ne (by omega), CS_k r0 r1]) (by
            refine GD_agree (S := upf (upf (cut (M 392)) (192 + t) (M 392 (192 + t) + y)) 212 (M 392 212 + y)) hW ?_ eS (by unfold cut; rw [if_neg (by decide)]; decide)
            have o1 := OKS_stay (v := M 392 (192 + t) + y) (t := t) gO (by omega) (by omega) (by omega) hT.2 (fun z => by rw [ht5, k5.2.2] at z; omega)
            have o2 := OKS_out (i := 212) (v := M 392 212 + y) o1 (by omega) (by decide) (by decide) (by decide) hT.2
            refine ⟨o2.mono ?_, ⟨?_, fun u u0 u1 => ?_⟩, ?_, ?_, ?_⟩
            · rw [upf_ne (by decide), upf_ne (by omega), ct]; omega
            · rw [upf_ne (by decide), upf_ne (by omega), upf_ne (by decide), upf_ne (by omega)]; exact gB.1
            · rw [upf_ne (by omega), upf_ne (by omega), upf_ne (by decide), upf_ne (by omega)]; exact gB.2 u u0 u1
            · rw [upf_ne (by decide), upf_ne (by omega)]; exact g6
            · rw [upf_ne (by decide), upf_ne (by omega)]; exact g7
            · rw [upf_hit]; omega) (fun q i q0 q1 i0 i1 => by
            rw [stm_neq (by omega), stm_neq (by omega), stm_neq (by omega), stm_neq (by omega), rset_hit]
            exact w1 q i q0 q1 i0 i1) (fun i i0 i1 => by
            rw [stm_neq (by omega), stm_neq (by omega), stm_neq (by omega), stm_neq (by omega), rset_hit]
            exact w2 i i0 i1)
        exact ⟨hr, IA_of ha (by simp (disch := omega) only [rset_ne, stm_neq, CS_ne]) (fun q _ _ _ => by simp (disch := omega) only [rset_ne, stm_ne, CS_ne]) (fun q _ _ => by simp (disch := omega) only [rset_ne, stm_ne, CS_ne]) (by simp (disch := omega) only [rset_ne, stm_ne, CS_ne]) (by simp (disch := omega) only [rset_ne, stm_ne, CS_ne]) (by simp (disch := omega) only [rset_ne, stm_ne, CS_ne]), IT_of ht (by simp (disch := omega) only [rset_ne, stm_neq, CS_ne]) (by simp (disch := omega) only [rset_ne, stm_neq, CS_ne]) (by simp (disch := omega) only [rset_ne, stm_ne, CS_ne]) (by simp (disch := omega) only [rset_ne, stm_ne, CS_ne]) (by simp (disch := omega) only [rset_ne, stm_ne, CS_ne]), IF_of hf (by simp (disch := omega) only [rset_ne, stm_neq, CS_ne]) (by simp (disch := omega) only [rset_ne, stm_neq, CS_ne]) (by simp (disch := omega) only [rset_ne, stm_neq, CS_ne]) (by simp (disch := omega) only [rset_ne, stm_neq, CS_ne]) (by simp (disch := omega) only [rset_ne, stm_neq, CS_ne]) (le_eqr (by simp (disch := omega) only [rset_ne, stm_neq, CS_ne]) (if_s hf)), IW_of hw (fun i _ _ => by simp (disch := omega) only [rset_ne, stm_neq, CS_ne]) (fun i _ _ => by simp (disch := omega) only [rset_ne, stm_neq, CS_ne]), hs', IB_of hb (Nat.le_succ c) (by simp (disch := omega) only [rset_ne, stm_ne, CS_ne]) (fun q _ _ => by simp (disch := omega) only [rset_ne, stm_ne, CS_ne]) (by simp (disch := omega) only [rset_ne, stm_ne, CS_ne]) (by simp (disch := omega) only [rset_ne, stm_ne, CS_ne]), IP_of hp (by simp (disch := omega) only [rset_ne, stm_neq, CS_ne]) (by simp (disch := omega) only [rset_ne, stm_neq, CS_ne]) (by simp (disch := omega) only [rset_ne, stm_ne, CS_ne]) (by simp (disch := omega) only [rset_ne, stm_ne, CS_ne]) (by simp (disch := omega) only [rset_ne, stm_ne, CS_ne]) (by simp (disch := omega) only [rset_ne, stm_ne, CS_ne]), IG_of hg (by simp (disch := omega) only [rset_ne, stm_neq, CS_ne]) (by simp (disch := omega) only [rset_ne, stm_neq, CS_ne]) (by simp (disch := omega) only [rset_ne, stm_neq, CS_ne]) (by simp (disch := omega) only [rset_ne, stm_neq, CS_ne]) (fun q _ _ => by simp (disch := omega) only [rset_ne, stm_ne, CS_ne]) (fun q _ _ => by simp (disch := omega) only [rset_ne, stm_ne, CS_ne]), IY_of hy (by simp (disch := omega) only [rset_ne, stm_neq, CS_ne]) (by simp (disch := omega) only [rset_ne, stm_neq, CS_ne]) (by simp (disch := omega) only [rset_ne, stm_ne, CS_ne]) (fun i _ => by simp (disch := omega) only [rset_ne, stm_neq, CS_ne])⟩
    · rw [if_pos rfl]
      exact ⟨rfl, no fun z => y0 z.2.1⟩
  · rw [if_pos rfl]
    exact ⟨rfl, no fun z => k0 z.1⟩
end
