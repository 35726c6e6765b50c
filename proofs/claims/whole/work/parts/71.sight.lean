/-! SIGHT -/
section
variable {d c : Nat} {R M : MEM} {b n v x y z : Int} {N : NTW} {Q : RES}
def tlM (M : MEM) (n x y z t : Int) : MEM := stm (stm (stm (stm (stm (stm M 356 n x) 357 n y) 358 n z) 359 n t) 360 n (-1)) 355 0 (n + 1)
def sgM (M : MEM) (n x y z t : Int) : MEM := stm (stm (stm (stm (stm (stm M 405 n x) 406 n y) 407 n z) 408 n t) 409 n (-1)) 364 70 (n + 1)
theorem c_tell {t : Int} (hC : RC R) (hn : M 355 0 = n) (n0 : 0 ≤ n) (n1 : n < 20) (hq : Q n SHX R (tlM M n x y z t)) : Mw d 61 [vr 355, vi x, vi y, vi z, vi t] SHX R M 0 0 Q := by
  refine Mw_of mok61 rfl fun _ _ => b_X7_tell_0 ?_
  rw [ok355, hn, if_pos n1]
  simp (disch := omega) only [ok355, rc355_1 hC, rc355_2 hC, rc355_3 hC, rc355_4 hC, rc355_5 hC, ak356, ak357, ak358, ak359, ak360, stm_neq, stm_hit, hn, iadd_of, isub_of]
  rw [show n + 1 - 1 = n by omega]
  exact ⟨n0, n1, n0, n1, n0, n1, n0, n1, n0, n1, hq⟩
theorem p_sight (h : INV c R M b N) : PR (d + 3) 136 263 [vi x, vi y, vi z] R M (Inv (c + 1)) := by
  obtain ⟨hn, hN, hC, hW, hM, hc, hR, b0, b1⟩ := in_net h
  have h' := h
  obtain ⟨hr, ha, ht, hf, hw, hs, hb, hp, hg, hy⟩ := h'
  obtain ⟨p1, p2, p3⟩ := ig_n hg
  obtain ⟨t1, t2, t3⟩ := ig_t hg
  have hT := wn_T hW
  have no : ¬ ((0 ≤ x ∧ x < N 0 0 ∧ N 1 x = 4) ∧ (1 ≤ y ∧ y ≤ 60) ∧ (0 ≤ z ∧ z ≤ 999999) ∧ M 364 70 < 20) → Mw (d + 3) 263 [vr 364, vi x, vi y, vi z] SHX R M 0 0 (fun w sh2 R2 M2 => sh2 = SHX ∧ -1 = w ∧ Inv (c + 1) R2 M2) := fun hx => by
    refine Mw_of mok263 rfl fun _ _ => b_X12_sight_0 ?_
    rw [ok364]
    refine m_isDusk (d := d) hR hM hW (fun q0 q1 q2 _ => ?_) fun g _ => ?_
    · rw [if_neg (by decide)]
      refine m_isIn (fun k0 k1 _ => ?_) fun g _ => ?_
      · rw [if_neg (by decide)]
        refine m_isIn (fun u0 u1 _ => ?_) fun g _ => ?_
        · rw [if_neg (by decide), ok364, if_pos (by omega)]
          exact ⟨rfl, rfl, same h⟩
        · rw [if_pos rfl]
          exact ⟨rfl, rfl, same h⟩
      · rw [if_pos rfl]
        exact ⟨rfl, rfl, same h⟩
    · rw [if_pos rfl]
      exact ⟨rfl, rfl, same h⟩
  refine Mw_of mok136 rfl fun _ _ => b_X11_sight_0 ?_
  rw [ok0]
  refine c_isDusk (d := d) hn hN hC hW (fun q0 q1 q2 _ => ?_) fun h0 _ => ?_
  · rw [if_neg (by decide)]
    refine c_isWithin (d := d + 2) (fun h0 h1 _ => ?_) fun h0 _ => ?_
    · rw [if_neg (by decide)]
      refine c_isWithin (d := d + 2) (fun k0 k1 _ => ?_) fun k0 _ => ?_
      · rw [if_neg (by decide), ok0, ok0, rc0_10 hc, ok355]
        by_cases h4 : M 364 70 < 20
        · refine c_tell (d := d + 2) hc p1 p2 h4 ?_
          have g0 : tlM M (M 364 70) x y z (M 0 14) 364 70 = M 364 70 := by unfold tlM; simp (disch := omega) only [stm_neq]
          have g1 : tlM M (M 364 70) x y z (M 0 14) 364 71 = M 364 71 := by unfold tlM; simp (disch := omega) only [stm_neq]
          have hM2 : NM (tlM M (M 364 70) x y z (M 0 14)) b N := NM_of hM (by unfold tlM; simp (disch := omega) only [stm_neq]) (fun q _ _ => by unfold tlM; simp (disch := omega) only [stm_ne]) (by unfold tlM; simp (disch := omega) only [stm_ne])
          generalize hX : tlM M (M 364 70) x y z (M 0 14) = X at *
          refine ⟨rfl, Mw_of mok263 rfl fun _ _ => b_X12_sight_0 ?_⟩
          rw [ok364]
          refine m_isDusk (d := d) hR hM2 hW (fun _ _ _ _ => ?_) fun g _ => absurd ⟨q0, q1, q2⟩ g
          rw [if_neg (by decide)]
          refine m_isIn (fun _ _ _ => ?_) fun g _ => absurd ⟨h0, h1⟩ g
          rw [if_neg (by decide)]
          refine m_isIn (fun _ _ _ => ?_) fun g _ => absurd ⟨k0, k1⟩ g
          rw [if_neg (by decide), ok364, g0, if_neg (show ¬ M 364 70 = 20 by omega)]
          simp (disch := omega) only [ok364, fr62 hR, fr63 hR, fr64 hR, fr65 hR, fr66 hR, ak405, ak406, ak407, ak408, ak409, stm_neq, stm_hit, g0, g1, iadd_of, isub_of]
          rw [show M 364 70 + 1 - 1 = M 364 70 by omega, ← hX]
          have hg' : IG (sgM (tlM M (M 364 70) x y z (M 0 14)) (M 364 70) x y z (M 364 71)) N := by
            unfold sgM tlM
            refine ⟨⟨by simp (disch := omega) only [stm_neq, stm_hit], by rw [stm_hit]; omega, by rw [stm_hit]; omega⟩, by simp (disch := omega) only [stm_neq]; exact ig_t hg, fun i i0 i1 => ?_⟩
            rw [stm_hit] at i1
            by_cases hi : i = M 364 70
            · simp (disch := omega) only [hi, stm_neq, stm_hit]
              exact ⟨trivial, trivial, trivial, t1, ⟨q0, q1⟩, ⟨h0, h1⟩, Or.inl ⟨trivial, trivial⟩⟩
            · simp (disch := omega) only [stm_neq]
              exact ig_v hg i i0 (by omega)
          exact ⟨p2, h4, p2, h4, p2, h4, p2, h4, p2, h4, trivial, rfl, b, N, ⟨hr, IA_of ha (by unfold tlM; simp (disch := omega) only [stm_neq]) (fun q _ _ _ => by unfold tlM; simp (disch := omega) only [stm_ne]) (fun q _ _ => by unfold tlM; simp (disch := omega) only [stm_ne]) (by unfold tlM; simp (disch := omega) only [stm_ne]) (by unfold tlM; simp (disch := omega) only [stm_ne]) (by unfold tlM; simp (disch := omega) only [stm_ne]), IT_of ht (by unfold tlM; simp (disch := omega) only [stm_neq]) (by unfold tlM; simp (disch := omega) only [stm_neq]) (by unfold tlM; simp (disch := omega) only [stm_ne]) (by unfold tlM; simp (disch := omega) only [stm_ne]) (by unfold tlM; simp (disch := omega) only [stm_ne]), IF_of hf (by unfold tlM; simp (disch := omega) only [stm_neq]) (by unfold tlM; simp (disch := omega) only [stm_neq]) (by unfold tlM; simp (disch := omega) only [stm_neq]) (by unfold tlM; simp (disch := omega) only [stm_neq]) (by unfold tlM; simp (disch := omega) only [stm_neq]) (le_eqr (by unfold tlM; simp (disch := omega) only [stm_neq]) (if_s hf)), IW_of hw (fun i _ _ => by unfold tlM; simp (disch := omega) only [stm_neq]) (fun i _ _ => by unfold tlM; simp (disch := omega) only [stm_neq]), IS_of hs (Nat.le_succ c) (fun j _ _ => by unfold tlM; simp (disch := omega) only [stm_neq]) (fun q _ _ => by unfold tlM; simp (disch := omega) only [stm_ne]) (by unfold tlM; simp (disch := omega) only [stm_neq]) (by unfold tlM; simp (disch := omega) only [stm_neq]) (fun i _ _ => by unfold tlM; simp (disch := omega) only [stm_neq]) (by unfold tlM; simp (disch := omega) only [stm_ne]), IB_of hb (Nat.le_succ c) (by unfold tlM; simp (disch := omega) only [stm_ne]) (fun q _ _ => by unfold tlM; simp (disch := omega) only [stm_ne]) (by unfold tlM; simp (disch := omega) only [stm_ne]) (by unfold tlM; simp (disch := omega) only [stm_ne]), IP_of hp (by unfold tlM; simp (disch := omega) only [stm_neq]) (by unfold tlM; simp (disch := omega) only [stm_neq]) (by unfold tlM; simp (disch := omega) only [stm_ne]) (by unfold tlM; simp (disch := omega) only [stm_ne]) (by unfold tlM; simp (disch := omega) only [stm_ne]) (by unfold tlM; simp (disch := omega) only [stm_ne]), hg', IY_of hy (by unfold tlM; simp (disch := omega) only [stm_neq]) (by unfold tlM; simp (disch := omega) only [stm_neq]) (by unfold tlM; simp (disch := omega) only [stm_ne]) (fun i _ => by unfold tlM; simp (disch := omega) only [stm_neq])⟩⟩
        · refine Mw_of mok61 rfl fun _ _ => b_X7_tell_0 ?_
          rw [ok355, p1, if_neg h4]
          exact ⟨rfl, no fun z => h4 z.2.2.2⟩
      · rw [if_pos rfl]
        exact ⟨rfl, no fun z => k0 z.2.2.1⟩
    · rw [if_pos rfl]
      exact ⟨rfl, no fun z => h0 z.2.1⟩
  · rw [if_pos rfl]
    exact ⟨rfl, no fun z => h0 z.1⟩
end
