/-! OPS: those that only tell -/
theorem le_eqr {a b : Int} (h : a = b) (h2 : 0 ≤ b) : 0 ≤ a := h ▸ h2
def fsk (M : MEM) : SK := fun i => if i = 218 then M 364 49 else M 392 i
theorem GD_agree {N : NTW} {S S' : SK} {c : Nat} (hW : WN N) (h : GD N S c) (e : ∀ i, 0 ≤ i → i < 218 → S' i = S i) (h8 : 0 ≤ S' 218) : GD N S' c := by
  have hT := wn_T hW
  have hw := wn_W hW
  refine ⟨?_, BD_agree h.2.1 e, ?_, ?_, ?_⟩
  · rw [e 216 (by decide) (by decide)]; exact OKS_agree h.1 e h8 hT hw.1
  · rw [e 216 (by decide) (by decide)]; exact h.2.2.1
  · rw [e 217 (by decide) (by decide)]; exact h.2.2.2.1
  · rw [e 212 (by decide) (by decide)]; exact h.2.2.2.2
theorem fsk_at {M : MEM} {i : Int} (h : i < 218) : fsk M i = M 392 i := if_neg (by omega)
theorem in_fsk {c : Nat} {R M : MEM} {b : Int} {N : NTW} (h : INV c R M b N) : GD N (fsk M) c := by
  refine GD_agree (in_net h).2.2.2.1 (in_now h).2.2.2.1 (fun i i0 i1 => ?_) ?_
  · rw [fsk_at i1, cut_at i0 i1]
  · show 0 ≤ (if (218 : Int) = 218 then M 364 49 else _)
    rw [if_pos rfl]
    exact if_s (in_f h)
theorem FM_fsk (M : MEM) : FM M (fsk M) (M 395) = M := FM_self M
theorem same {c : Nat} {R M : MEM} {b : Int} {N : NTW} (h : INV c R M b N) : Inv (c + 1) R M := ⟨b, N, INV_keep h (Nat.le_succ c) (fun _ _ _ => rfl) (if_s (in_f h))⟩
section
variable {d c : Nat} {R M : MEM} {b : Int} {N : NTW} {x y z : Int}
theorem p_fault (h : INV c R M b N) : PR d 108 192 [vi x] R M (Inv (c + 1)) := by
  obtain ⟨hn, hN, hC, hW, hM, hc, hR, b0, b1⟩ := in_net h
  have hf := in_f h
  refine Mw_of mok108 rfl fun _ _ => b_X11_fault_0 ?_
  by_cases h0 : x = 0
  · rw [if_pos h0, ok0, rc0_1 hc, ok33]
    refine ⟨rfl, Mw_of mok192 rfl fun _ _ => b_X12_fault_0 ?_⟩
    rw [if_pos h0, ok364]
    exact ⟨rfl, if_k hf, same h⟩
  · rw [if_neg h0]
    by_cases h1 : x = 1
    · rw [if_pos h1, ok0, rc0_1 hc, ok33]
      refine ⟨rfl, Mw_of mok192 rfl fun _ _ => b_X12_fault_0 ?_⟩
      rw [if_neg h0, if_pos h1, ok364]
      exact ⟨rfl, if_p hf, same h⟩
    · rw [if_neg h1]
      refine ⟨rfl, Mw_of mok192 rfl fun _ _ => b_X12_fault_0 ?_⟩
      rw [if_neg h0, if_neg h1]
      exact ⟨rfl, rfl, same h⟩
theorem p_lies (h : INV c R M b N) : PR (d + 1) 135 224 [vi x] R M (Inv (c + 1)) := by
  obtain ⟨hn, hN, hC, hW, hM, hc, hR, b0, b1⟩ := in_net h
  have hy := in_y h
  have h5 := iy_n hy
  refine Mw_of mok135 rfl fun _ _ => b_X11_lies_0 ?_
  rw [ok0, rc0_11 hc, ok338, h5.1, isub_of (by omega) (by omega)]
  refine c_isWithin (fun h0 h1 _ => ?_) fun h0 _ => ?_
  · rw [if_neg (by decide), ok0, rc0_11 hc, ok338, rc338_0 hc, ak339]
    refine ⟨h0, by omega, rfl, Mw_of mok224 rfl fun _ _ => b_X12_lies_0 ?_⟩
    rw [ok364, isub_of (by omega) (by omega)]
    refine m_isIn (fun _ _ _ => ?_) fun g _ => absurd ⟨h0, h1⟩ g
    rw [if_neg (by decide), ok364, fr53 hR, ak398]
    exact ⟨h0, by omega, rfl, iy_v hy x h0 (by omega), same h⟩
  · rw [if_pos rfl]
    refine ⟨rfl, Mw_of mok224 rfl fun _ _ => b_X12_lies_0 ?_⟩
    rw [ok364, isub_of (by omega) (by omega)]
    refine m_isIn (fun g0 g1 _ => absurd ⟨g0, g1⟩ h0) fun _ _ => ?_
    rw [if_pos rfl]
    exact ⟨rfl, rfl, same h⟩
theorem p_tower (h : INV c R M b N) : PR (d + 2) 109 213 [vi x, vi y] R M (Inv (c + 1)) := by
  obtain ⟨hn, hN, hC, hW, hM, hc, hR, b0, b1⟩ := in_net h
  obtain ⟨hS, h37, hA, hG, g0, g1⟩ := in_now h
  have hT := wn_T hW
  refine Mw_of mok109 rfl fun _ _ => b_X11_tower_0 ?_
  rw [ok0]
  refine c_isTower (d := d) hn hN hC hW (fun h0 h1 _ => ?_) fun h0 _ => ?_
  · rw [if_neg (by decide)]
    have hr : ∀ {v : Int}, (y = 0 → v = N 1 x) → (¬ y = 0 → y = 1 → v = N 2 x) → (¬ y = 0 → ¬ y = 1 → y = 2 → v = M 392 (192 + x)) → (¬ y = 0 → ¬ y = 1 → ¬ y = 2 → y = 3 → v = M 392 (202 + x)) → (¬ y = 0 → ¬ y = 1 → ¬ y = 2 → ¬ y = 3 → v = -1) → Mw (d + 2) 213 [vr 364, vi x, vi y] SHX R M 0 0 (fun w sh2 R2 M2 => sh2 = SHX ∧ v = w ∧ Inv (c + 1) R2 M2) := by
      intro v v0 v1 v2 v3 v4
      refine Mw_of mok213 rfl fun _ _ => b_X12_tower_0 ?_
      rw [ok364]
      refine m_isTower (d := d) hR hM hW (fun _ _ _ => ?_) fun g _ => absurd ⟨h0, h1⟩ g
      rw [if_neg (by decide)]
      by_cases y0 : y = 0
      · rw [if_pos y0, ok364]
        exact m_sortOf (d := d + 1) hR hM h0 (by omega) ⟨rfl, v0 y0, same h⟩
      · rw [if_neg y0]
        by_cases y1 : y = 1
        · rw [if_pos y1]
          simp (disch := omega) only [ok364, fr18 hR, ak374, nm_b hM, imul_of, iadd_of, nm2 hM]
          exact ⟨by omega, by omega, trivial, v1 y0 y1, same h⟩
        · rw [if_neg y1]
          by_cases y2 : y = 2
          · rw [if_pos y2]
            simp (disch := omega) only [ok364, fr42 hR, ak392, iadd_of]
            exact ⟨by omega, by omega, trivial, v2 y0 y1 y2, same h⟩
          · rw [if_neg y2]
            by_cases y3 : y = 3
            · rw [if_pos y3]
              simp (disch := omega) only [ok364, fr42 hR, ak392, iadd_of]
              exact ⟨by omega, by omega, trivial, v3 y0 y1 y2 y3, same h⟩
            · rw [if_neg y3]
              exact ⟨rfl, v4 y0 y1 y2 y3, same h⟩
    by_cases y0 : y = 0
    · rw [if_pos y0, ok0, hn, okN hN, nr1 hN, aN1 hN, nc1 hC x h0 h1]
      exact ⟨h0, by omega, rfl, hr (fun _ => rfl) (fun z => absurd y0 z) (fun z => absurd y0 z) (fun z => absurd y0 z) (fun z => absurd y0 z)⟩
    · rw [if_neg y0]
      by_cases y1 : y = 1
      · rw [if_pos y1, ok0, hn, okN hN, nr2 hN, aN2 hN, nc2 hC x h0 h1]
        exact ⟨h0, by omega, rfl, hr (fun z => absurd z y0) (fun _ _ => rfl) (fun _ z => absurd y1 z) (fun _ z => absurd y1 z) (fun _ z => absurd y1 z)⟩
      · rw [if_neg y1]
        by_cases y2 : y = 2
        · rw [if_pos y2, ok0, rc0_2 hc, ok36]
          refine c_now hc g0 g1 ?_
          have e : M (38 + 5 * M 36 1 + 3) x = cut (M 392) (192 + x) := sky_th hA x h0 (by omega)
          rw [okS hS, sr2 hS, aS3 hS, e, cut_at (by omega) (by omega)]
          exact ⟨h0, by omega, rfl, hr (fun z => absurd z y0) (fun _ z => absurd z y1) (fun _ _ _ => rfl) (fun _ _ z => absurd y2 z) (fun _ _ z => absurd y2 z)⟩
        · rw [if_neg y2]
          by_cases y3 : y = 3
          · rw [if_pos y3, ok0, rc0_2 hc, ok36]
            refine c_now hc g0 g1 ?_
            have e : M (38 + 5 * M 36 1 + 4) x = cut (M 392) (202 + x) := sky_ca hA x h0 (by omega)
            rw [okS hS, sr3 hS, aS4 hS, e, cut_at (by omega) (by omega)]
            exact ⟨h0, by omega, rfl, hr (fun z => absurd z y0) (fun _ z => absurd z y1) (fun _ _ z => absurd z y2) (fun _ _ _ _ => rfl) (fun _ _ _ z => absurd y3 z)⟩
          · rw [if_neg y3]
            exact ⟨rfl, hr (fun z => absurd z y0) (fun _ z => absurd z y1) (fun _ _ z => absurd z y2) (fun _ _ _ z => absurd z y3) (fun _ _ _ _ => rfl)⟩
  · rw [if_pos rfl]
    refine ⟨rfl, Mw_of mok213 rfl fun _ _ => b_X12_tower_0 ?_⟩
    rw [ok364]
    refine m_isTower (d := d) hR hM hW (fun k0 k1 _ => absurd ⟨k0, k1⟩ h0) fun g _ => ?_
    rw [if_pos rfl]
    exact ⟨rfl, rfl, same h⟩
theorem p_way (h : INV c R M b N) (hc5 : c ≤ 512) : PR (d + 2) 110 214 [vi x, vi y] R M (Inv (c + 1)) := by
  obtain ⟨hn, hN, hC, hW, hM, hc, hR, b0, b1⟩ := in_net h
  obtain ⟨hS, h37, hA, hG, g0, g1⟩ := in_now h
  have hw := wn_W hW
  have hb := ia_b (in_a h)
  have hF := in_fsk h
  refine Mw_of mok110 rfl fun _ _ => b_X11_way_0 ?_
  rw [ok0]
  refine c_isWay (d := d) hn hN hC hW (fun h0 h1 _ => ?_) fun h0 _ => ?_
  · rw [if_neg (by decide)]
    have hr : ∀ {v : Int}, (y = 0 → v = N 6 x) → (¬ y = 0 → y = 1 → v = N 7 x) → (¬ y = 0 → ¬ y = 1 → y = 2 → v = N 8 x) → (¬ y = 0 → ¬ y = 1 → ¬ y = 2 → y = 3 → v = sm (M 392) (12 * x) 12) → (¬ y = 0 → ¬ y = 1 → ¬ y = 2 → ¬ y = 3 → v = -1) → Mw (d + 2) 214 [vr 364, vi x, vi y] SHX R M 0 0 (fun w sh2 R2 M2 => sh2 = SHX ∧ v = w ∧ Inv (c + 1) R2 M2) := by
      intro v v0 v1 v2 v3 v4
      refine Mw_of mok214 rfl fun _ _ => b_X12_way_0 ?_
      rw [ok364]
      refine m_isWay (d := d) hR hM hW (fun _ _ _ => ?_) fun g _ => absurd ⟨h0, h1⟩ g
      rw [if_neg (by decide)]
      by_cases y0 : y = 0
      · rw [if_pos y0]
        simp (disch := omega) only [ok364, fr20 hR, ak376, nm_b hM, imul_of, iadd_of, nm6 hM]
        exact ⟨by omega, by omega, trivial, v0 y0, same h⟩
      · rw [if_neg y0]
        by_cases y1 : y = 1
        · rw [if_pos y1]
          simp (disch := omega) only [ok364, fr21 hR, ak377, nm_b hM, imul_of, iadd_of, nm7 hM]
          exact ⟨by omega, by omega, trivial, v1 y0 y1, same h⟩
        · rw [if_neg y1]
          by_cases y2 : y = 2
          · rw [if_pos y2]
            simp (disch := omega) only [ok364, fr22 hR, ak378, nm_b hM, imul_of, iadd_of, hb]
            exact ⟨by omega, by omega, trivial, v2 y0 y1 y2, same h⟩
          · rw [if_neg y2]
            by_cases y3 : y = 3
            · rw [if_pos y3, ok364]
              obtain ⟨k, rfl⟩ := Int.eq_ofNat_of_zero_le h0
              have := f_onWay (d := d + 1) (F := M 395) (M := M) (w := k) (Q := fun w sh2 R2 M2 => sh2 = SHX ∧ v = w ∧ Inv (c + 1) R2 M2) hR hF.1 (by have := hF.2.2.1; omega) (by omega)
              rw [FM_fsk] at this
              refine this ⟨rfl, ?_, same h⟩
              rw [v3 y0 y1 y2 y3]
              exact sm_congr 12 fun i i0 i1 => (fsk_at (by omega)).symm
            · rw [if_neg y3]
              exact ⟨rfl, v4 y0 y1 y2 y3, same h⟩
    by_cases y0 : y = 0
    · rw [if_pos y0, ok0, hn, okN hN, nr8 hN, aN6 hN, nc6 hC x h0 h1]
      exact ⟨h0, by omega, rfl, hr (fun _ => rfl) (fun z => absurd y0 z) (fun z => absurd y0 z) (fun z => absurd y0 z) (fun z => absurd y0 z)⟩
    · rw [if_neg y0]
      by_cases y1 : y = 1
      · rw [if_pos y1, ok0, hn, okN hN, nr9 hN, aN7 hN, nc7 hC x h0 h1]
        exact ⟨h0, by omega, rfl, hr (fun z => absurd z y0) (fun _ _ => rfl) (fun _ z => absurd y1 z) (fun _ z => absurd y1 z) (fun _ z => absurd y1 z)⟩
      · rw [if_neg y1]
        by_cases y2 : y = 2
        · rw [if_pos y2, ok0, hn, okN hN, nr10 hN, aN8 hN, nc8 hC x h0 h1]
          exact ⟨h0, by omega, rfl, hr (fun z => absurd z y0) (fun _ z => absurd z y1) (fun _ _ _ => rfl) (fun _ _ z => absurd y2 z) (fun _ _ z => absurd y2 z)⟩
        · rw [if_neg y2]
          by_cases y3 : y = 3
          · rw [if_pos y3, ok0, rc0_2 hc, ok36]
            refine c_now hc g0 g1 ?_
            rw [okS hS]
            have := c_onWay (d := d) (M := M) (A := blk M (38 + 5 * M 36 1)) (w := x) (Q := fun x3 sh3 R3 M3 => sh3 = SHX ∧ Mw (d + 2) 214 [vr 364, vi x, vi y] SHX R3 M3 0 0 (fun w sh2 R2 M2 => sh2 = SHX ∧ x3 = w ∧ Inv (c + 1) R2 M2)) hS hA hG.1 (by have := hG.2.2.1; omega) (by have := hG.2.2.1; omega) h0 (by omega)
            have e : CS M (38 + 5 * M 36 1) (blk M (38 + 5 * M 36 1)) = M := CS_self _ _
            rw [e] at this
            refine this ⟨rfl, hr (fun z => absurd z y0) (fun _ z => absurd z y1) (fun _ _ z => absurd z y2) (fun _ _ _ _ => ?_) (fun _ _ _ z => absurd y3 z)⟩
            exact sm_congr 12 fun i i0 i1 => cut_at (by omega) (by omega)
          · rw [if_neg y3]
            exact ⟨rfl, hr (fun z => absurd z y0) (fun _ z => absurd z y1) (fun _ _ z => absurd z y2) (fun _ _ _ z => absurd z y3) (fun _ _ _ _ => rfl)⟩
  · rw [if_pos rfl]
    refine ⟨rfl, Mw_of mok214 rfl fun _ _ => b_X12_way_0 ?_⟩
    rw [ok364]
    refine m_isWay (d := d) hR hM hW (fun k0 k1 _ => absurd ⟨k0, k1⟩ h0) fun g _ => ?_
    rw [if_pos rfl]
    exact ⟨rfl, rfl, same h⟩
theorem p_flock (h : INV c R M b N) : PR (d + 2) 111 215 [vi x, vi y] R M (Inv (c + 1)) := by
  obtain ⟨hn, hN, hC, hW, hM, hc, hR, b0, b1⟩ := in_net h
  obtain ⟨hS, h37, hA, hG, g0, g1⟩ := in_now h
  have hw := wn_W hW
  have s6 := hG.1.1 216 (by decide) (by decide)
  have no : ¬ ((0 ≤ x ∧ x < N 0 2) ∧ 1 ≤ y ∧ y ≤ 12) → Mw (d + 2) 215 [vr 364, vi x, vi y] SHX R M 0 0 (fun w sh2 R2 M2 => sh2 = SHX ∧ -1 = w ∧ Inv (c + 1) R2 M2) := by
    intro hno
    refine Mw_of mok215 rfl fun _ _ => b_X12_flock_0 ?_
    rw [ok364]
    refine m_isWay (d := d) hR hM hW (fun k0 k1 _ => ?_) fun g _ => ?_
    · rw [if_neg (by decide)]
      refine m_isIn (d := d + 1) (fun u0 u1 _ => absurd ⟨⟨k0, k1⟩, u0, u1⟩ hno) fun g _ => ?_
      rw [if_pos rfl]
      exact ⟨rfl, rfl, same h⟩
    · rw [if_pos rfl]
      exact ⟨rfl, rfl, same h⟩
  refine Mw_of mok111 rfl fun _ _ => b_X11_flock_0 ?_
  rw [ok0]
  refine c_isWay (d := d) hn hN hC hW (fun h0 h1 _ => ?_) fun h0 _ => ?_
  · rw [if_neg (by decide)]
    refine c_isWithin (d := d + 1) (fun k0 k1 _ => ?_) fun k0 _ => ?_
    · rw [if_neg (by decide), ok0, rc0_2 hc, ok36]
      refine c_now hc g0 g1 ?_
      rw [okS hS]
      have := c_left (d := d) (M := M) (A := blk M (38 + 5 * M 36 1)) (w := x) (l := y) (Q := fun x3 sh3 R3 M3 => sh3 = SHX ∧ Mw (d + 2) 215 [vr 364, vi x, vi y] SHX R3 M3 0 0 (fun w sh2 R2 M2 => sh2 = SHX ∧ x3 = w ∧ Inv (c + 1) R2 M2)) hS hA s6 (by have := hG.2.2.1; omega) h0 (by omega) k0 k1
      have e : CS M (38 + 5 * M 36 1) (blk M (38 + 5 * M 36 1)) = M := CS_self _ _
      rw [e] at this
      refine this ⟨rfl, Mw_of mok215 rfl fun _ _ => b_X12_flock_0 ?_⟩
      rw [ok364]
      refine m_isWay (d := d) hR hM hW (fun _ _ _ => ?_) fun g _ => absurd ⟨h0, h1⟩ g
      rw [if_neg (by decide)]
      refine m_isIn (d := d + 1) (fun _ _ _ => ?_) fun g _ => absurd ⟨k0, k1⟩ g
      rw [if_neg (by decide)]
      simp (disch := omega) only [ok364, fr42 hR, ak392, imul_of, iadd_of, isub_of]
      exact ⟨by omega, by omega, trivial, cut_at (by omega) (by omega), same h⟩
    · rw [if_pos rfl]
      exact ⟨rfl, no fun z => k0 z.2⟩
  · rw [if_pos rfl]
    exact ⟨rfl, no fun z => h0 z.1⟩
theorem p_geese (h : INV c R M b N) (hc5 : c ≤ 512) : PR (d + 2) 112 216 [vi x] R M (Inv (c + 1)) := by
  obtain ⟨hn, hN, hC, hW, hM, hc, hR, b0, b1⟩ := in_net h
  obtain ⟨hS, h37, hA, hG, g0, g1⟩ := in_now h
  have hF := in_fsk h
  have e : CS M (38 + 5 * M 36 1) (blk M (38 + 5 * M 36 1)) = M := CS_self _ _
  have z : ∀ i, 0 ≤ i → i < 218 → cut (M 392) i = M 392 i := fun i i0 i1 => cut_at i0 i1
  have q4 : M (38 + 5 * M 36 1) 4 = M 392 212 := by have := sky_be hA; rw [z _ (by decide) (by decide), Int.add_zero] at this; rw [← this]; show _ = M (_ + 0) 4; rw [Int.add_zero]
  have q5 : M (38 + 5 * M 36 1) 5 = M 392 213 := by have := sky_br hA; rw [z _ (by decide) (by decide)] at this; rw [← this]; show _ = M (_ + 0) 5; rw [Int.add_zero]
  have q6 : M (38 + 5 * M 36 1) 6 = sm (cut (M 392)) 0 192 := by have := sky_fl hA; rw [← this]; show _ = M (_ + 0) 6; rw [Int.add_zero]
  have q7 : M (38 + 5 * M 36 1) 7 = M 392 214 := by have := sky_lo hA; rw [z _ (by decide) (by decide)] at this; rw [← this]; show _ = M (_ + 0) 7; rw [Int.add_zero]
  have q8 : M (38 + 5 * M 36 1) 8 = M 392 215 := by have := sky_ta hA; rw [z _ (by decide) (by decide)] at this; rw [← this]; show _ = M (_ + 0) 8; rw [Int.add_zero]
  have cong : ∀ (a : Int) (n : Nat), 0 ≤ a → a + (n : Int) ≤ 218 → sm (cut (M 392)) a n = sm (fsk M) a n := fun a n a0 a1 => sm_congr n fun i i0 i1 => by rw [z i (by omega) (by omega), fsk_at (by omega)]
  have hr : ∀ {v : Int}, (x = 0 → v = M 392 212) → (x = 1 → v = M 392 213) → (x = 2 → v = sm (cut (M 392)) 0 192) → (x = 3 → v = sm (cut (M 392)) 192 10) → (x = 4 → v = M 392 214) → (x = 5 → v = M 392 215) → ((x < 0 ∨ 5 < x) → v = -1) → Mw (d + 2) 216 [vr 364, vi x] SHX R M 0 0 (fun w sh2 R2 M2 => sh2 = SHX ∧ v = w ∧ Inv (c + 1) R2 M2) := by
    intro v v0 v1 v2 v3 v4 v5 v6
    refine Mw_of mok216 rfl fun _ _ => b_X12_geese_0 ?_
    by_cases y0 : x = 0
    · rw [if_pos y0, ok364, fr42 hR, ak392]
      exact ⟨by decide, by decide, rfl, v0 y0, same h⟩
    rw [if_neg y0]
    by_cases y1 : x = 1
    · rw [if_pos y1, ok364, fr42 hR, ak392]
      exact ⟨by decide, by decide, rfl, v1 y1, same h⟩
    rw [if_neg y1]
    by_cases y2 : x = 2
    · rw [if_pos y2, ok364]
      have := f_onWays (d := d) (F := M 395) (M := M) (Q := fun w sh2 R2 M2 => sh2 = SHX ∧ v = w ∧ Inv (c + 1) R2 M2) hR hM hW hF.1 (by have := hF.2.2.1; omega)
      rw [FM_fsk] at this
      exact this ⟨rfl, by rw [v2 y2, cong 0 192 (by decide) (by decide)], same h⟩
    rw [if_neg y2]
    by_cases y3 : x = 3
    · rw [if_pos y3, ok364]
      have := f_staying (d := d) (F := M 395) (M := M) (Q := fun w sh2 R2 M2 => sh2 = SHX ∧ v = w ∧ Inv (c + 1) R2 M2) hR hM hW hF.1 (by have := hF.2.2.1; omega)
      rw [FM_fsk] at this
      exact this ⟨rfl, by rw [v3 y3, cong 192 10 (by decide) (by decide)], same h⟩
    rw [if_neg y3]
    by_cases y4 : x = 4
    · rw [if_pos y4, ok364, fr42 hR, ak392]
      exact ⟨by decide, by decide, rfl, v4 y4, same h⟩
    rw [if_neg y4]
    by_cases y5 : x = 5
    · rw [if_pos y5, ok364, fr42 hR, ak392]
      exact ⟨by decide, by decide, rfl, v5 y5, same h⟩
    rw [if_neg y5]
    exact ⟨rfl, v6 (by omega), same h⟩
  refine Mw_of mok112 rfl fun _ _ => b_X11_geese_0 ?_
  rw [ok0, rc0_2 hc, ok36]
  refine c_now hc g0 g1 ?_
  by_cases y0 : x = 0
  · rw [if_pos y0, okS hS, q4]
    exact ⟨rfl, hr (fun _ => rfl) (fun _ => by omega) (fun _ => by omega) (fun _ => by omega) (fun _ => by omega) (fun _ => by omega) (fun _ => by omega)⟩
  rw [if_neg y0]
  by_cases y1 : x = 1
  · rw [if_pos y1, okS hS, q5]
    exact ⟨rfl, hr (fun _ => by omega) (fun _ => rfl) (fun _ => by omega) (fun _ => by omega) (fun _ => by omega) (fun _ => by omega) (fun _ => by omega)⟩
  rw [if_neg y1]
  by_cases y2 : x = 2
  · rw [if_pos y2, okS hS, q6]
    exact ⟨rfl, hr (fun _ => by omega) (fun _ => by omega) (fun _ => rfl) (fun _ => by omega) (fun _ => by omega) (fun _ => by omega) (fun _ => by omega)⟩
  rw [if_neg y2]
  by_cases y3 : x = 3
  · rw [if_pos y3, okS hS]
    have := c_atTowers (d := d + 1) (M := M) (A := blk M (38 + 5 * M 36 1)) (Q := fun x3 sh3 R3 M3 => sh3 = SHX ∧ Mw (d + 2) 216 [vr 364, vi x] SHX R3 M3 0 0 (fun w sh2 R2 M2 => sh2 = SHX ∧ x3 = w ∧ Inv (c + 1) R2 M2)) hS hA hG.1 (by have := hG.2.2.1; omega)
    rw [e] at this
    exact this ⟨rfl, hr (fun _ => by omega) (fun _ => by omega) (fun _ => by omega) (fun _ => rfl) (fun _ => by omega) (fun _ => by omega) (fun _ => by omega)⟩
  rw [if_neg y3]
  by_cases y4 : x = 4
  · rw [if_pos y4, okS hS, q7]
    exact ⟨rfl, hr (fun _ => by omega) (fun _ => by omega) (fun _ => by omega) (fun _ => by omega) (fun _ => rfl) (fun _ => by omega) (fun _ => by omega)⟩
  rw [if_neg y4]
  by_cases y5 : x = 5
  · rw [if_pos y5, okS hS, q8]
    exact ⟨rfl, hr (fun _ => by omega) (fun _ => by omega) (fun _ => by omega) (fun _ => by omega) (fun _ => by omega) (fun _ => rfl) (fun _ => by omega)⟩
  rw [if_neg y5]
  exact ⟨rfl, hr (fun _ => by omega) (fun _ => by omega) (fun _ => by omega) (fun _ => by omega) (fun _ => by omega) (fun _ => by omega) (fun _ => rfl)⟩
end
