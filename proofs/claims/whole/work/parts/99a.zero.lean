/-! AT THE START -/
section
variable {d c : Nat} {R M X Y : MEM} {b a n v : Int} {N : NTW} {Q : RES}
theorem R0_of {q j x : Int} (h : getm gXR q j none = some x) : runm gXR R q j = x := getm_of gXR q j none R x (fun w hw => by cases hw) h
theorem M0_of {q j x : Int} (h : getm gXM q j none = some x) : runm gXM M q j = x := getm_of gXM q j none M x (fun w hw => by cases hw) h
theorem M0_row {q x : Int} (h : rowm gXM q none = some x) : ∀ j, runm gXM M q j = x := rowm_of gXM q none M x (fun w hw => by cases hw) h
theorem an_ne {q : Int} (h : q ≠ 364) (h1 : ¬ (367 ≤ q ∧ q ≤ 372)) (h2 : q ≠ 384) (h3 : q ≠ 392) (h4 : q ≠ 394) (h5 : q ≠ 396) (h6 : q ≠ 414) (j : Int) : anewM (clrM X 0) 0 q j = X q j := by
  unfold anewM clrM
  simp (disch := omega) only [stm_neq, fil_ne, cpy_ne]
theorem an_64 {j : Int} (h1 : j ≠ 38) (h2 : j ≠ 47) (h3 : j ≠ 51) (h4 : j ≠ 52) (h5 : j ≠ 55) (h6 : j ≠ 61) (h7 : j ≠ 70) : anewM (clrM X 0) 0 364 j = X 364 j := by
  unfold anewM clrM
  simp (disch := omega) only [stm_neq, fil_ne, cpy_ne]
theorem an_z : anewM (clrM X 0) 0 364 47 = -1 ∧ anewM (clrM X 0) 0 364 51 = 0 ∧ anewM (clrM X 0) 0 364 52 = 0 ∧ anewM (clrM X 0) 0 364 55 = 0 ∧ anewM (clrM X 0) 0 364 61 = 0 ∧ anewM (clrM X 0) 0 364 70 = 0 := by
  unfold anewM
  simp (disch := omega) only [stm_neq, stm_hit, fil_ne, cpy_ne, and_self]
theorem an_b {q : Int} (h : 367 ≤ q ∧ q ≤ 372) : anewM (clrM X 0) 0 q 0 = 0 := by
  unfold anewM
  simp (disch := omega) only [stm_neq, fil_ne, cpy_ne]
  unfold clrM
  have hq : q = 367 ∨ q = 368 ∨ q = 369 ∨ q = 370 ∨ q = 371 ∨ q = 372 := by omega
  rcases hq with rfl | rfl | rfl | rfl | rfl | rfl <;> simp (disch := omega) only [stm_neq, stm_hit]
theorem an_94 {w : Int} (w0 : 0 ≤ w) (w1 : w < 16) : anewM (clrM X 0) 0 394 w = anewM (clrM X 0) 0 378 w := by
  rw [an_ne (q := 378) (by decide) (by decide) (by decide) (by decide) (by decide) (by decide) (by decide)]
  unfold anewM
  simp (disch := omega) only [stm_neq, fil_ne]
  unfold cpy
  rw [if_pos ⟨rfl, w0, w1⟩]
  unfold clrM
  simp (disch := omega) only [stm_neq, fil_ne]
  rw [show (16 * 0 + w : Int) = w by omega]
theorem an_96 {i : Int} (i0 : 0 ≤ i) (i1 : i < 3) : anewM (clrM X 0) 0 396 i = 0 := by
  unfold anewM
  rw [fil_ne (by decide)]
  simp (disch := omega) only [stm_neq]
  exact if_pos ⟨rfl, i0, i1⟩
theorem an_14 {i : Int} (i0 : 0 ≤ i) (i1 : i < 3) : anewM (clrM X 0) 0 414 i = 0 := if_pos ⟨rfl, i0, i1⟩
theorem an_92 {i : Int} (i0 : 0 ≤ i) (i1 : i < 218) : anewM (clrM X 0) 0 392 i = 0 := by
  unfold anewM
  simp (disch := omega) only [stm_neq, fil_ne, cpy_ne]
  by_cases h7 : i = 217
  · rw [h7, stm_hit]
    unfold clrM
    simp (disch := omega) only [stm_neq, stm_hit]
  · rw [stm_neq (by omega)]
    exact if_pos ⟨rfl, i0, i1⟩
/-- both are made; the class's own cells were 0 -/
theorem law_made0 {X : Int × (Int → Int)} (hq : ∀ R M, (∀ j, M 0 j = 0) → GoX X (d + 3) 305 Q 10 [ve 0, vr 0, vr 364, vi 0] [] SHX (runm gXR R) (anewM (clrM (runm gXM M) 0) 0) 0 0) : GoX X (d + 3) 305 Q 0 [ve 0, vn, vn, vn] [] [] R M 415 41730 := by
  refine b_law_0 ?_
  simp only [newk_1, newk_2, newk_3, List.nil_append, List.length_nil, Int.natCast_zero]
  rw [ook_iff]
  refine ⟨rfl, ?_⟩
  refine w_X11_init (d := d) ?_
  simp only [newk_1, newk_2, newk_3, len_g11]
  rw [ook_iff]
  refine ⟨by decide +kernel, ?_⟩
  refine w_X12_made (d := d) ?_
  exact hq _ _ fun j => if_pos rfl
def srP (a : Int) : Prop := (getm gXR a 0 none = some (a + 1) ∧ getm gXR a 1 none = some (a + 2) ∧ getm gXR a 2 none = some (a + 3) ∧ getm gXR a 3 none = some (a + 4)) ∧ (shk SHX a = (8, 0) ∧ shk SHX (a + 1) = (100, 256) ∧ shk SHX (a + 2) = (100, 10) ∧ shk SHX (a + 3) = (100, 10) ∧ shk SHX (a + 4) = (100, 10)) ∧ 38 ≤ a ∧ a ≤ 267
theorem SR_0 {a : Int} (h : srP a) : SR (runm gXR R) a := ⟨⟨R0_of h.1.1, R0_of h.1.2.1, R0_of h.1.2.2.1, R0_of h.1.2.2.2⟩, h.2⟩
theorem sr_a : ∀ k : Nat, k < 41 → getm gXR 37 (k : Int) none = some (38 + 5 * (k : Int)) ∧ srP (38 + 5 * (k : Int)) := by unfold srP; decide +kernel
theorem sr_b : ∀ k : Nat, k < 3 → getm gXR 243 (k : Int) none = some (244 + 5 * (k : Int)) ∧ srP (244 + 5 * (k : Int)) := by unfold srP; decide +kernel
theorem sr_c : srP 262 ∧ srP 267 := by unfold srP; decide +kernel
def nrP (n : Int) : Prop := (getm gXR n 1 none = some (n + 1) ∧ getm gXR n 2 none = some (n + 2) ∧ getm gXR n 3 none = some (n + 3) ∧ getm gXR n 4 none = some (n + 4) ∧ getm gXR n 6 none = some (n + 5) ∧ getm gXR n 8 none = some (n + 6) ∧ getm gXR n 9 none = some (n + 7) ∧ getm gXR n 10 none = some (n + 8) ∧ getm gXR n 12 none = some (n + 9) ∧ getm gXR n 13 none = some (n + 10) ∧ getm gXR n 14 none = some (n + 11) ∧ getm gXR n 16 none = some (n + 12)) ∧ (shk SHX n = (4, 0) ∧ shk SHX (n + 1) = (100, 10) ∧ shk SHX (n + 2) = (100, 10) ∧ shk SHX (n + 3) = (100, 10) ∧ shk SHX (n + 4) = (100, 10) ∧ shk SHX (n + 5) = (100, 3) ∧ shk SHX (n + 6) = (100, 16) ∧ shk SHX (n + 7) = (100, 16) ∧ shk SHX (n + 8) = (100, 16) ∧ shk SHX (n + 9) = (100, 6) ∧ shk SHX (n + 10) = (100, 6) ∧ shk SHX (n + 11) = (100, 1600) ∧ shk SHX (n + 12) = (100, 32)) ∧ 1 ≤ n ∧ n ≤ 14
theorem NR_0 {n : Int} (h : nrP n) : NR (runm gXR R) n := by
  obtain ⟨⟨a1, a2, a3, a4, a5, a6, a7, a8, a9, a10, a11, a12⟩, h2⟩ := h
  exact ⟨⟨R0_of a1, R0_of a2, R0_of a3, R0_of a4, R0_of a5, R0_of a6, R0_of a7, R0_of a8, R0_of a9, R0_of a10, R0_of a11, R0_of a12⟩, h2⟩
theorem nr_a : nrP 1 ∧ nrP 14 := ⟨⟨by decide +kernel, by decide +kernel, by decide⟩, ⟨by decide +kernel, by decide +kernel, by decide⟩⟩
theorem rc_a : ∀ q ∈ rcL, getm gXR q.1 q.2.1 none = some q.2.2 := by decide +kernel
theorem rc_b : (∀ k : Nat, k < 61 → getm gXR 275 (k : Int) none = some (276 + (k : Int))) ∧ ∀ k : Nat, k < 9 → getm gXR 344 (k : Int) none = some (345 + (k : Int)) := by decide +kernel
theorem RC_0 (R : MEM) : RC (runm gXR R) := ⟨fun q hq => R0_of (rc_a q hq), fun k hk => ⟨R0_of (sr_a k hk).1, SR_0 (sr_a k hk).2⟩, fun k hk => ⟨R0_of (sr_b k hk).1, SR_0 (sr_b k hk).2⟩, ⟨SR_0 sr_c.1, SR_0 sr_c.2⟩, ⟨NR_0 nr_a.1, NR_0 nr_a.2⟩, fun k hk => R0_of (rc_b.1 k hk), fun k hk => R0_of (rc_b.2 k hk)⟩
theorem r_012 : getm gXR 0 12 none = some 1 ∧ getm gXR 0 13 none = some 14 := by decide +kernel
theorem m_z : ∀ q ∈ ([(1, 0), (1, 5), (1, 7), (1, 11), (1, 17), (1, 18), (364, 2), (27, 1), (364, 36), (364, 4), (33, 0), (364, 49), (36, 1), (36, 2), (36, 3), (342, 0), (355, 0), (364, 71), (338, 1), (38, 4), (38, 5), (38, 6), (38, 7), (38, 8), (38, 9), (38, 10)] : List (Int × Int)), getm gXM q.1 q.2 none = some 0 := by decide +kernel
theorem m_1 : getm gXM 364 5 none = some (-1) ∧ getm gXM 33 1 none = some (-1) := by decide +kernel
theorem m_t : getm gXM 0 14 (some 0) = some 0 := by decide +kernel
theorem m_kw : ∀ i : Nat, i < 18 → getm gXM 29 (i : Int) none = some (kwL.getD i 0) := by decide +kernel
theorem m_row : ∀ q ∈ ([39, 41, 42, 259, 260] : List Int), rowm gXM q none = some 0 := by decide +kernel
theorem INV_0 (R M : MEM) (h0 : M 0 14 = 0) : Inv 0 (runm gXR R) (anewM (clrM (runm gXM M) 0) 0) := by
  obtain ⟨Z, hZ⟩ : ∃ Z, Z = anewM (clrM (runm gXM M) 0) 0 := ⟨_, rfl⟩
  rw [← hZ]
  have hR := RM_made R
  have hC := RC_0 R
  have z0 : ∀ q j : Int, (q, j) ∈ ([(1, 0), (1, 5), (1, 7), (1, 11), (1, 17), (1, 18), (364, 2), (27, 1), (364, 36), (364, 4), (33, 0), (364, 49), (36, 1), (36, 2), (36, 3), (342, 0), (355, 0), (364, 71), (338, 1), (38, 4), (38, 5), (38, 6), (38, 7), (38, 8), (38, 9), (38, 10)] : List (Int × Int)) → runm gXM M q j = 0 := fun q j h => M0_of (m_z (q, j) h)
  have zt : runm gXM M 0 14 = 0 := getm_of gXM 0 14 (some 0) M 0 (fun w hw => by cases hw; exact h0) m_t
  have zr0 : ∀ q : Int, q ∈ ([39, 41, 42, 259, 260] : List Int) → ∀ j, runm gXM M q j = 0 := fun q h => M0_row (m_row q h)
  have Zq : ∀ q : Int, q < 364 → ∀ j, Z q j = runm gXM M q j := fun q h j => by rw [hZ]; exact an_ne (by omega) (by omega) (by omega) (by omega) (by omega) (by omega) (by omega) j
  have Zf : ∀ j : Int, j ≠ 38 → j ≠ 47 → j ≠ 51 → j ≠ 52 → j ≠ 55 → j ≠ 61 → j ≠ 70 → Z 364 j = runm gXM M 364 j := fun j h1 h2 h3 h4 h5 h6 h7 => by rw [hZ]; exact an_64 h1 h2 h3 h4 h5 h6 h7
  have Zz : Z 364 47 = -1 ∧ Z 364 51 = 0 ∧ Z 364 52 = 0 ∧ Z 364 55 = 0 ∧ Z 364 61 = 0 ∧ Z 364 70 = 0 := by rw [hZ]; exact an_z
  have Zb : ∀ q : Int, 367 ≤ q ∧ q ≤ 372 → Z q 0 = 0 := fun q h => by rw [hZ]; exact an_b h
  have Z94 : ∀ w : Int, 0 ≤ w → w < 16 → Z 394 w = Z 378 w := fun w w0 w1 => by rw [hZ]; exact an_94 w0 w1
  have Z96 : ∀ i : Int, 0 ≤ i → i < 3 → Z 396 i = 0 := fun i i0 i1 => by rw [hZ]; exact an_96 i0 i1
  have Z14 : ∀ i : Int, 0 ≤ i → i < 3 → Z 414 i = 0 := fun i i0 i1 => by rw [hZ]; exact an_14 i0 i1
  have Z92 : ∀ i : Int, 0 ≤ i → i < 218 → Z 392 i = 0 := fun i i0 i1 => by rw [hZ]; exact an_92 i0 i1
  have e : ∀ i j, G0 i j = 0 := fun _ _ => rfl
  have ag : AGN G0 (NMF Z 0) := by
    refine ⟨fun j j0 j1 => ?_, fun i t i0 i1 u0 u1 => ?_, fun s s0 s1 => ?_, fun i w i0 i1 w0 w1 => ?_, fun c c0 c1 => ?_⟩
    · have hj : j = 0 ∨ j = 1 ∨ j = 2 ∨ j = 3 ∨ j = 4 ∨ j = 5 := by omega
      rcases hj with rfl | rfl | rfl | rfl | rfl | rfl
      · exact Zb 367 (by decide)
      · exact Zb 368 (by decide)
      · exact Zb 369 (by decide)
      · exact Zb 370 (by decide)
      · exact Zb 371 (by decide)
      · exact Zb 372 (by decide)
    · rw [e] at u1; omega
    · rw [e] at s1; omega
    · rw [e] at w1; omega
    · rw [e] at c1; omega
  have hNC : NC Z (1 + 13 * 0) G0 := by
    refine ⟨?_, ?_, ?_, ?_, ?_, ?_, fun t t0 t1 => ?_, fun t t0 t1 => ?_, fun t t0 t1 => ?_, fun t t0 t1 => ?_, fun t t0 t1 => ?_, fun t t0 t1 => ?_, fun t t0 t1 => ?_, fun t t0 t1 => ?_, fun t t0 t1 => ?_⟩
    · rw [Zq _ (by decide), e]; exact z0 1 0 (by decide)
    · rw [Zq _ (by decide), e]; exact z0 1 5 (by decide)
    · rw [Zq _ (by decide), e]; exact z0 1 7 (by decide)
    · rw [Zq _ (by decide), e]; exact z0 1 11 (by decide)
    · rw [Zq _ (by decide), e]; exact z0 1 17 (by decide)
    · rw [Zq _ (by decide), e]; exact z0 1 18 (by decide)
    all_goals rw [e] at t1
    all_goals omega
  have hCD : CDE Z 0 (1 + 13 * 0) G0 := fun c c0 c1 => by rw [e] at c1; omega
  have hWN := WLI_0.1
  have k2 : Z 364 2 = 0 := by rw [Zf 2 (by decide) (by decide) (by decide) (by decide) (by decide) (by decide) (by decide)]; exact z0 364 2 (by decide)
  have h1 : Z 36 1 = 0 := by rw [Zq 36 (by decide)]; exact z0 36 1 (by decide)
  have sk : ∀ j, (4 ≤ j ∧ j ≤ 10) → Z 38 j = 0 := fun j hj => by
    rw [Zq 38 (by decide)]
    have h : j = 4 ∨ j = 5 ∨ j = 6 ∨ j = 7 ∨ j = 8 ∨ j = 9 ∨ j = 10 := by omega
    rcases h with rfl | rfl | rfl | rfl | rfl | rfl | rfl
    · exact z0 38 4 (by decide)
    · exact z0 38 5 (by decide)
    · exact z0 38 6 (by decide)
    · exact z0 38 7 (by decide)
    · exact z0 38 8 (by decide)
    · exact z0 38 9 (by decide)
    · exact z0 38 10 (by decide)
  have hc0 : ∀ i, cut (Z 392) i = 0 := fun i => by
    unfold cut
    split
    · rename_i h; exact Z92 i h.1 h.2
    · rfl
  refine ⟨0, NMF Z 0, ⟨hC, hR, R0_of r_012.1, R0_of r_012.2, by decide, by decide⟩, ⟨NM_F ?_ (by decide) (by decide), WN_ag hWN ag, NC_ag hNC ag, fun w w0 w1 => ?_, CDE_ag hCD ag⟩, ⟨by omega, ?_, fun i i0 i1 => by omega, fun i hi => ?_⟩, ⟨?_, ?_, Zz.1, ?_⟩, fun i i0 i1 => ?_, ⟨by omega, ⟨?_, by omega⟩, ⟨?_, by omega⟩, by omega, fun k q0 q1 => ?_⟩, fun j j0 j1 => ?_, ⟨⟨?_, by omega⟩, fun i i0 i1 => by omega⟩, ⟨⟨?_, by omega⟩, ⟨?_, ?_⟩, fun i i0 i1 => by omega⟩, ⟨⟨?_, by omega⟩, fun i i0 i1 => by omega⟩⟩
  · rw [Zf 36 (by decide) (by decide) (by decide) (by decide) (by decide) (by decide) (by decide)]; exact z0 364 36 (by decide)
  · show Z 378 _ = Z 394 w
    rw [Z94 w w0 w1, show (16 * 0 + w : Int) = w by omega]
  · rw [k2, Zq 27 (by decide)]; exact z0 27 1 (by decide)
  · rw [Zq 29 (by decide)]; exact M0_of (m_kw i hi)
  · rw [Zf 4 (by decide) (by decide) (by decide) (by decide) (by decide) (by decide) (by decide), Zq 33 (by decide), z0 33 0 (by decide), z0 364 4 (by decide)]
  · rw [Zf 5 (by decide) (by decide) (by decide) (by decide) (by decide) (by decide) (by decide), Zq 33 (by decide), M0_of m_1.1, M0_of m_1.2]
  · rw [Zf 49 (by decide) (by decide) (by decide) (by decide) (by decide) (by decide) (by decide), z0 364 49 (by decide)]; decide
  · rw [Z96 i i0 i1, Zq 260 (by decide), zr0 260 (by decide)]; decide
  · rw [Zz.2.1, Zq 36 (by decide)]; exact z0 36 2 (by decide)
  · rw [Zz.2.2.1, Zq 36 (by decide)]; exact z0 36 3 (by decide)
  · have hk : k = 0 := by omega
    rw [hk, stt_0, h1]
    show SKY 0 (blk Z 38) (cut (Z 392)) ∧ _
    refine ⟨⟨fun w l w0 w1 l0 l1 => ?_, fun t t0 t1 => ?_, fun t t0 t1 => ?_, ?_, ?_, ?_, ?_, ?_, ?_, ?_⟩, GD_z (v := 0) (WN_ag hWN ag) (by decide) (fun i i0 i1 => ?_) (hc0 218)⟩
    · show Z 39 _ = _
      rw [Zq 39 (by decide), zr0 39 (by decide), hc0]
      split <;> rfl
    · show Z 41 _ = _
      rw [Zq 41 (by decide), zr0 41 (by decide), hc0]
    · show Z 42 _ = _
      rw [Zq 42 (by decide), zr0 42 (by decide), hc0]
    · show Z 38 4 = _
      rw [sk 4 (by decide), hc0]; rfl
    · show Z 38 5 = _
      rw [sk 5 (by decide), hc0]
    · show Z 38 6 = _
      rw [sk 6 (by decide), sm_0 192 fun i _ _ => hc0 i]
    · show Z 38 7 = _
      rw [sk 7 (by decide), hc0]
    · show Z 38 8 = _
      rw [sk 8 (by decide), hc0]
    · show Z 38 9 = _
      rw [sk 9 (by decide), hc0]
    · show Z 38 10 = _
      rw [sk 10 (by decide), hc0]
    · rw [hc0]; split <;> rfl
  · refine ⟨?_, Or.inl (Z14 j j0 j1)⟩
    rw [Z14 j j0 j1, Zq 259 (by decide), zr0 259 (by decide)]
  · rw [Zz.2.2.2.2.1, Zq 342 (by decide)]; exact z0 342 0 (by decide)
  · rw [Zz.2.2.2.2.2, Zq 355 (by decide)]; exact z0 355 0 (by decide)
  · rw [Zf 71 (by decide) (by decide) (by decide) (by decide) (by decide) (by decide) (by decide), Zq 0 (by decide), zt, z0 364 71 (by decide)]
  · rw [Zf 71 (by decide) (by decide) (by decide) (by decide) (by decide) (by decide) (by decide), z0 364 71 (by decide)]; decide
  · rw [Zz.2.2.2.1, Zq 338 (by decide)]; exact z0 338 1 (by decide)
end
