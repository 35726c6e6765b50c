/-! MEND, the reference -/
section
variable {d : Nat} {R M X : MEM} {b n x y z t m c w a k v : Int} {N : NTW} {Q : RES} {g : Int → Int}
theorem AR_of {M' : MEM} (e3 : M' 382 = M 382) (e4 : M' 383 = M 383) (e5 : M' 387 = M 387) (e6 : M' 388 = M 388) : AR M' b c m y = AR M b c m y := by
  funext N
  unfold AR
  simp only [bad_of e3 e4 e5 e6]
/-- a way is given other beats, a number lies -/
theorem RT_in (h : RT (rset M 398 g) X) : RT (rset (stm M 394 w a) 398 (upf g k z)) (stm (stm X 394 w a) 398 k z) := by
  obtain ⟨h1, h2, h3, h4⟩ := h
  refine ⟨fun q j hk q2 q6 => ?_, fun i i0 i1 => ?_, fun i i0 i1 => ?_, ?_⟩
  · have e := h1 q j hk q2 q6
    by_cases h8 : q = 398
    · subst h8
      rw [rset_hit] at e ⊢
      by_cases hj : j = k
      · rw [hj, stm_hit, upf_hit]
      · rw [stm_neq (by omega), stm_neq (by omega), upf_ne hj]; exact e
    · rw [rset_ne h8] at e ⊢
      rw [stm_neq (by omega)]
      by_cases h4' : q = 394 ∧ j = w
      · obtain ⟨rfl, rfl⟩ := h4'
        rw [stm_hit, stm_hit]
      · rw [stm_neq h4', stm_neq h4']; exact e
  · rw [rset_ne (by decide), stm_neq (by omega), stm_neq (by omega), stm_neq (by omega), h2 i i0 i1, rset_ne (by decide)]
  · rw [rset_ne (by decide), stm_neq (by omega), stm_neq (by omega), stm_neq (by omega), h3 i i0 i1, rset_ne (by decide)]
  · rw [stm_neq (by omega), stm_neq (by omega)]; exact h4
/-- the way has its own beats again -/
theorem RT_ba (h : RT (rset (stm M 394 w a) 398 g) X) (hv : M 394 w = v) : RT (rset M 398 g) (stm X 394 w v) := by
  obtain ⟨h1, h2, h3, h4⟩ := h
  refine ⟨fun q j hk q2 q6 => ?_, fun i i0 i1 => ?_, fun i i0 i1 => ?_, ?_⟩
  · have e := h1 q j hk q2 q6
    by_cases h8 : q = 398
    · subst h8
      rw [rset_hit] at e ⊢
      rw [stm_neq (by omega)]; exact e
    · rw [rset_ne h8] at e ⊢
      by_cases h4' : q = 394 ∧ j = w
      · obtain ⟨rfl, rfl⟩ := h4'
        rw [stm_hit, hv]
      · rw [stm_neq h4'] at e ⊢; exact e
  · have e := h2 i i0 i1
    rw [rset_ne (by decide), stm_neq (by omega)] at e
    rw [rset_ne (by decide), stm_neq (by omega)]; exact e
  · have e := h3 i i0 i1
    rw [rset_ne (by decide), stm_neq (by omega)] at e
    rw [rset_ne (by decide), stm_neq (by omega)]; exact e
  · rw [stm_neq (by omega)]; exact h4
theorem NM_ch (h : NM M b N) : NM (rset (stm M 394 w a) 398 g) b (chN N w a) := by
  have e : ∀ q, q ≠ 398 → q ≠ 394 → rset (stm M 394 w a) 398 g q = M q := fun q h1 h2 => by rw [rset_ne h1, stm_ne h2]
  obtain ⟨a1, a2, a3, b1, b2, b3, b4, b5, b6, c1, c2, c3, c4, c5, c6, c7, c8, c9⟩ := h
  unfold NM
  rw [e 364 (by decide) (by decide), e 367 (by decide) (by decide), e 368 (by decide) (by decide), e 369 (by decide) (by decide), e 370 (by decide) (by decide), e 371 (by decide) (by decide), e 372 (by decide) (by decide), e 373 (by decide) (by decide), e 374 (by decide) (by decide), e 375 (by decide) (by decide), e 376 (by decide) (by decide), e 377 (by decide) (by decide), e 379 (by decide) (by decide), e 380 (by decide) (by decide), e 381 (by decide) (by decide), rset_ne (by decide), chN_0, SN_ch 1 (by decide), SN_ch 2 (by decide), SN_ch 3 (by decide), SN_ch 4 (by decide), SN_ch 5 (by decide), SN_ch 6 (by decide), SN_ch 7 (by decide), SN_ch 9 (by decide), chN_8]
  refine ⟨a1, a2, a3, b1, b2, b3, b4, b5, b6, c1, c2, c3, c4, c5, c6, c7, fun v => ?_, c9⟩
  by_cases hv : v = w
  · rw [hv, stm_hit, upf_hit]
  · rw [stm_neq (by omega), upf_ne hv]; exact c8 v
theorem NM_rs (h : NM M b N) : NM (rset M 398 g) b N := NM_of h (by rw [rset_ne (by decide)]) (fun q q0 q1 => rset_ne (by omega)) (rset_ne (by decide))
theorem IF_ch (h : IF M) : IF (rset (stm M 394 w a) 398 g) := IF_of h (by rw [rset_ne (by decide), stm_neq (by omega)]) (by rw [rset_ne (by decide), stm_neq (by omega)]) (by rw [rset_ne (by decide), stm_neq (by omega)]) (by rw [rset_ne (by decide), stm_neq (by omega)]) (by rw [rset_ne (by decide), stm_neq (by omega)]) (by rw [rset_ne (by decide), stm_neq (by omega)]; exact if_s h)
theorem CDE_ch (h : CDE M b n N) (n1 : n = 1 ∨ n = 14) : CDE (rset (stm M 394 w a) 398 g) b n (chN N w a) := CDE_net SN_ch (CDE_of h (by rw [rset_ne (by omega), stm_ne (by omega)]) (by rw [rset_ne (by omega), stm_ne (by omega)]) (by rw [rset_ne (by decide), stm_ne (by decide)]) (by rw [rset_ne (by decide), stm_ne (by decide)]) (by rw [rset_ne (by decide), stm_ne (by decide)]) (by rw [rset_ne (by decide), stm_ne (by decide)]))
theorem AR_ch : AR (rset (stm M 394 w a) 398 g) b c m y = AR M b c m y := AR_of (by rw [rset_ne (by decide), stm_ne (by decide)]) (by rw [rset_ne (by decide), stm_ne (by decide)]) (by rw [rset_ne (by decide), stm_ne (by decide)]) (by rw [rset_ne (by decide), stm_ne (by decide)])
theorem AR_st : AR (stm M 394 w a) b c m y = AR M b c m y := AR_of (stm_ne (by decide)) (stm_ne (by decide)) (stm_ne (by decide)) (stm_ne (by decide))
theorem m_told (hR : RM R) (hb : X 364 36 = b) (b0 : 0 ≤ b) (b1 : b ≤ 1) (w0 : 0 ≤ w) (w1 : w < 16) (hq : Q (X 378 (16 * b + w)) SHX R X) : Mw d 243 [vr 364, vi w] SHX R X 0 0 Q := by
  refine Mw_of mok243 rfl fun _ _ => b_X12_told_0 ?_
  simp (disch := omega) only [ok364, fr22 hR, ak378, hb, imul_of, iadd_of]
  exact ⟨by omega, by omega, hq⟩
theorem m_areAll (hR : RM R) (hM : NM M b N) (hW : WN N) (hf : IF M) (n1 : n = 1 ∨ n = 14) (hE : CDE M b n N) (c0 : 0 ≤ c) (c1 : c < N 0 3) (m0 : 0 ≤ m) (m1 : m ≤ 99) (y0 : 0 ≤ y) (y1 : y ≤ 200) (hX : RT M X) (hq1 : ∀ X', RT M X' → AR M b c m y N → Q 1 SHX R X') (hq0 : ∀ X', RT M X' → ¬ AR M b c m y N → Q 0 SHX R X') : Mw (d + 5) 242 [vr 364, vi c, vi m, vi y] SHX R X 0 0 Q := by
  have hS := wn_S hW
  have rb := rwsN_b (N := N) (m := m) hS.2 m0 m1
  refine Mw_of mok242 rfl fun _ _ => b_X12_areAllRight_0 ?_
  have key : ∀ v, 0 ≤ v → v ≤ rwsN N m → ∀ Y, RT M Y → (∀ u, 0 ≤ u → u < v → ¬ bad N M b c m y u) → Go (d + 5) 242 Q 2 [vr 364, vi c, vi m, vi y, vi v] [] SHX R Y 0 0 := by
    refine upto (fun Y hY h => ?_) fun v v0 v1 ih Y hY h => ?_
    · refine b_X12_areAllRight_2 ?_
      rw [ok364]
      refine m_rowsOf (d := d + 3) hR (RT_nm hM hY) hW m0 m1 ?_
      rw [if_neg (by omega)]
      exact hq1 Y hY h
    · refine b_X12_areAllRight_2 ?_
      rw [ok364]
      refine m_rowsOf (d := d + 3) hR (RT_nm hM hY) hW m0 m1 ?_
      rw [if_pos v1, ok364, iadd_of (x := v) (by omega) (by omega)]
      refine m_right hR hM hW hf n1 hE c0 c1 m0 m1 y0 y1 v0 (by omega) hY (fun X' hX' _ he _ => ?_) fun X' hX' _ he _ => ?_
      · rw [if_neg (by decide)]
        refine ih X' hX' fun u u0 u1 => ?_
        by_cases huv : u = v
        · rw [huv]; exact fun z => z he
        · exact h u u0 (by omega)
      · rw [if_pos rfl]
        exact hq0 X' hX' fun z => z v v0 v1 he
  exact key 0 (by decide) (by omega) X hX fun u u0 u1 => by omega
theorem m_mendsTwo {one : Int} (hR : RM R) (hM : NM M b N) (hW : WN N) (hf : IF M) (n1 : n = 1 ∨ n = 14) (hE : CDE M b n N) (c0 : 0 ≤ c) (c1 : c < N 0 3) (m0 : 0 ≤ m) (m1 : m ≤ 99) (y0 : 0 ≤ y) (y1 : y ≤ 200) (o0 : 0 ≤ one) (o1 : one < N 0 2) (hT : ∀ w, one < w → w < 16 → M 378 (16 * b + w) = N 8 w) (hX : RT (rset M 398 g) X) (hq1 : ∀ X' g' z, MF TT (AR M b c m y) 1 (one + 1) N [z] → g' 0 = g 0 → g' 1 = z → RT (rset M 398 g') X' → Q 1 SHX R X') (hq0 : ∀ X' g', NMd TT (AR M b c m y) 1 (one + 1) N → g' 0 = g 0 → RT (rset M 398 g') X' → Q 0 SHX R X') : Mw (d + 6) 245 [vr 364, vi c, vi m, vi y, vi one] SHX R X 0 0 Q := by
  have hw := wn_W hW
  have b0 := nm_b0 hM
  have b1 := nm_b1 hM
  refine Mw_of mok245 rfl fun _ _ => b_X12_mendsTwo_0 ?_
  rw [iadd_of (by omega) (by omega)]
  have key : ∀ w, one + 1 ≤ w → w ≤ N 0 2 → ∀ Y g2, g2 0 = g 0 → RT (rset M 398 g2) Y → (∀ v a, one + 1 ≤ v → v < w → 1 ≤ a → a ≤ 9 → a ≠ N 8 v → ¬ AR M b c m y (chN N v a)) → Go (d + 6) 245 Q 4 [vr 364, vi c, vi m, vi y, vn, vi w, vn, vn] [] SHX R Y 0 0 := by
    refine upfrom (fun Y g2 hg hY hh => ?_) fun w fw w1 ih Y g2 hg hY hh => ?_
    · have hMY := RT_nm (NM_rs hM) hY
      refine b_X12_mendsTwo_4 ?_
      rw [ok364]
      refine w_wayMany (d := d + 5) hR (nm_b hMY) b0 b1 ?_
      rw [nm_W hMY, if_neg (by omega)]
      exact hq0 Y g2 (fun v a v0 v1 _ a1 a9 ha => hh v a v0 v1 a1 a9 ha) hg hY
    · have hMY := RT_nm (NM_rs hM) hY
      refine b_X12_mendsTwo_4 ?_
      rw [ok364]
      refine w_wayMany (d := d + 5) hR (nm_b hMY) b0 b1 ?_
      rw [nm_W hMY, if_pos w1]
      have L : ∀ a, 1 ≤ a → a ≤ 10 → ∀ Z g3, g3 0 = g 0 → RT (rset M 398 g3) Z → (∀ a', 1 ≤ a' → a' < a → a' ≠ N 8 w → ¬ AR M b c m y (chN N w a')) → Go (d + 6) 245 Q 10 [vr 364, vi c, vi m, vi y, vn, vi w, vi a, vn] [] SHX R Z 0 0 := by
        refine upfrom (fun Z g3 hg3 hZ hl => ?_) fun a a1 a10 iha Z g3 hg3 hZ hl => ?_
        · refine b_X12_mendsTwo_10 ?_
          rw [if_pos (by decide), iadd_of (by omega) (by omega)]
          refine ih Z g3 hg3 hZ fun v a v0 v1 c1 c9 ha => ?_
          by_cases hvw : v = w
          · subst hvw; exact hl a c1 (by omega) ha
          · exact hh v a v0 (by omega) c1 c9 ha
        · have hMZ := RT_nm (NM_rs hM) hZ
          have e78 : Z 378 (16 * b + w) = N 8 w := by
            rw [RT_row0 hZ (q := 378) (fun j => by unfold KP; omega) (by decide) (by decide), rset_ne (by decide)]
            exact hT w (by omega) (by omega)
          refine b_X12_mendsTwo_10 ?_
          rw [if_neg (by omega), ok364]
          refine m_told (d := d + 5) hR (nm_b hMZ) b0 b1 (by omega) (by omega) ?_
          rw [e78, iadd_of (x := a) (by omega) (by omega)]
          by_cases haw : a = N 8 w
          · rw [if_pos haw]
            exact iha Z g3 hg3 hZ fun a' c1 c9 hc => hl a' c1 (by omega) hc
          · rw [if_neg haw]
            simp (disch := omega) only [ok364, fr44 hR, ak394, fr53 hR, ak398, imul_of, iadd_of]
            have hin := RT_in (w := w) (a := a) (k := 1) (z := 10 * w + a) hZ
            refine ⟨by omega, by omega, by decide, by decide, m_areAll (d := d) hR (NM_ch hM) (WN_ch hW a1 (by omega)) (IF_ch hf) n1 (CDE_ch hE n1) c0 (by rw [chN_0]; exact c1) m0 m1 y0 y1 hin (fun X' hX' har _ => ?_) fun X' hX' har _ => ?_⟩
            · have hMX := RT_nm (NM_ch hM) hX'
              have e78' : X' 378 (16 * b + w) = N 8 w := by
                rw [RT_row0 hX' (q := 378) (fun j => by unfold KP; omega) (by decide) (by decide), rset_ne (by decide), stm_neq (by omega)]
                exact hT w (by omega) (by omega)
              refine m_told (d := d + 5) hR (nm_b hMX) b0 b1 (by omega) (by omega) ?_
              rw [e78', if_neg (by decide), fr44 hR, ak394]
              rw [AR_ch] at har
              refine ⟨by omega, by omega, hq1 _ (upf g3 1 (10 * w + a)) (10 * w + a) ⟨w, a, [], rfl, fw, w1, trivial, a1, by omega, haw, ⟨har, rfl⟩, fun v a' v0 v1 _ c1 c9 hc lt => ?_⟩ (by rw [upf_ne (by decide)]; exact hg3) upf_hit (RT_ba hX' (nm8 hM w))⟩
              rcases lt with lt | ⟨rfl, lt⟩
              · exact hh v a' v0 lt c1 c9 hc
              · exact hl a' c1 lt hc
            · have hMX := RT_nm (NM_ch hM) hX'
              have e78' : X' 378 (16 * b + w) = N 8 w := by
                rw [RT_row0 hX' (q := 378) (fun j => by unfold KP; omega) (by decide) (by decide), rset_ne (by decide), stm_neq (by omega)]
                exact hT w (by omega) (by omega)
              refine m_told (d := d + 5) hR (nm_b hMX) b0 b1 (by omega) (by omega) ?_
              rw [e78', if_pos rfl, fr44 hR, ak394]
              rw [AR_ch] at har
              refine ⟨by omega, by omega, iha _ (upf g3 1 (10 * w + a)) (by rw [upf_ne (by decide)]; exact hg3) (RT_ba hX' (nm8 hM w)) fun a' c1 c9 hc => ?_⟩
              by_cases haa : a' = a
              · rw [haa]; exact har
              · exact hl a' c1 (by omega) hc
      exact L 1 (by decide) (by decide) Y g2 hg hY fun a' c1 c9 => by omega
  exact key (one + 1) (Int.le_refl _) (by omega) X g rfl hX fun v a v0 v1 => by omega
theorem m_mends1 (hR : RM R) (hM : NM M b N) (hW : WN N) (hf : IF M) (n1 : n = 1 ∨ n = 14) (hE : CDE M b n N) (c0 : 0 ≤ c) (c1 : c < N 0 3) (m0 : 0 ≤ m) (m1 : m ≤ 99) (y0 : 0 ≤ y) (y1 : y ≤ 200) (hT : ∀ w, 0 ≤ w → w < 16 → M 378 (16 * b + w) = N 8 w) (hX : RT (rset M 398 g) X) (hq1 : ∀ X' g' l, MF TT (AR M b c m y) 1 0 N l → (∀ i : Nat, i < l.length → g' (i : Int) = l.getD i 0) → RT (rset M 398 g') X' → Q 1 SHX R X') (hq0 : ∀ X' g', NMd TT (AR M b c m y) 1 0 N → RT (rset M 398 g') X' → Q 0 SHX R X') : Mw (d + 7) 244 [vr 364, vi c, vi m, vi y, vi 0] SHX R X 0 0 Q := by
  have hw := wn_W hW
  have b0 := nm_b0 hM
  have b1 := nm_b1 hM
  refine Mw_of mok244 rfl fun _ _ => b_X12_mendsOne_0 ?_
  have key : ∀ w, 0 ≤ w → w ≤ N 0 2 → ∀ Y g2, RT (rset M 398 g2) Y → (∀ v a, 0 ≤ v → v < w → 1 ≤ a → a ≤ 9 → a ≠ N 8 v → ¬ AR M b c m y (chN N v a)) → Go (d + 7) 244 Q 2 [vr 364, vi c, vi m, vi y, vi 0, vi w, vn, vn] [] SHX R Y 0 0 := by
    refine upto (fun Y g2 hY hh => ?_) fun w w0 w1 ih Y g2 hY hh => ?_
    · have hMY := RT_nm (NM_rs hM) hY
      refine b_X12_mendsOne_2 ?_
      rw [ok364]
      refine w_wayMany (d := d + 6) hR (nm_b hMY) b0 b1 ?_
      rw [nm_W hMY, if_neg (by omega)]
      exact hq0 Y g2 (fun v a v0 v1 _ a1 a9 ha => hh v a v0 v1 a1 a9 ha) hY
    · have hMY := RT_nm (NM_rs hM) hY
      refine b_X12_mendsOne_2 ?_
      rw [ok364]
      refine w_wayMany (d := d + 6) hR (nm_b hMY) b0 b1 ?_
      rw [nm_W hMY, if_pos w1]
      have L : ∀ a, 1 ≤ a → a ≤ 10 → ∀ Z g3, RT (rset M 398 g3) Z → (∀ a', 1 ≤ a' → a' < a → a' ≠ N 8 w → ¬ AR M b c m y (chN N w a')) → Go (d + 7) 244 Q 8 [vr 364, vi c, vi m, vi y, vi 0, vi w, vi a, vn] [] SHX R Z 0 0 := by
        refine upfrom (fun Z g3 hZ hl => ?_) fun a a1 a10 iha Z g3 hZ hl => ?_
        · refine b_X12_mendsOne_8 ?_
          rw [if_pos (by decide), iadd_of (by omega) (by omega)]
          refine ih Z g3 hZ fun v a v0 v1 c1 c9 ha => ?_
          by_cases hvw : v = w
          · subst hvw; exact hl a c1 (by omega) ha
          · exact hh v a v0 (by omega) c1 c9 ha
        · have hMZ := RT_nm (NM_rs hM) hZ
          have e78 : Z 378 (16 * b + w) = N 8 w := by
            rw [RT_row0 hZ (q := 378) (fun j => by unfold KP; omega) (by decide) (by decide), rset_ne (by decide)]
            exact hT w w0 (by omega)
          refine b_X12_mendsOne_8 ?_
          rw [if_neg (by omega), ok364]
          refine m_told (d := d + 6) hR (nm_b hMZ) b0 b1 (by omega) (by omega) ?_
          rw [e78, iadd_of (x := a) (by omega) (by omega)]
          by_cases haw : a = N 8 w
          · rw [if_pos haw]
            exact iha Z g3 hZ fun a' c1 c9 hc => hl a' c1 (by omega) hc
          · rw [if_neg haw, if_pos rfl]
            simp (disch := omega) only [ok364, fr44 hR, ak394, fr53 hR, ak398, imul_of, iadd_of]
            have hin := RT_in (w := w) (a := a) (k := 0) (z := 10 * w + a) hZ
            refine ⟨by omega, by omega, by decide, by decide, m_areAll (d := d + 1) hR (NM_ch hM) (WN_ch hW a1 (by omega)) (IF_ch hf) n1 (CDE_ch hE n1) c0 (by rw [chN_0]; exact c1) m0 m1 y0 y1 hin (fun X' hX' har _ => ?_) fun X' hX' har _ => ?_⟩
            · have hMX := RT_nm (NM_ch hM) hX'
              have e78' : X' 378 (16 * b + w) = N 8 w := by
                rw [RT_row0 hX' (q := 378) (fun j => by unfold KP; omega) (by decide) (by decide), rset_ne (by decide), stm_neq (by omega)]
                exact hT w w0 (by omega)
              refine m_told (d := d + 6) hR (nm_b hMX) b0 b1 (by omega) (by omega) ?_
              rw [e78', if_neg (by decide), fr44 hR, ak394]
              rw [AR_ch] at har
              refine ⟨by omega, by omega, hq1 _ (upf g3 0 (10 * w + a)) [10 * w + a] ⟨w, a, [], rfl, w0, w1, trivial, a1, by omega, haw, ⟨har, rfl⟩, fun v a' v0 v1 _ c1 c9 hc lt => ?_⟩ (fun i hi => ?_) (RT_ba hX' (nm8 hM w))⟩
              · rcases lt with lt | ⟨rfl, lt⟩
                · exact hh v a' v0 lt c1 c9 hc
                · exact hl a' c1 lt hc
              · have hi0 : i = 0 := by
                  have : i < 1 := hi
                  omega
                subst hi0
                exact upf_hit
            · have hMX := RT_nm (NM_ch hM) hX'
              have e78' : X' 378 (16 * b + w) = N 8 w := by
                rw [RT_row0 hX' (q := 378) (fun j => by unfold KP; omega) (by decide) (by decide), rset_ne (by decide), stm_neq (by omega)]
                exact hT w w0 (by omega)
              refine m_told (d := d + 6) hR (nm_b hMX) b0 b1 (by omega) (by omega) ?_
              rw [e78', if_pos rfl, fr44 hR, ak394]
              rw [AR_ch] at har
              refine ⟨by omega, by omega, iha _ (upf g3 0 (10 * w + a)) (RT_ba hX' (nm8 hM w)) fun a' c1 c9 hc => ?_⟩
              by_cases haa : a' = a
              · rw [haa]; exact har
              · exact hl a' c1 (by omega) hc
      exact L 1 (by decide) (by decide) Y g2 hY fun a' c1 c9 => by omega
  exact key 0 (by decide) hw.1 X g hX fun v a v0 v1 => by omega
theorem m_mends2 (hR : RM R) (hM : NM M b N) (hW : WN N) (hf : IF M) (n1 : n = 1 ∨ n = 14) (hE : CDE M b n N) (c0 : 0 ≤ c) (c1 : c < N 0 3) (m0 : 0 ≤ m) (m1 : m ≤ 99) (y0 : 0 ≤ y) (y1 : y ≤ 200) (hT : ∀ w, 0 ≤ w → w < 16 → M 378 (16 * b + w) = N 8 w) (hX : RT (rset M 398 g) X) (hq1 : ∀ X' g' l, MF TT (AR M b c m y) 2 0 N l → (∀ i : Nat, i < l.length → g' (i : Int) = l.getD i 0) → RT (rset M 398 g') X' → Q 1 SHX R X') (hq0 : ∀ X' g', NMd TT (AR M b c m y) 2 0 N → RT (rset M 398 g') X' → Q 0 SHX R X') : Mw (d + 7) 244 [vr 364, vi c, vi m, vi y, vi 1] SHX R X 0 0 Q := by
  have hw := wn_W hW
  have b0 := nm_b0 hM
  have b1 := nm_b1 hM
  refine Mw_of mok244 rfl fun _ _ => b_X12_mendsOne_0 ?_
  have key : ∀ w, 0 ≤ w → w ≤ N 0 2 → ∀ Y g2, RT (rset M 398 g2) Y → (∀ v a, 0 ≤ v → v < w → 1 ≤ a → a ≤ 9 → a ≠ N 8 v → NMd TT (AR M b c m y) 1 (v + 1) (chN N v a)) → Go (d + 7) 244 Q 2 [vr 364, vi c, vi m, vi y, vi 1, vi w, vn, vn] [] SHX R Y 0 0 := by
    refine upto (fun Y g2 hY hh => ?_) fun w w0 w1 ih Y g2 hY hh => ?_
    · have hMY := RT_nm (NM_rs hM) hY
      refine b_X12_mendsOne_2 ?_
      rw [ok364]
      refine w_wayMany (d := d + 6) hR (nm_b hMY) b0 b1 ?_
      rw [nm_W hMY, if_neg (by omega)]
      exact hq0 Y g2 (fun v a v0 v1 _ a1 a9 ha => hh v a v0 v1 a1 a9 ha) hY
    · have hMY := RT_nm (NM_rs hM) hY
      refine b_X12_mendsOne_2 ?_
      rw [ok364]
      refine w_wayMany (d := d + 6) hR (nm_b hMY) b0 b1 ?_
      rw [nm_W hMY, if_pos w1]
      have L : ∀ a, 1 ≤ a → a ≤ 10 → ∀ Z g3, RT (rset M 398 g3) Z → (∀ a', 1 ≤ a' → a' < a → a' ≠ N 8 w → NMd TT (AR M b c m y) 1 (w + 1) (chN N w a')) → Go (d + 7) 244 Q 8 [vr 364, vi c, vi m, vi y, vi 1, vi w, vi a, vn] [] SHX R Z 0 0 := by
        refine upfrom (fun Z g3 hZ hl => ?_) fun a a1 a10 iha Z g3 hZ hl => ?_
        · refine b_X12_mendsOne_8 ?_
          rw [if_pos (by decide), iadd_of (by omega) (by omega)]
          refine ih Z g3 hZ fun v a v0 v1 c1 c9 ha => ?_
          by_cases hvw : v = w
          · subst hvw; exact hl a c1 (by omega) ha
          · exact hh v a v0 (by omega) c1 c9 ha
        · have hMZ := RT_nm (NM_rs hM) hZ
          have e78 : Z 378 (16 * b + w) = N 8 w := by
            rw [RT_row0 hZ (q := 378) (fun j => by unfold KP; omega) (by decide) (by decide), rset_ne (by decide)]
            exact hT w w0 (by omega)
          refine b_X12_mendsOne_8 ?_
          rw [if_neg (by omega), ok364]
          refine m_told (d := d + 6) hR (nm_b hMZ) b0 b1 (by omega) (by omega) ?_
          rw [e78, iadd_of (x := a) (by omega) (by omega)]
          by_cases haw : a = N 8 w
          · rw [if_pos haw]
            exact iha Z g3 hZ fun a' c1 c9 hc => hl a' c1 (by omega) hc
          · rw [if_neg haw, if_neg (show ¬ (1 : Int) = 0 by decide)]
            simp (disch := omega) only [ok364, fr44 hR, ak394, fr53 hR, ak398, imul_of, iadd_of]
            have hin := RT_in (w := w) (a := a) (k := 0) (z := 10 * w + a) hZ
            have hM1 : NM (stm M 394 w a) b (chN N w a) := by
              have h := NM_ch (w := w) (a := a) (g := stm M 394 w a 398) hM
              rw [rset_self] at h
              exact h
            have hf1 : IF (stm M 394 w a) := by
              have h := IF_ch (w := w) (a := a) (g := stm M 394 w a 398) hf
              rw [rset_self] at h
              exact h
            have hE1 : CDE (stm M 394 w a) b n (chN N w a) := by
              have h := CDE_ch (w := w) (a := a) (g := stm M 394 w a 398) hE n1
              rw [rset_self] at h
              exact h
            refine ⟨by omega, by omega, by decide, by decide, m_mendsTwo (d := d) hR hM1 (WN_ch hW a1 (by omega)) hf1 n1 hE1 c0 (by rw [chN_0]; exact c1) m0 m1 y0 y1 w0 (by rw [chN_0]; exact w1) (fun v v0 v1 => by rw [stm_neq (by omega), chN_8n (by omega)]; exact hT v (by omega) v1) hin (fun X' g' z hmf e0 e1 hX' _ => ?_) fun X' g' hno e0 hX' _ => ?_⟩
            · have hMX := RT_nm (NM_ch hM) hX'
              have e78' : X' 378 (16 * b + w) = N 8 w := by
                rw [RT_row0 hX' (q := 378) (fun j => by unfold KP; omega) (by decide) (by decide), rset_ne (by decide), stm_neq (by omega)]
                exact hT w w0 (by omega)
              refine m_told (d := d + 6) hR (nm_b hMX) b0 b1 (by omega) (by omega) ?_
              rw [e78', if_neg (by decide), fr44 hR, ak394]
              rw [AR_st] at hmf
              refine ⟨by omega, by omega, hq1 _ g' [10 * w + a, z] ⟨w, a, [z], rfl, w0, w1, trivial, a1, by omega, haw, hmf, fun v a' v0 v1 _ c1 c9 hc lt => ?_⟩ (fun i hi => ?_) (RT_ba hX' (nm8 hM w))⟩
              · rcases lt with lt | ⟨rfl, lt⟩
                · exact hh v a' v0 lt c1 c9 hc
                · exact hl a' c1 lt hc
              · have hi2 : i < 2 := hi
                by_cases hi0 : i = 0
                · subst hi0
                  rw [show g' ((0 : Nat) : Int) = g' 0 from rfl, e0, upf_hit]
                  rfl
                · have hi1 : i = 1 := by omega
                  subst hi1
                  rw [show g' ((1 : Nat) : Int) = g' 1 from rfl, e1]
                  rfl
            · have hMX := RT_nm (NM_ch hM) hX'
              have e78' : X' 378 (16 * b + w) = N 8 w := by
                rw [RT_row0 hX' (q := 378) (fun j => by unfold KP; omega) (by decide) (by decide), rset_ne (by decide), stm_neq (by omega)]
                exact hT w w0 (by omega)
              refine m_told (d := d + 6) hR (nm_b hMX) b0 b1 (by omega) (by omega) ?_
              rw [e78', if_pos rfl, fr44 hR, ak394]
              rw [AR_st] at hno
              refine ⟨by omega, by omega, iha _ g' (RT_ba hX' (nm8 hM w)) fun a' c1 c9 hc => ?_⟩
              by_cases haa : a' = a
              · rw [haa]; exact hno
              · exact hl a' c1 (by omega) hc
      exact L 1 (by decide) (by decide) Y g2 hY fun a' c1 c9 => by omega
  exact key 0 (by decide) hw.1 X g hX fun v a v0 v1 => by omega
end
