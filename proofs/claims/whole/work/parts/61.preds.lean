/-! WHAT CAN BE, on both sides -/
section
variable {d : Nat} {R M : MEM} {b n x l m t : Int} {N : NTW} {Q : RES}
theorem c_isWithin (hq1 : l ≤ x → x ≤ m → Q 1 SHX R M) (hq0 : ¬ (l ≤ x ∧ x ≤ m) → Q 0 SHX R M) : Mw d 144 [vi x, vi l, vi m] SHX R M 0 0 Q := by
  refine Mw_of mok144 rfl fun _ _ => b_X11_isWithin_0 ?_
  by_cases h1 : x < l
  · rw [if_pos h1]; exact hq0 (by omega)
  · rw [if_neg h1]
    by_cases h2 : m < x
    · rw [if_pos h2]; exact hq0 (by omega)
    · rw [if_neg h2]; exact hq1 (by omega) (by omega)
theorem m_isIn (hq1 : l ≤ x → x ≤ m → Q 1 SHX R M) (hq0 : ¬ (l ≤ x ∧ x ≤ m) → Q 0 SHX R M) : Mw d 193 [vi x, vi l, vi m] SHX R M 0 0 Q := by
  refine Mw_of mok193 rfl fun _ _ => b_X12_isIn_0 ?_
  by_cases h1 : x < l
  · rw [if_pos h1]; exact hq0 (by omega)
  · rw [if_neg h1]
    by_cases h2 : m < x
    · rw [if_pos h2]; exact hq0 (by omega)
    · rw [if_neg h2]; exact hq1 (by omega) (by omega)
theorem c_isTower (hn : R 0 12 = n) (hN : NR R n) (hC : NC M n N) (hW : WN N) (hq1 : 0 ≤ t → t < N 0 0 → Q 1 SHX R M) (hq0 : ¬ (0 ≤ t ∧ t < N 0 0) → Q 0 SHX R M) : Mw (d + 1) 145 [vr 0, vi t] SHX R M 0 0 Q := by
  have h := wn_T hW
  refine Mw_of mok145 rfl fun _ _ => b_X11_isTower_0 ?_
  rw [ok0, hn, okN hN, nc_T hC, isub_of (by omega) (by omega)]
  exact c_isWithin (fun h0 h1 _ => hq1 h0 (by omega)) fun h _ => hq0 (by omega)
theorem c_isStart (hn : R 0 12 = n) (hN : NR R n) (hC : NC M n N) (hW : WN N) (hq1 : 0 ≤ t → t < N 0 1 → Q 1 SHX R M) (hq0 : ¬ (0 ≤ t ∧ t < N 0 1) → Q 0 SHX R M) : Mw (d + 1) 147 [vr 0, vi t] SHX R M 0 0 Q := by
  have h := wn_S hW
  refine Mw_of mok147 rfl fun _ _ => b_X11_isStart_0 ?_
  rw [ok0, hn, okN hN, nc_S hC, isub_of (by omega) (by omega)]
  exact c_isWithin (fun h0 h1 _ => hq1 h0 (by omega)) fun h _ => hq0 (by omega)
theorem c_isWay (hn : R 0 12 = n) (hN : NR R n) (hC : NC M n N) (hW : WN N) (hq1 : 0 ≤ t → t < N 0 2 → Q 1 SHX R M) (hq0 : ¬ (0 ≤ t ∧ t < N 0 2) → Q 0 SHX R M) : Mw (d + 1) 148 [vr 0, vi t] SHX R M 0 0 Q := by
  have h := wn_W hW
  refine Mw_of mok148 rfl fun _ _ => b_X11_isWay_0 ?_
  rw [ok0, hn, okN hN, nc_W hC, isub_of (by omega) (by omega)]
  exact c_isWithin (fun h0 h1 _ => hq1 h0 (by omega)) fun h _ => hq0 (by omega)
theorem c_isClaim (hn : R 0 12 = n) (hN : NR R n) (hC : NC M n N) (hW : WN N) (hq1 : 0 ≤ t → t < N 0 3 → Q 1 SHX R M) (hq0 : ¬ (0 ≤ t ∧ t < N 0 3) → Q 0 SHX R M) : Mw (d + 1) 149 [vr 0, vi t] SHX R M 0 0 Q := by
  have h := wn_C hW
  refine Mw_of mok149 rfl fun _ _ => b_X11_isClaim_0 ?_
  rw [ok0, hn, okN hN, nc_C hC, isub_of (by omega) (by omega)]
  exact c_isWithin (fun h0 h1 _ => hq1 h0 (by omega)) fun h _ => hq0 (by omega)
theorem c_isDusk (hn : R 0 12 = n) (hN : NR R n) (hC : NC M n N) (hW : WN N) (hq1 : 0 ≤ t → t < N 0 0 → N 1 t = 4 → Q 1 SHX R M) (hq0 : ¬ (0 ≤ t ∧ t < N 0 0 ∧ N 1 t = 4) → Q 0 SHX R M) : Mw (d + 2) 146 [vr 0, vi t] SHX R M 0 0 Q := by
  have h := wn_T hW
  refine Mw_of mok146 rfl fun _ _ => b_X11_isDusk_0 ?_
  rw [ok0]
  refine c_isTower (d := d) hn hN hC hW (fun h0 h1 _ => ?_) fun h _ => ?_
  · rw [if_neg (by decide), ok0, hn, okN hN, nr1 hN, aN1 hN, nc1 hC t h0 h1]
    refine ⟨h0, by omega, ?_⟩
    by_cases h4 : N 1 t = 4
    · rw [if_pos h4]; exact hq1 h0 h1 h4
    · rw [if_neg h4]; exact hq0 fun z => h4 z.2.2
  · rw [if_pos rfl]
    exact hq0 fun z => h ⟨z.1, z.2.1⟩
theorem c_isTried (hn : R 0 12 = n) (hN : NR R n) (hC : NC M n N) (hW : WN N) (hq1 : 0 ≤ t → t < N 0 0 → N 1 t = 4 → 1 ≤ x → x ≤ 100 → Q 1 SHX R M) (hq0 : ¬ ((0 ≤ t ∧ t < N 0 0 ∧ N 1 t = 4) ∧ 1 ≤ x ∧ x ≤ 100) → Q 0 SHX R M) : Mw (d + 3) 150 [vr 0, vi t, vi x] SHX R M 0 0 Q := by
  refine Mw_of mok150 rfl fun _ _ => b_X11_isTried_0 ?_
  rw [ok0]
  refine c_isDusk (d := d) hn hN hC hW (fun h0 h1 h2 _ => ?_) fun h _ => ?_
  · rw [if_neg (by decide)]
    refine c_isWithin (d := d + 2) (fun g0 g1 _ => ?_) fun g _ => ?_
    · rw [if_neg (by decide)]; exact hq1 h0 h1 h2 g0 g1
    · rw [if_pos rfl]; exact hq0 fun z => g z.2
  · rw [if_pos rfl]; exact hq0 fun z => h z.1
theorem c_isClaimTried (hn : R 0 12 = n) (hN : NR R n) (hC : NC M n N) (hW : WN N) (hq1 : 0 ≤ t → t < N 0 3 → 0 ≤ m → m ≤ 99 → 1 ≤ x → x ≤ 100 → Q 1 SHX R M) (hq0 : ¬ ((0 ≤ t ∧ t < N 0 3) ∧ (0 ≤ m ∧ m ≤ 99) ∧ 1 ≤ x ∧ x ≤ 100) → Q 0 SHX R M) : Mw (d + 2) 151 [vr 0, vi t, vi m, vi x] SHX R M 0 0 Q := by
  refine Mw_of mok151 rfl fun _ _ => b_X11_isClaimTried_0 ?_
  rw [ok0]
  refine c_isClaim (d := d) hn hN hC hW (fun h0 h1 _ => ?_) fun h _ => ?_
  · rw [if_neg (by decide)]
    refine c_isWithin (d := d + 1) (fun g0 g1 _ => ?_) fun g _ => ?_
    · rw [if_neg (by decide)]
      refine c_isWithin (d := d + 1) (fun k0 k1 _ => ?_) fun k _ => ?_
      · rw [if_neg (by decide)]; exact hq1 h0 h1 g0 g1 k0 k1
      · rw [if_pos rfl]; exact hq0 fun z => k z.2.2
    · rw [if_pos rfl]; exact hq0 fun z => g z.2.1
  · rw [if_pos rfl]; exact hq0 fun z => h z.1
theorem m_isTower (hR : RM R) (hN : NM M b N) (hW : WN N) (hq1 : 0 ≤ t → t < N 0 0 → Q 1 SHX R M) (hq0 : ¬ (0 ≤ t ∧ t < N 0 0) → Q 0 SHX R M) : Mw (d + 1) 198 [vr 364, vi t] SHX R M 0 0 Q := by
  have h := wn_T hW
  refine Mw_of mok198 rfl fun _ _ => b_X12_isTower_0 ?_
  rw [ok364]
  refine w_towerMany (d := d) hR (nm_b hN) (nm_b0 hN) (nm_b1 hN) ?_
  rw [nm_T hN, isub_of (by omega) (by omega)]
  exact m_isIn (fun h0 h1 _ => hq1 h0 (by omega)) fun h _ => hq0 (by omega)
theorem m_isWay (hR : RM R) (hN : NM M b N) (hW : WN N) (hq1 : 0 ≤ t → t < N 0 2 → Q 1 SHX R M) (hq0 : ¬ (0 ≤ t ∧ t < N 0 2) → Q 0 SHX R M) : Mw (d + 1) 199 [vr 364, vi t] SHX R M 0 0 Q := by
  have h := wn_W hW
  refine Mw_of mok199 rfl fun _ _ => b_X12_isWay_0 ?_
  rw [ok364]
  refine w_wayMany (d := d) hR (nm_b hN) (nm_b0 hN) (nm_b1 hN) ?_
  rw [nm_W hN, isub_of (by omega) (by omega)]
  exact m_isIn (fun h0 h1 _ => hq1 h0 (by omega)) fun h _ => hq0 (by omega)
theorem m_sortOf (hR : RM R) (hN : NM M b N) (h0 : 0 ≤ t) (h1 : t < 10) (hq : Q (N 1 t) SHX R M) : Mw d 197 [vr 364, vi t] SHX R M 0 0 Q := by
  refine w_sortOf hR (nm_b hN) (nm_b0 hN) (nm_b1 hN) h0 h1 ?_
  rw [nm1 hN]
  exact hq
theorem m_isDusk (hR : RM R) (hN : NM M b N) (hW : WN N) (hq1 : 0 ≤ t → t < N 0 0 → N 1 t = 4 → Q 1 SHX R M) (hq0 : ¬ (0 ≤ t ∧ t < N 0 0 ∧ N 1 t = 4) → Q 0 SHX R M) : Mw (d + 2) 200 [vr 364, vi t] SHX R M 0 0 Q := by
  have h := wn_T hW
  refine Mw_of mok200 rfl fun _ _ => b_X12_isDusk_0 ?_
  rw [ok364]
  refine m_isTower (d := d) hR hN hW (fun h0 h1 _ => ?_) fun h _ => ?_
  · rw [if_neg (by decide), ok364]
    refine m_sortOf (d := d + 1) hR hN h0 (by omega) ?_
    by_cases h4 : N 1 t = 4
    · rw [if_pos h4]; exact hq1 h0 h1 h4
    · rw [if_neg h4]; exact hq0 fun z => h4 z.2.2
  · rw [if_pos rfl]
    exact hq0 fun z => h ⟨z.1, z.2.1⟩
theorem m_isClaim (hR : RM R) (hN : NM M b N) (hW : WN N) (hq1 : 0 ≤ t → t < N 0 3 → Q 1 SHX R M) (hq0 : ¬ (0 ≤ t ∧ t < N 0 3) → Q 0 SHX R M) : Mw (d + 1) 201 [vr 364, vi t] SHX R M 0 0 Q := by
  have h := wn_C hW
  have b0 := nm_b0 hN
  have b1 := nm_b1 hN
  refine Mw_of mok201 rfl fun _ _ => b_X12_isClaim_0 ?_
  simp only [ok364, fr14 hR, ak370, nm_b hN, nm_C hN]
  rw [isub_of (by omega) (by omega)]
  exact ⟨b0, by omega, m_isIn (fun h0 h1 _ => hq1 h0 (by omega)) fun h _ => hq0 (by omega)⟩
theorem m_isBeats (hq1 : 1 ≤ x → x ≤ 100 → Q 1 SHX R M) (hq0 : ¬ (1 ≤ x ∧ x ≤ 100) → Q 0 SHX R M) : Mw (d + 1) 228 [vi x] SHX R M 0 0 Q := by
  refine Mw_of mok228 rfl fun _ _ => b_X12_isBeats_0 ?_
  exact m_isIn (fun h0 h1 _ => hq1 h0 h1) fun h _ => hq0 h
theorem m_canAsk (hR : RM R) (hN : NM M b N) (hW : WN N) (hq1 : 0 ≤ t → t < N 0 3 → 0 ≤ m → m ≤ 99 → 1 ≤ x → x ≤ 100 → Q 1 SHX R M) (hq0 : ¬ ((0 ≤ t ∧ t < N 0 3) ∧ (0 ≤ m ∧ m ≤ 99) ∧ 1 ≤ x ∧ x ≤ 100) → Q 0 SHX R M) : Mw (d + 2) 238 [vr 364, vi t, vi m, vi x] SHX R M 0 0 Q := by
  refine Mw_of mok238 rfl fun _ _ => b_X12_canAsk_0 ?_
  rw [ok364]
  refine m_isClaim (d := d) hR hN hW (fun h0 h1 _ => ?_) fun h _ => ?_
  · rw [if_neg (by decide)]
    refine m_isIn (d := d + 1) (fun g0 g1 _ => ?_) fun g _ => ?_
    · rw [if_neg (by decide)]
      refine m_isBeats (d := d) (fun k0 k1 _ => ?_) fun k _ => ?_
      · rw [if_neg (by decide)]; exact hq1 h0 h1 g0 g1 k0 k1
      · rw [if_pos rfl]; exact hq0 fun z => k z.2.2
    · rw [if_pos rfl]; exact hq0 fun z => g z.2.1
  · rw [if_pos rfl]; exact hq0 fun z => h z.1
end
/-! what an op has at hand -/
theorem in_net {c : Nat} {R M : MEM} {b : Int} {N : NTW} (h : INV c R M b N) : R 0 12 = 1 + 13 * b ∧ NR R (1 + 13 * b) ∧ NC M (1 + 13 * b) N ∧ WN N ∧ NM M b N ∧ RC R ∧ RM R ∧ 0 ≤ b ∧ b ≤ 1 := by
  obtain ⟨g1, g2, g3, g4, g5, g6⟩ := in_r h
  have ha := in_a h
  refine ⟨g3, ?_, ia_c ha, ia_w ha, ia_m ha, g1, g2, g5, g6⟩
  by_cases hb : b = 0
  · rw [hb]; exact NR1 g1
  · rw [show b = 1 by omega]; exact NR14 g1
theorem stt_0 {M : MEM} : stt M 0 = M 392 := by
  funext i
  unfold stt
  rw [if_pos rfl]
/-- the sky at hand -/
theorem in_now {c : Nat} {R M : MEM} {b : Int} {N : NTW} (h : INV c R M b N) : SR R (38 + 5 * M 36 1) ∧ R 37 (M 36 1) = 38 + 5 * M 36 1 ∧ SKY 0 (blk M (38 + 5 * M 36 1)) (cut (M 392)) ∧ GD N (cut (M 392)) c ∧ 0 ≤ M 36 1 ∧ M 36 1 ≤ 40 := by
  have hs := in_s h
  have hh := is_h hs
  have hu := is_u hs
  have hr := is_r hs
  have hC := (in_net h).2.2.2.2.2.1
  obtain ⟨a1, a2⟩ := is_s hs 0 (by omega) (by omega)
  rw [stt_0, show (M 36 1 + 0) % 41 = M 36 1 by omega] at a1
  rw [stt_0] at a2
  exact ⟨SR37 hC hh.1 (by omega), sky37 hC hh.1 (by omega), a1, a2, hh.1, hh.2⟩
theorem c_now {d : Nat} {R M : MEM} {Q : RES} (hC : RC R) (h0 : 0 ≤ M 36 1) (h1 : M 36 1 ≤ 40) (hq : Q (38 + 5 * M 36 1) SHX R M) : Mw d 1 [vr 36] SHX R M 0 0 Q := by
  refine Mw_of mok1 rfl fun _ _ => b_X0_now_0 ?_
  rw [ok36, ok36, rc36_0 hC, sky37 hC h0 (by omega), ak_mk (kd := 104) fs37]
  exact ⟨h0, by omega, hq⟩
