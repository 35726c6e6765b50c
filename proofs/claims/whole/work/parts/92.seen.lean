/-! SIGHTS: whether a row is so as was seen -/
def KNW (M : MEM) (z i : Int) : Prop := M 408 i ≤ z ∧ (M 409 i < 0 ∨ z < M 409 i)
def fi1 (N : NTW) (M : MEM) (r : Int → Int) (i : Int) : Prop := rk N r (M 406 i) (M 405 i) = M 407 i
def SO (N : NTW) (M : MEM) (r : Int → Int) (z : Int) : Prop := ∀ i, 0 ≤ i → i < M 364 70 → KNW M z i → fi1 N M r i
section
variable {d c : Nat} {R M X : MEM} {b n x y z t m k v : Int} {N : NTW} {Q : RES} {S F A : SK} {row row' : Int → Int}
theorem KNW_of {M' : MEM} {i : Int} (e1 : M' 408 = M 408) (e2 : M' 409 = M 409) : KNW M' z i ↔ KNW M z i := by
  unfold KNW
  rw [e1, e2]
theorem SO_row (hW : WN N) (e : ∀ s, 0 ≤ s → s < N 0 1 → row s = row' s) : SO N M row z ↔ SO N M row' z := by
  unfold SO fi1
  constructor
  · intro h i i0 i1 hk
    rw [← rk_row hW e]; exact h i i0 i1 hk
  · intro h i i0 i1 hk
    rw [rk_row hW e]; exact h i i0 i1 hk
theorem SO_of {M' : MEM} (e0 : M' 364 70 = M 364 70) (e : ∀ q, 405 ≤ q → q ≤ 409 → M' q = M q) : SO N M' row z ↔ SO N M row z := by
  unfold SO fi1 KNW
  rw [e0, e 405 (by decide) (by decide), e 406 (by decide) (by decide), e 407 (by decide) (by decide), e 408 (by decide) (by decide), e 409 (by decide) (by decide)]
theorem c_isKnown (hc : RC R) (hg : IG M N) (i0 : 0 ≤ x) (i1 : x < M 364 70) (hq1 : KNW M z x → Q 1 SHX R M) (hq0 : ¬ KNW M z x → Q 0 SHX R M) : Mw d 63 [vr 355, vi x, vi z] SHX R M 0 0 Q := by
  have h20 := ig_n hg
  obtain ⟨e1, e2, e3, e4, e5, e6, e7⟩ := ig_v hg x i0 i1
  refine Mw_of mok63 rfl fun _ _ => b_X7_isKnown_0 ?_
  simp only [ok355, rc355_4 hc, rc355_5 hc, ak359, ak360]
  refine ⟨i0, by omega, ?_⟩
  by_cases h1 : z < M 359 x
  · rw [if_pos h1]; exact hq0 fun h => by unfold KNW at h; omega
  · rw [if_neg h1]
    refine ⟨i0, by omega, ?_⟩
    by_cases h2 : M 360 x = -1
    · rw [if_pos h2]; exact hq1 (by unfold KNW; omega)
    · rw [if_neg h2]
      refine ⟨i0, by omega, ?_⟩
      by_cases h3 : z < M 360 x
      · rw [if_pos h3]; exact hq1 (by unfold KNW; omega)
      · rw [if_neg h3]; exact hq0 fun h => by unfold KNW at h; omega
theorem m_counts (hR : RM R) (i0 : 0 ≤ x) (i1 : x < 20) (hq1 : KNW M z x → Q 1 SHX R M) (hq0 : ¬ KNW M z x → Q 0 SHX R M) : Mw d 266 [vr 364, vi x, vi z] SHX R M 0 0 Q := by
  refine Mw_of mok266 rfl fun _ _ => b_X12_counts_0 ?_
  simp only [ok364, fr65 hR, fr66 hR, ak408, ak409]
  refine ⟨i0, by omega, ?_⟩
  by_cases h1 : z < M 408 x
  · rw [if_pos h1]; exact hq0 fun h => by unfold KNW at h; omega
  · rw [if_neg h1]
    refine ⟨i0, by omega, ?_⟩
    by_cases h2 : M 409 x < 0
    · rw [if_pos h2]; exact hq1 (by unfold KNW; omega)
    · rw [if_neg h2]
      refine ⟨i0, by omega, ?_⟩
      by_cases h3 : z < M 409 x
      · rw [if_pos h3]; exact hq1 (by unfold KNW; omega)
      · rw [if_neg h3]; exact hq0 fun h => by unfold KNW at h; omega
theorem IG_CS (hg : IG M N) {B : MEM} : IG (CS M 262 B) N := IG_of hg (by rw [CS_ne (by omega)]) (by rw [CS_ne (by omega)]) (by rw [CS_ne (by omega)]) (by rw [CS_ne (by omega)]) (fun q q0 q1 => CS_ne (by omega)) (fun q q0 q1 => CS_ne (by omega))
theorem c_isSo0 {A : MEM} (hC0 : RC R) (hN : NR R n) (hC : NC M n N) (hW : WN N) (hsep : n + 12 < 262) (hg : IG M N) (hr : RW N (M 361)) (hq1 : ∀ A', SO N M (M 361) z → Q 1 SHX R (CS M 262 A')) (hq0 : ∀ A', ¬ SO N M (M 361) z → Q 0 SHX R (CS M 262 A')) : Mw (d + 3) 65 [vr 355, vr n, vi z] SHX R (CS M 262 A) 0 0 Q := by
  have hS := SR262 hC0
  have h0 := rc261_0 hC0
  have hT := wn_T hW
  have o := zop_ok (N := N) hW hr
  have g20 := (ig_n hg).2
  have h355 := (ig_n hg).1
  have e355 : ∀ {B : MEM} {j : Int}, CS M 262 B 355 j = M 355 j := fun {B j} => by rw [CS_ne (by omega)]
  have e356 : ∀ {B : MEM}, CS M 262 B 356 = M 356 := fun {B} => CS_ne (by omega)
  have e357 : ∀ {B : MEM}, CS M 262 B 357 = M 357 := fun {B} => CS_ne (by omega)
  have e358 : ∀ {B : MEM}, CS M 262 B 358 = M 358 := fun {B} => CS_ne (by omega)
  have e364 : ∀ {B : MEM}, CS M 262 B 364 70 = M 364 70 := fun {B} => by rw [CS_ne (by omega)]
  have ek : ∀ {B : MEM} {i : Int}, KNW (CS M 262 B) z i ↔ KNW M z i := fun {B i} => KNW_of (CS_ne (by omega)) (CS_ne (by omega))
  refine Mw_of mok65 rfl fun _ _ => b_X7_isSo_0 ?_
  rw [ok355, ok355, rc355_6 hC0, ok261, rc355_7 hC0]
  refine c_open (d := d + 1) h0 hS hN hC hW hsep fs361 (by omega) hr fun A1 δ1 hA1 => ?_
  have L32 : ∀ ln : Nat, (∀ i, 0 ≤ i → i < M 364 70 → KNW M z i → M 406 i ≤ (ln : Int)) → ln ≤ 60 → ∀ j : Nat, j ≤ ln → ∀ A' δ (jj : Nat), SKY δ A' (flyS N L0 (opS N (M 361) (zS 0)) jj) → jj ≤ j → (jj = j ∨ still N (flyS N L0 (opS N (M 361) (zS 0)) jj)) → (∀ i, 0 ≤ i → i < M 364 70 → KNW M z i → M 406 i ≤ (j : Int) → fi1 N M (M 361) i) → Go (d + 3) 65 Q 32 [vr 355, vr n, vi z, vi (ln : Int), vi ((j : Int) + 1), vn] [] SHX R (CS M 262 A') 0 0 := by
    intro ln hln l60
    refine uptoN ?_ ?_
    · intro A' δ jj hA hj1 hj2 hf
      refine b_X7_isSo_32 ?_
      rw [if_pos (by omega)]
      exact hq1 A' fun i i0 i1 hk => hf i i0 i1 hk (hln i i0 i1 hk)
    · intro j hj ih A' δ jj hA hj1 hj2 hf
      refine b_X7_isSo_32 ?_
      have L48 : ∀ u, 0 ≤ u → u ≤ M 364 70 → ∀ A' δ (jj : Nat), SKY δ A' (flyS N L0 (opS N (M 361) (zS 0)) jj) → jj ≤ j + 1 → (jj = j + 1 ∨ still N (flyS N L0 (opS N (M 361) (zS 0)) jj)) → (∀ i, 0 ≤ i → i < u → KNW M z i → M 406 i = (j : Int) + 1 → fi1 N M (M 361) i) → Go (d + 3) 65 Q 48 [vr 355, vr n, vi z, vi (ln : Int), vi ((j : Int) + 1), vi u] [] SHX R (CS M 262 A') 0 0 := by
        refine upto (fun A' δ jj hA hj1 hj2 hf2 => ?_) fun u u0 u1 ihu A' δ jj hA hj1 hj2 hf2 => ?_
        · refine b_X7_isSo_48 ?_
          rw [ok355, e355, if_neg (by omega), iadd_of (by omega) (by omega), show (j : Int) + 1 + 1 = ((j + 1 : Nat) : Int) + 1 by omega]
          refine ih A' δ jj hA hj1 hj2 fun i i0 i1 hk hb => ?_
          by_cases hb2 : M 406 i = (j : Int) + 1
          · exact hf2 i i0 i1 hk hb2
          · exact hf i i0 i1 hk (by omega)
        · obtain ⟨g1, g2, g3, g4, g5, g6, g7⟩ := ig_v hg u u0 u1
          refine b_X7_isSo_48 ?_
          rw [ok355, e355, if_pos (by omega), ok355, rc355_2 hC0, ak357, e357, g2, iadd_of (x := u) (by omega) (by omega)]
          refine ⟨u0, by omega, ?_⟩
          by_cases hb : M 406 u = (j : Int) + 1
          · rw [if_pos hb, ok355]
            refine c_isKnown (d := d + 2) hC0 (IG_CS hg) u0 (by rw [e364]; exact u1) (fun hk _ => ?_) fun hk _ => ?_
            · rw [if_neg (by decide)]
              rw [ek] at hk
              simp only [ok355, rc355_6 hC0, ok261, h0, okS hS, rc355_1 hC0, ak356, e356, sr2 hS, aS3 hS, rc355_3 hC0, ak358, e358, g1, g3]
              have ev : fi1 N M (M 361) u ↔ CS M 262 A' (262 + 3) (M 405 u) = M 407 u := by
                unfold fi1 rk
                rw [hb, show ((j : Int) + 1).toNat = j + 1 by omega, show CS M 262 A' (262 + 3) = A' 3 from CS_3, sky_th hA _ g5.1 (by omega)]
                rcases hj2 with rfl | hst
                · rfl
                · rw [fly_at hW o hj1 hst (192 + M 405 u) (by omega) (by omega)]
              refine ⟨u0, by omega, g5.1, by omega, u0, by omega, ?_⟩
              by_cases he : CS M 262 A' (262 + 3) (M 405 u) = M 407 u
              · rw [if_pos he]
                refine ihu A' δ jj hA hj1 hj2 fun i i0 i1 hki hbi => ?_
                by_cases hiu : i = u
                · rw [hiu]; exact ev.2 he
                · exact hf2 i i0 (by omega) hki hbi
              · rw [if_neg he]
                exact hq0 A' fun hso => he (ev.1 (hso u u0 u1 hk))
            · rw [if_pos rfl]
              rw [ek] at hk
              refine ihu A' δ jj hA hj1 hj2 fun i i0 i1 hki hbi => ?_
              by_cases hiu : i = u
              · rw [hiu] at hki; exact absurd hki hk
              · exact hf2 i i0 (by omega) hki hbi
          · rw [if_neg hb]
            refine ihu A' δ jj hA hj1 hj2 fun i i0 i1 hki hbi => ?_
            by_cases hiu : i = u
            · rw [hiu] at hbi; exact absurd hbi hb
            · exact hf2 i i0 (by omega) hki hbi
      have oj := fly_ok (L := L0) hW o jj
      have e6 := fly_216 (S := opS N (M 361) (zS 0)) (L := L0) hW jj
      rw [opS_ne hW (by omega)] at e6
      rw [if_neg (by omega), ok355, rc355_6 hC0, ok261, h0, okS hS]
      refine c_isStill (d := d + 2) hS hN hC hW hsep hA oj (fun st _ => ?_) (fun st _ => ?_)
      · rw [if_neg (by decide)]
        exact L48 0 (by decide) (by omega) A' δ jj hA (by omega) (Or.inr st) fun i i0 i1 => by omega
      · rw [if_pos rfl, ok355, rc355_6 hC0, ok261, h0, okS hS]
        have hjj : jj = j := hj2.resolve_right st
        refine c_pass (d := d) hS hN hC hW hsep hA oj (by omega) (fly_BD hW (opS_BD hW) jj) (by omega) fun A2 hA2 => ?_
        exact L48 0 (by decide) (by omega) A2 δ (jj + 1) hA2 (by omega) (Or.inl (by omega)) fun i i0 i1 => by omega
  have L10 : ∀ u, 0 ≤ u → u ≤ M 364 70 → ∀ l, 0 ≤ l → l ≤ 60 → (∀ i, 0 ≤ i → i < u → KNW M z i → M 406 i ≤ l) → Go (d + 3) 65 Q 10 [vr 355, vr n, vi z, vi l, vi u, vn] [] SHX R (CS M 262 A1) 0 0 := by
    refine upto (fun l l0 l1 hl => ?_) fun u u0 u1 ih l l0 l1 hl => ?_
    · refine b_X7_isSo_10 ?_
      rw [ok355, e355, if_neg (by omega)]
      obtain ⟨ln, rfl⟩ := Int.eq_ofNat_of_zero_le l0
      exact L32 ln hl (by omega) 0 (Nat.zero_le _) A1 δ1 0 hA1 (Nat.le_refl _) (Or.inl rfl) fun i i0 i1 hk hb => by have := (ig_v hg i i0 i1).2.2.2.2.2.1; omega
    · obtain ⟨g1, g2, g3, g4, g5, g6, g7⟩ := ig_v hg u u0 u1
      refine b_X7_isSo_10 ?_
      rw [ok355, e355, if_pos (by omega), ok355, iadd_of (by omega) (by omega)]
      refine c_isKnown (d := d + 2) hC0 (IG_CS hg) u0 (by rw [e364]; exact u1) (fun hk _ => ?_) fun hk _ => ?_
      · rw [if_neg (by decide), ok355, rc355_2 hC0, ak357, e357, g2]
        refine ⟨u0, by omega, ih _ ?_ ?_ fun i i0 i1 hki => ?_⟩
        · unfold imax; split <;> omega
        · unfold imax; split <;> omega
        · by_cases hiu : i = u
          · rw [hiu]; unfold imax; split <;> omega
          · have := hl i i0 (by omega) hki
            unfold imax; split <;> omega
      · rw [if_pos rfl]
        rw [ek] at hk
        refine ih l l0 l1 fun i i0 i1 hki => ?_
        by_cases hiu : i = u
        · rw [hiu] at hki; exact absurd hki hk
        · exact hl i i0 (by omega) hki
  exact L10 0 (by decide) g20.1 0 (by decide) (by decide) fun i i0 i1 => by omega
theorem c_isSo (hC0 : RC R) (hN : NR R n) (hC : NC M n N) (hW : WN N) (hsep : n + 12 < 262) (hg : IG M N) (hr : RW N (M 361)) (hq1 : ∀ M', (∀ q, q < 262 ∨ 267 ≤ q → M' q = M q) → SO N M (M 361) z → Q 1 SHX R M') (hq0 : ∀ M', (∀ q, q < 262 ∨ 267 ≤ q → M' q = M q) → ¬ SO N M (M 361) z → Q 0 SHX R M') : Mw (d + 3) 65 [vr 355, vr n, vi z] SHX R M 0 0 Q := by
  have em : CS M 262 (blk M 262) = M := CS_self _ _
  have := c_isSo0 (d := d) (M := M) (A := blk M 262) (z := z) (Q := Q) hC0 hN hC hW hsep hg hr (fun A' h => hq1 _ (fun q hq => CS_ne (by omega)) h) (fun A' h => hq0 _ (fun q hq => CS_ne (by omega)) h)
  rw [em] at this
  exact this
theorem m_lastBeat (hR : RM R) (hg : IG M N) (hq : ∀ l, 0 ≤ l → l ≤ 60 → (∀ i, 0 ≤ i → i < M 364 70 → KNW M z i → M 406 i ≤ l) → Q l SHX R M) : Mw (d + 1) 267 [vr 364, vi z] SHX R M 0 0 Q := by
  have g20 := (ig_n hg).2
  refine Mw_of mok267 rfl fun _ _ => b_X12_lastBeat_0 ?_
  have L : ∀ u, 0 ≤ u → u ≤ M 364 70 → ∀ l, 0 ≤ l → l ≤ 60 → (∀ i, 0 ≤ i → i < u → KNW M z i → M 406 i ≤ l) → Go (d + 1) 267 Q 4 [vr 364, vi z, vi l, vi u] [] SHX R M 0 0 := by
    refine upto (fun l l0 l1 hl => ?_) fun u u0 u1 ih l l0 l1 hl => ?_
    · refine b_X12_lastBeat_4 ?_
      rw [ok364, if_neg (by omega)]
      exact hq l l0 l1 hl
    · obtain ⟨g1, g2, g3, g4, g5, g6, g7⟩ := ig_v hg u u0 u1
      refine b_X12_lastBeat_4 ?_
      rw [ok364, if_pos (by omega), ok364, iadd_of (by omega) (by omega)]
      refine m_counts (d := d) hR u0 (by omega) (fun hk _ => ?_) fun hk _ => ?_
      · simp only [ok364, fr63 hR, ak406]
        rw [if_neg (by decide)]
        refine ⟨u0, by omega, ?_⟩
        by_cases hb : l < M 406 u
        · rw [if_pos hb]
          refine ⟨u0, by omega, ih _ (by omega) (by omega) fun i i0 i1 hki => ?_⟩
          by_cases hiu : i = u
          · rw [hiu]; exact Int.le_refl _
          · have := hl i i0 (by omega) hki
            omega
        · rw [if_neg hb]
          refine ih _ l0 l1 fun i i0 i1 hki => ?_
          by_cases hiu : i = u
          · rw [hiu]; omega
          · exact hl i i0 (by omega) hki
      · rw [if_pos rfl]
        refine ih l l0 l1 fun i i0 i1 hki => ?_
        by_cases hiu : i = u
        · rw [hiu] at hki; exact absurd hki hk
        · exact hl i i0 (by omega) hki
  exact L 0 (by decide) g20.1 0 (by decide) (by decide) fun i i0 i1 => by omega
theorem IG_FM (hg : IG X N) : IG (FM X S F) N := IG_of hg (FM_ne2 (by decide) (by decide) (by decide)) (FM_fld (by decide)) (FM_fld (by decide)) (FM_ne2 (by decide) (by decide) (by decide)) (fun q q0 q1 => FM_ne (by omega) (by omega) (by omega)) (fun q q0 q1 => FM_ne (by omega) (by omega) (by omega))
theorem f_areSo0 (hR : RM R) (hN : NM X b N) (hW : WN N) (hg : IG X N) (hr : RW N (X 396)) (h8 : 0 ≤ S 218) (hl : X 364 47 = -1) (hq1 : ∀ S' F', 0 ≤ S' 218 → SO N X (X 396) z → Q 1 SHX R (FM X S' F')) (hq0 : ∀ S' F', 0 ≤ S' 218 → ¬ SO N X (X 396) z → Q 0 SHX R (FM X S' F')) : Mw (d + 3) 268 [vr 364, vi z] SHX R (FM X S F) 0 0 Q := by
  have hT := wn_T hW
  have g20 := (ig_n hg).2
  have o := opS_ok (S := S) (N := N) hW hr h8
  have e70 : ∀ {S' F' : SK}, FM X S' F' 364 70 = X 364 70 := fun {S' F'} => FM_fld (by decide)
  have e405 : ∀ {S' F' : SK}, FM X S' F' 405 = X 405 := fun {S' F'} => FM_ne (by decide) (by decide) (by decide)
  have e406 : ∀ {S' F' : SK}, FM X S' F' 406 = X 406 := fun {S' F'} => FM_ne (by decide) (by decide) (by decide)
  have e407 : ∀ {S' F' : SK}, FM X S' F' 407 = X 407 := fun {S' F'} => FM_ne (by decide) (by decide) (by decide)
  have ek : ∀ {S' F' : SK} {i : Int}, KNW (FM X S' F') z i ↔ KNW X z i := fun {S' F' i} => KNW_of (FM_ne (by decide) (by decide) (by decide)) (FM_ne (by decide) (by decide) (by decide))
  refine Mw_of mok268 rfl fun _ _ => b_X12_areSo_0 ?_
  rw [ok364]
  refine f_clearFor (d := d + 1) hR hN hW ?_
  rw [ok364]
  refine m_lastBeat (d := d + 1) hR (IG_FM hg) fun l l0 l1 hl6 => ?_
  rw [e70, e406] at hl6
  have hl6' : ∀ i, 0 ≤ i → i < X 364 70 → KNW X z i → X 406 i ≤ l := fun i i0 i1 hk => hl6 i i0 i1 (ek.2 hk)
  obtain ⟨ln, rfl⟩ := Int.eq_ofNat_of_zero_le l0
  have L8 : ∀ j : Nat, j ≤ ln → ∀ F', (∀ i, 0 ≤ i → i < X 364 70 → KNW X z i → X 406 i ≤ (j : Int) → fi1 N X (X 396) i) → Go (d + 3) 268 Q 8 [vr 364, vi z, vi (ln : Int), vi ((j : Int) + 1), vn] [] SHX R (FM X (flyS N (-1, X 364 48) (opS N (X 396) S) j) F') 0 0 := by
    refine uptoN ?_ ?_
    · intro F' hf
      refine b_X12_areSo_8 ?_
      rw [if_pos (by omega)]
      exact hq1 _ F' ((fly_ok hW o ln).1 218 (by decide) (by decide)) fun i i0 i1 hk => hf i i0 i1 hk (hl6' i i0 i1 hk)
    · intro j hj ih F' hf
      refine b_X12_areSo_8 ?_
      have oj := fly_ok (L := (-1, X 364 48)) hW o j
      have e6 := fly_216 (S := opS N (X 396) S) (L := (-1, X 364 48)) hW j
      rw [opS_ne hW (by omega)] at e6
      rw [if_neg (by omega), ok364]
      refine f_beat (d := d) (L := (-1, X 364 48)) hR hN hW oj (by omega) (by omega) (fly_BD hW (opS_BD hW) j) hl rfl (by show (-1 : Int) ≤ -1; decide) fun F2 => ?_
      have L15 : ∀ u, 0 ≤ u → u ≤ X 364 70 → (∀ i, 0 ≤ i → i < u → KNW X z i → X 406 i = (j : Int) + 1 → fi1 N X (X 396) i) → Go (d + 3) 268 Q 15 [vr 364, vi z, vi (ln : Int), vi ((j : Int) + 1), vi u] [] SHX R (FM X (flyS N (-1, X 364 48) (opS N (X 396) S) (j + 1)) F2) 0 0 := by
        refine upto (fun hf2 => ?_) fun u u0 u1 ihu hf2 => ?_
        · refine b_X12_areSo_15 ?_
          rw [ok364, e70, if_neg (by omega), iadd_of (by omega) (by omega), show (j : Int) + 1 + 1 = ((j + 1 : Nat) : Int) + 1 by omega]
          refine ih F2 fun i i0 i1 hk hb => ?_
          by_cases hb2 : X 406 i = (j : Int) + 1
          · exact hf2 i i0 i1 hk hb2
          · exact hf i i0 i1 hk (by omega)
        · obtain ⟨g1, g2, g3, g4, g5, g6, g7⟩ := ig_v hg u u0 u1
          refine b_X12_areSo_15 ?_
          rw [ok364, e70, if_pos u1, ok364, fr63 hR, ak406, e406, iadd_of (x := u) (by omega) (by omega)]
          refine ⟨u0, by omega, ?_⟩
          by_cases hb : X 406 u = (j : Int) + 1
          · rw [if_pos hb, ok364]
            refine m_counts (d := d + 2) hR u0 (by omega) (fun hk _ => ?_) fun hk _ => ?_
            · rw [if_neg (by decide)]
              rw [ek] at hk
              simp only [ok364, fr62 hR, ak405, e405, fr42 hR, ak392, fr64 hR, ak407, e407]
              rw [iadd_of (x := 192) (by omega) (by omega), FM_all (by omega)]
              have ev : fi1 N X (X 396) u ↔ flyS N (-1, X 364 48) (opS N (X 396) S) (j + 1) (192 + X 405 u) = X 407 u := by
                unfold fi1 rk
                rw [hb, show ((j : Int) + 1).toNat = j + 1 by omega, fly_Lm (L := (-1, X 364 48)) rfl, fly_cE hW (opS_cE (N := N) (S := S) (Z := zS 0)) (j + 1) (192 + X 405 u) (by omega) (by omega)]
              refine ⟨u0, by omega, by omega, by omega, u0, by omega, ?_⟩
              by_cases he : flyS N (-1, X 364 48) (opS N (X 396) S) (j + 1) (192 + X 405 u) = X 407 u
              · rw [if_pos he]
                refine ihu fun i i0 i1 hki hbi => ?_
                by_cases hiu : i = u
                · rw [hiu]; exact ev.2 he
                · exact hf2 i i0 (by omega) hki hbi
              · rw [if_neg he]
                exact hq0 _ F2 ((fly_ok hW o (j + 1)).1 218 (by decide) (by decide)) fun hso => he (ev.1 (hso u u0 u1 hk))
            · rw [if_pos rfl]
              rw [ek] at hk
              refine ihu fun i i0 i1 hki hbi => ?_
              by_cases hiu : i = u
              · rw [hiu] at hki; exact absurd hki hk
              · exact hf2 i i0 (by omega) hki hbi
          · rw [if_neg hb]
            refine ihu fun i i0 i1 hki hbi => ?_
            by_cases hiu : i = u
            · rw [hiu] at hbi; exact absurd hbi hb
            · exact hf2 i i0 (by omega) hki hbi
      exact L15 0 (by decide) (by omega) fun i i0 i1 => by omega
  exact L8 0 (Nat.zero_le _) F fun i i0 i1 hk hb => by have := (ig_v hg i i0 i1).2.2.2.2.2.1; omega
theorem f_areSo (hR : RM R) (hN : NM M b N) (hW : WN N) (hg : IG M N) (hr : RW N (M 396)) (h7 : M 364 47 = -1) (h9 : 0 ≤ M 364 49) (hq1 : ∀ M', (∀ q j, q ≠ 392 → q ≠ 395 → ¬ (q = 364 ∧ j = 49) → M' q j = M q j) → 0 ≤ M' 364 49 → SO N M (M 396) z → Q 1 SHX R M') (hq0 : ∀ M', (∀ q j, q ≠ 392 → q ≠ 395 → ¬ (q = 364 ∧ j = 49) → M' q j = M q j) → 0 ≤ M' 364 49 → ¬ SO N M (M 396) z → Q 0 SHX R M') : Mw (d + 3) 268 [vr 364, vi z] SHX R M 0 0 Q := by
  have ef8 : fsk M 218 = M 364 49 := if_pos rfl
  have fr : ∀ (S' F' : SK) (q j : Int), q ≠ 392 → q ≠ 395 → ¬ (q = 364 ∧ j = 49) → FM M S' F' q j = M q j := fun S' F' q j h1 h2 h3 => by
    by_cases h4 : q = 364
    · subst h4; rw [FM_fld fun z => h3 ⟨rfl, z⟩]
    · rw [FM_ne2 h1 h2 h4]
  have := f_areSo0 (d := d) (X := M) (S := fsk M) (F := M 395) (z := z) (Q := Q) hR hN hW hg hr (by rw [ef8]; exact h9) h7 (fun S' F' h8 h => hq1 _ (fr S' F') (by rw [FM_did]; exact h8) h) (fun S' F' h8 h => hq0 _ (fr S' F') (by rw [FM_did]; exact h8) h)
  rw [FM_fsk] at this
  exact this
end
