/-! AGAINST -/
section
variable {d c : Nat} {R M : MEM} {b n x y z t m k v : Int} {N : NTW} {Q : RES}
theorem c_firstAgainst (hc : RC R) (hN : NR R n) (hC : NC M n N) (hW : WN N) (n1 : n ≤ 14) (hE : CDE M b n N) (z0 : 0 ≤ z) (z1 : z < N 0 3) (m0 : 0 ≤ m) (m1 : m ≤ 99) (y0 : 0 ≤ y) (y1 : y ≤ 200) (hA : ASK N z m y M) (hl : M 338 1 = 0) (hx : x = fsF N M b z m y (rwsN N m).toNat 0) (hq : ∀ M', (∀ q, q ≠ 341 → q ≠ n + 12 → (q < 262 ∨ 267 ≤ q) → q ≠ 338 → q ≠ 339 → M' q = M q) → M' 338 1 = (if x < 0 then 0 else N 0 1) → (0 ≤ x → ∀ s, 0 ≤ s → s < N 0 1 → M' 339 s = lay N m x s) → Q x SHX R M') : Mw (d + 5) 17 [vr 340, vr n] SHX R M 0 0 Q := by
  have hS := wn_S hW
  have rb := rwsN_b (N := N) (m := m) hS.2 m0 m1
  refine Mw_of mok17 rfl fun _ _ => b_X2_firstAgainst_0 ?_
  rw [ok340, ok340, hA.2.2.2.1]
  refine c_wrongFrom (d := d) hc hN hC hW n1 hE z0 z1 m0 m1 y0 y1 hA (by decide) (by omega) (by omega) (Int.le_refl _) (fun M1 i g1 i0 i1 hno hb hrow => ?_) fun M1 g1 hno => ?_
  · have ew : ∀ j, 0 ≤ j → j ≤ i → wrp (rwsN N m) (0 + j) = j := fun j j0 j1 => by unfold wrp; rw [if_pos (by omega)]; omega
    rw [ew i i0 (Int.le_refl _)] at hb hrow ⊢
    have hx' : x = i := by
      rw [hx]
      exact fsF_hit _ 0 i0 (by omega) (fun j j0 j1 => by have := hno j j0 j1; rwa [ew j j0 (by omega)] at this) hb
    have hC1 : NC M1 n N := NC_of9 hC fun q q0 q1 => g1 q (by omega) (by omega) (by omega)
    have L : ∀ u, 0 ≤ u → u ≤ N 0 1 → ∀ M2, (∀ q, q ≠ 338 → q ≠ 339 → M2 q = M1 q) → M2 338 1 = u → (∀ s, 0 ≤ s → s < u → M2 339 s = lay N m i s) → Go (d + 5) 17 Q 9 [vr 340, vr n, vi i, vi u] [] SHX R M2 0 0 := by
      refine upto (fun M2 f2 hm hl2 => ?_) fun u u0 u1 ih M2 f2 hm hl2 => ?_
      · have hC2 : NC M2 n N := NC_of9 hC1 fun q q0 q1 => f2 q (by omega) (by omega)
        refine b_X2_firstAgainst_9 ?_
        rw [okN hN, nc_S hC2, if_neg (by omega), ← hx']
        refine hq M2 (fun q q1 q2 q3 q4 q5 => by rw [f2 q q4 q5, g1 q q1 q2 q3]) ?_ fun _ => ?_
        · rw [hm, if_neg (by omega)]
        · rw [hx']; exact hl2
      · have hC2 : NC M2 n N := NC_of9 hC1 fun q q0 q1 => f2 q (by omega) (by omega)
        have e1 : M2 341 u = lay N m i u := by rw [f2 _ (by decide) (by decide)]; exact hrow u u0 u1
        refine b_X2_firstAgainst_9 ?_
        rw [okN hN, nc_S hC2, if_pos u1, if_neg (by omega), ok340, ok340, rc340_3 hc, ak341, rc340_2 hc, ok338, e1]
        refine ⟨u0, by omega, c_lput (d := d + 4) hc hm u0 (by omega) ?_⟩
        rw [iadd_of (by omega) (by omega)]
        refine ih _ (fun q q1 q2 => by rw [stm_ne q1, stm_ne q2, f2 q q1 q2]) (stm_hit _ _ _ _) fun s s0 s1 => ?_
        rw [stm_neq (by omega)]
        by_cases hs : s = u
        · subst hs; rw [stm_hit]
        · rw [stm_neq (by omega), hl2 s s0 (by omega)]
    have h0 : M1 338 1 = 0 := by rw [g1 _ (by omega) (by omega) (by omega)]; exact hl
    exact L 0 (by decide) hS.1 M1 (fun _ _ _ => rfl) h0 fun s s0 s1 => by omega
  · have hx' : x = -1 := by
      rw [hx]
      refine fsF_none _ 0 fun j j0 j1 => ?_
      have := hno j j0 (by omega)
      unfold wrp at this
      rw [if_pos (by omega), show 0 + j = j by omega] at this
      exact this
    have hC1 : NC M1 n N := NC_of9 hC fun q q0 q1 => g1 q (by omega) (by omega) (by omega)
    refine b_X2_firstAgainst_9 ?_
    have h0 : M1 338 1 = 0 := by rw [g1 _ (by omega) (by omega) (by omega)]; exact hl
    have fin := hq M1 (fun q q1 q2 q3 _ _ => g1 q q1 q2 q3) (by rw [h0, hx', if_pos (by decide)]) fun z => by omega
    rw [hx'] at fin
    rw [okN hN, nc_S hC1, if_pos (show (-1 : Int) = -1 from rfl)]
    split
    · exact fin
    · exact fin
theorem m_against (hR : RM R) (hM : NM M b N) (hW : WN N) (hf : IF M) (n1 : n = 1 ∨ n = 14) (hE : CDE M b n N) (hx : v = fsF N M b x m y (rwsN N m).toNat 0) (hq0 : ¬ ((0 ≤ x ∧ x < N 0 3) ∧ (0 ≤ m ∧ m ≤ 99) ∧ 1 ≤ y ∧ y ≤ 100) → Q (-1) SHX R (stm M 364 55 0)) (hq1 : 0 ≤ x → x < N 0 3 → 0 ≤ m → m ≤ 99 → 1 ≤ y → y ≤ 100 → 1000 < rwsN N m → Q (-2) SHX R (stm M 364 55 0)) (hq2 : 0 ≤ x → x < N 0 3 → 0 ≤ m → m ≤ 99 → 1 ≤ y → y ≤ 100 → ¬ 1000 < rwsN N m → ∀ M', (∀ q j, KP q j → ¬ (q = 364 ∧ j = 55) → q ≠ 398 → M' q j = M q j) → 0 ≤ M' 364 49 → M' 364 55 = (if v < 0 then 0 else N 0 1) → (0 ≤ v → ∀ s, 0 ≤ s → s < N 0 1 → M' 398 s = lay N m v s) → Q v SHX R M') : Mw (d + 6) 241 [vr 364, vi x, vi m, vi y] SHX R M 0 0 Q := by
  have hS := wn_S hW
  have b0 := nm_b0 hM
  have b1 := nm_b1 hM
  refine Mw_of mok241 rfl fun _ _ => b_X12_against_0 ?_
  rw [ok364, ok364]
  have hM0 : NM (stm M 364 55 0) b N := NM_of hM (stm_neq (by decide)) (fun q q0 q1 => stm_ne (by omega)) (stm_ne (by decide))
  have hE0 : CDE (stm M 364 55 0) b n N := CDE_of hE (stm_ne (by omega)) (stm_ne (by omega)) (stm_ne (by decide)) (stm_ne (by decide)) (stm_ne (by decide)) (stm_ne (by decide))
  have hf0 : IF (stm M 364 55 0) := IF_of hf (stm_neq (by decide)) (stm_neq (by decide)) (stm_neq (by decide)) (stm_neq (by decide)) (stm_neq (by decide)) (by rw [stm_neq (by decide)]; exact if_s hf)
  refine m_canAsk (d := d + 3) hR hM0 hW (fun x0 x1 m0 m1 y0 y1 _ => ?_) fun g _ => ?_
  · rw [if_neg (by decide), ok364]
    refine m_rowsOf (d := d + 4) hR hM0 hW m0 m1 ?_
    by_cases hr : 1000 < rwsN N m
    · rw [if_pos hr]
      exact hq1 x0 x1 m0 m1 y0 y1 hr
    · have rb := rwsN_b (N := N) (m := m) hS.2 m0 m1
      have hvb := fsF_b (N := N) (M := M) (b := b) (z := x) (m := m) (y := y) (rwsN N m).toNat 0
      rw [← hx] at hvb
      rw [if_neg hr, ok364]
      refine m_wrongRows (d := d) (r := v) hR hM0 hW hf0 n1 hE0 x0 x1 m0 m1 (by omega) (by omega) (fun _ _ _ => rfl) (if_s hf0) (Or.inr rfl) ?_ fun M3 f3 h93 => ?_
      · rw [if_neg (by decide), hx]
        exact (fsF_of (stm_ne (by decide)) (stm_ne (by decide)) (stm_ne (by decide)) (stm_ne (by decide)) _ _).symm
      · have g3 : ∀ q j, KP q j → ¬ (q = 364 ∧ j = 55) → M3 q j = M q j := fun q j hk hn => by rw [f3 q j hk, stm_neq hn]
        by_cases hv : v < 0
        · rw [if_pos hv]
          have fin := hq2 x0 x1 m0 m1 y0 y1 hr M3 (fun q j hk hn _ => g3 q j hk hn) h93 (by rw [f3 _ _ (by unfold KP; omega), stm_hit, if_pos hv]) fun z => by omega
          rw [show v = -1 by omega] at fin
          exact fin
        · rw [if_neg hv, ok364]
          refine m_keepRow (d := d + 5) hR fun X1 k1 k2 => ?_
          rw [ok364]
          have hM3 : NM M3 b N := NM_of hM0 (f3 _ _ (by unfold KP; omega)) (fun q q0 q1 => funext fun j => f3 q j (by unfold KP; omega)) (funext fun j => f3 _ j (by unfold KP; omega))
          have hM1 : NM X1 b N := NM_of hM3 (k2 _ _ (by omega)) (fun q q0 q1 => funext fun j => k2 q j (by omega)) (funext fun j => k2 _ j (by omega))
          refine m_layRow (d := d + 4) hR hM1 hW m0 (by omega) (by omega) (by omega) fun X2 l1 l2 => ?_
          have L : ∀ u, 0 ≤ u → u ≤ N 0 1 → ∀ X3, (∀ q, q ≠ 398 → X3 q = X2 q) → (∀ s, 0 ≤ s → s < u → X3 398 s = lay N m v s) → Go (d + 6) 241 Q 37 [vr 364, vn, vn, vn, vi v, vi u] [] SHX R X3 0 0 := by
            refine upto (fun X3 e1 e2 => ?_) fun u u0 u1 ih X3 e1 e2 => ?_
            · have hM4 : NM X3 b N := NM_of hM1 (by rw [e1 _ (by decide), l2 _ (by decide)]) (fun q q0 q1 => by rw [e1 _ (by omega), l2 _ (by omega)]) (by rw [e1 _ (by decide), l2 _ (by decide)])
              refine b_X12_against_37 ?_
              rw [ok364]
              refine w_startMany (d := d + 5) hR (nm_b hM4) b0 b1 ?_
              rw [nm_S hM4, if_neg (by omega), ok364]
              refine w_startMany (d := d + 5) hR (nm_b hM4) b0 b1 ?_
              rw [nm_S hM4, ok364, ok364]
              refine m_bringRow (d := d + 5) hR fun X5 h1 h2 => ?_
              have e5 : ∀ q j, q ≠ 396 → q ≠ 398 → q ≠ 399 → ¬ (q = 364 ∧ j = 55) → X5 q j = M3 q j := fun q j q1 q2 q3 q4 => by rw [h2 q j (by omega), stm_neq q4, e1 q q2, l2 q q1, k2 q j (by omega)]
              refine hq2 x0 x1 m0 m1 y0 y1 hr X5 (fun q j hk hn q8 => ?_) ?_ ?_ fun _ s s0 s1 => ?_
              · have := KP_out2 hk
                by_cases h6 : q = 396
                · subst h6
                  have h7 := this.2.2.2.2.2.2 rfl
                  rw [h1 j h7.1 h7.2, stm_neq (by omega), e1 _ (by decide), l2 _ (by decide), k1 j h7.1 h7.2, g3 _ _ hk hn]
                · rw [e5 q j h6 q8 (by omega) hn, g3 q j hk hn]
              · rw [e5 _ _ (by decide) (by decide) (by decide) (by omega)]; exact h93
              · rw [h2 _ _ (by omega), stm_hit, if_neg hv]
              · rw [h2 _ _ (by omega), stm_neq (by omega)]; exact e2 s s0 s1
            · have hM4 : NM X3 b N := NM_of hM1 (by rw [e1 _ (by decide), l2 _ (by decide)]) (fun q q0 q1 => by rw [e1 _ (by omega), l2 _ (by omega)]) (by rw [e1 _ (by decide), l2 _ (by decide)])
              have er : X3 396 u = lay N m v u := by rw [e1 _ (by decide)]; exact l1 u u0 u1
              refine b_X12_against_37 ?_
              rw [ok364]
              refine w_startMany (d := d + 5) hR (nm_b hM4) b0 b1 ?_
              rw [nm_S hM4, if_pos u1, ok364, ok364, fr46 hR, ak396, fr53 hR, ak398, iadd_of (by omega) (by omega), er]
              refine ⟨u0, by omega, u0, by omega, ih _ (fun q q1 => by rw [stm_ne q1, e1 q q1]) fun s s0 s1 => ?_⟩
              by_cases hs : s = u
              · subst hs; rw [stm_hit]
              · rw [stm_neq (by omega), e2 s s0 (by omega)]
          exact L 0 (by decide) hS.1 X2 (fun _ _ => rfl) fun s s0 s1 => by omega
  · rw [if_pos rfl]
    exact hq0 g
theorem p_against (h : INV c R M b N) : PR (d + 6) 123 241 [vi x, vi m, vi y] R M (Inv (c + 1)) := by
  obtain ⟨hn, hN, hC, hW, hM, hc, hR, b0, b1⟩ := in_net h
  have hE := ia_e (in_a h)
  have hf := in_f h
  have hS := wn_S hW
  obtain ⟨v, hv⟩ : ∃ v, v = fsF N M b x m y (rwsN N m).toNat 0 := ⟨_, rfl⟩
  have hvb := fsF_b (N := N) (M := M) (b := b) (z := x) (m := m) (y := y) (rwsN N m).toNat 0
  rw [← hv] at hvb
  refine Mw_of mok123 rfl fun _ _ => b_X11_against_0 ?_
  rw [ok0, rc0_11 hc, ok338, ok0]
  have hC0 : NC (stm M 338 1 0) (1 + 13 * b) N := NC_of9 hC fun q q0 q1 => stm_ne (by omega)
  have hE0 : CDE (stm M 338 1 0) b (1 + 13 * b) N := CDE_of hE (stm_ne (by omega)) (stm_ne (by omega)) (stm_ne (by decide)) (stm_ne (by decide)) (stm_ne (by decide)) (stm_ne (by decide))
  have ref : ∀ (M2 : MEM) (w : Int), (∀ q j, KP q j → ¬ LY q j → M2 q j = M q j) → 0 ≤ M2 364 49 → M2 338 1 = (if w < 0 then 0 else N 0 1) → (0 ≤ w → ∀ s, 0 ≤ s → s < N 0 1 → M2 339 s = lay N m w s) → (¬ ((0 ≤ x ∧ x < N 0 3) ∧ (0 ≤ m ∧ m ≤ 99) ∧ 1 ≤ y ∧ y ≤ 100) → w = -1) → (0 ≤ x → x < N 0 3 → 0 ≤ m → m ≤ 99 → 1 ≤ y → y ≤ 100 → w = if 1000 < rwsN N m then -2 else v) → Mw (d + 6) 241 [vr 364, vi x, vi m, vi y] SHX R M2 0 0 (fun r sh2 R2 M2 => sh2 = SHX ∧ w = r ∧ Inv (c + 1) R2 M2) := fun M2 w f2 h9 h38 h39 w1 w2 => by
    obtain ⟨hM2, hf2, hE2, _⟩ := lay_net h f2 h9
    have ez : ∀ (w' : Int), w' < 0 → w = w' → Inv (c + 1) R (stm M2 364 55 0) := fun w' hw' e => by
      refine ⟨b, N, INV_lay h (Nat.le_succ c) (fun q j hk hl => ?_) (by rw [stm_neq (by decide)]; exact h9) (IY_zero ?_ (stm_hit _ _ _ _))⟩
      · have hn' : ¬ (q = 364 ∧ j = 55) := fun z => hl (by unfold LY; omega)
        rw [stm_neq hn', f2 q j hk hl]
      · rw [stm_neq (by decide), h38, if_pos (by omega)]
    refine m_against (d := d) (v := v) hR hM2 hW hf2 (by omega) hE2 ?_ (fun g => ⟨rfl, w1 g, ez (-1) (by decide) (w1 g)⟩) (fun x0 x1 m0 m1 y0 y1 hr => ?_) fun x0 x1 m0 m1 y0 y1 hr M3 f3 h93 h55 h98 => ?_
    · rw [hv]
      exact (fsF_of (funext fun j => f2 _ j KP_382 (by unfold LY; omega)) (funext fun j => f2 _ j KP_383 (by unfold LY; omega)) (funext fun j => f2 _ j KP_387 (by unfold LY; omega)) (funext fun j => f2 _ j KP_388 (by unfold LY; omega)) _ _).symm
    · have e := w2 x0 x1 m0 m1 y0 y1
      rw [if_pos hr] at e
      exact ⟨rfl, e, ez (-2) (by decide) e⟩
    · have e := w2 x0 x1 m0 m1 y0 y1
      rw [if_neg hr] at e
      subst e
      refine ⟨rfl, rfl, b, N, INV_lay h (Nat.le_succ c) (fun q j hk hl => ?_) h93 ⟨⟨?_, ?_, ?_⟩, fun i i0 i1 => ?_⟩⟩
      · rw [f3 q j hk (fun z => hl (by unfold LY; omega)) (fun z => hl (by unfold LY; omega)), f2 q j hk hl]
      · rw [f3 _ _ (by unfold KP; omega) (by decide) (by decide), h38, h55]
      · rw [h55]; split <;> omega
      · rw [h55]; split <;> omega
      · rw [h55] at i1
        by_cases hw : w < 0
        · rw [if_pos hw] at i1; omega
        · rw [if_neg hw] at i1
          rw [f3 _ _ (by unfold KP; omega) (by omega) (by decide), h39 (by omega) i i0 i1, h98 (by omega) i i0 i1]
  refine c_isClaimTried (d := d + 3) hn hN hC0 hW (fun x0 x1 m0 m1 y0 y1 _ => ?_) fun g _ => ?_
  · rw [if_neg (by decide), ok0, ok0, rc0_7 hc, ok340, hn]
    refine c_ask (d := d + 3) hc hN hC0 hW (by omega) x0 x1 m0 m1 fun M1 f1 hA => ?_
    by_cases hr : 1000 < rwsN N m
    · rw [if_pos hr]
      refine ⟨rfl, ref M1 (-2) (fun q j hk hl => ?_) ?_ ?_ (fun z => by omega) (fun g => absurd ⟨⟨x0, x1⟩, ⟨m0, m1⟩, y0, y1⟩ g) fun _ _ _ _ _ _ => (if_pos hr).symm⟩
      · have := KP_out hk
        have := KP_out2 hk
        rw [f1 q (by omega) (by omega), stm_neq fun z => hl (by unfold LY; omega)]
      · rw [f1 _ (by decide) (by decide), stm_neq (by decide)]; exact if_s hf
      · rw [f1 _ (by decide) (by decide), stm_hit, if_pos (by decide)]
    · rw [if_neg hr, ok0, ok0, rc0_7 hc, ok340, hn]
      have hC1 : NC M1 (1 + 13 * b) N := NC_of9 hC0 fun q q0 q1 => f1 q (by omega) (by omega)
      have hE1 : CDE M1 b (1 + 13 * b) N := CDE_of hE0 (f1 _ (by omega) (by omega)) (f1 _ (by omega) (by omega)) (f1 _ (by omega) (by omega)) (f1 _ (by omega) (by omega)) (f1 _ (by omega) (by omega)) (f1 _ (by omega) (by omega))
      have e1 : ∀ q, q ≠ 337 → q ≠ 340 → q ≠ 338 → M1 q = M q := fun q q1 q2 q3 => by rw [f1 q q1 q2, stm_ne q3]
      refine c_firstAgainst (d := d) (x := v) hc hN hC1 hW (by omega) hE1 x0 x1 m0 m1 (by omega) (by omega) hA (by rw [f1 _ (by decide) (by decide), stm_hit]) ?_ fun M2 f2 h38 h39 => ?_
      · rw [hv]
        exact (fsF_of (e1 _ (by omega) (by omega) (by omega)) (e1 _ (by omega) (by omega) (by omega)) (e1 _ (by omega) (by omega) (by omega)) (e1 _ (by omega) (by omega) (by omega)) _ _).symm
      · refine ⟨rfl, ref M2 v (fun q j hk hl => ?_) ?_ h38 h39 (fun g => absurd ⟨⟨x0, x1⟩, ⟨m0, m1⟩, y0, y1⟩ g) fun _ _ _ _ _ _ => (if_neg hr).symm⟩
        · have := KP_out hk
          have := KP_out2 hk
          have := KP_val hk
          by_cases h8 : q = 338
          · subst h8
            have : j = 1 := by unfold KP at hk; omega
            exact absurd (show LY 338 j by unfold LY; omega) hl
          · have h9 : q ≠ 339 := fun z => hl (by unfold LY; omega)
            rw [f2 q (by omega) (by omega) (by omega) h8 h9, e1 q (by omega) (by omega) h8]
        · rw [f2 _ (by decide) (by omega) (by omega) (by decide) (by decide), e1 _ (by decide) (by decide) (by decide)]; exact if_s hf
  · rw [if_pos rfl]
    refine ⟨rfl, ref _ (-1) (fun q j hk hl => stm_neq fun z => hl (by unfold LY; omega)) (by rw [stm_neq (by decide)]; exact if_s hf) (by rw [stm_hit, if_pos (by decide)]) (fun z => by omega) (fun _ => rfl) fun x0 x1 m0 m1 y0 y1 => absurd ⟨⟨x0, x1⟩, ⟨m0, m1⟩, y0, y1⟩ g⟩
end
