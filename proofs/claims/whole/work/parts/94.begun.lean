/-! BEGUN, SURE -/
section
variable {d c : Nat} {R M X : MEM} {b n x y z t m k v u : Int} {N : NTW} {Q : RES}
theorem lay_ig {M' : MEM} (h : INV c R M b N) (e : ∀ q j, KP q j → ¬ LY q j → M' q j = M q j) : IG M' N := IG_of (in_g h) (e _ _ (by unfold KP; omega) (by unfold LY; omega)) (e _ _ (by unfold KP; omega) (by unfold LY; omega)) (e _ _ (by unfold KP; omega) (by unfold LY; omega)) (e _ _ (by unfold KP; omega) (by unfold LY; omega)) (fun q q0 q1 => funext fun j => e q j (by unfold KP; omega) (by unfold LY; omega)) (fun q q0 q1 => funext fun j => e q j (by unfold KP; omega) (by unfold LY; omega))
theorem lay_sop {M' : MEM} (e : ∀ q j, KP q j → ¬ LY q j → M' q j = M q j) : SOP N M' m z = SOP N M m z := SOP_of (e _ _ (by unfold KP; omega) (by unfold LY; omega)) (fun q q0 q1 => funext fun j => e q j (by unfold KP; omega) (by unfold LY; omega))
theorem m_begunR (h : INV c R M b N) {M2 : MEM} {w : Int} (f2 : ∀ q j, KP q j → ¬ LY q j → M2 q j = M q j) (h9 : 0 ≤ M2 364 49) (w0 : ¬ (0 ≤ m ∧ m ≤ 9) → w = -1 ∧ M2 338 1 = 0) (w1 : 0 ≤ m → m ≤ 9 → w = soC (SOP N M m z) (rwsN N m).toNat ∧ M2 338 1 = (if 0 < soC (SOP N M m z) (rwsN N m).toNat then N 0 1 else 0) ∧ (0 < soC (SOP N M m z) (rwsN N m).toNat → ∀ s, 0 ≤ s → s < N 0 1 → FST (SOP N M m z) (LWs N m s) (rwsN N m).toNat (M2 339 s))) : Mw (d + 5) 270 [vr 364, vi m, vi z] SHX R M2 0 0 (fun r sh2 R2 M2 => sh2 = SHX ∧ w = r ∧ Inv (c + 1) R2 M2) := by
  obtain ⟨hn, hN, hC, hW, hM, hc, hR, b0, b1⟩ := in_net h
  have hS := wn_S hW
  have f0 : ∀ q j, KP q j → ¬ LY q j → stm M2 364 55 0 q j = M q j := fun q j hk hl => by rw [stm_neq fun z => hl (by unfold LY; omega), f2 q j hk hl]
  have h90 : 0 ≤ stm M2 364 55 0 364 49 := by rw [stm_neq (by decide)]; exact h9
  obtain ⟨hM0, hf0, _, _⟩ := lay_net h f0 h90
  have hg0 := lay_ig h f0
  refine Mw_of mok270 rfl fun _ _ => b_X12_begun_0 ?_
  rw [ok364]
  refine m_isIn (fun g0 g1 _ => ?_) fun g _ => ?_
  · obtain ⟨e1, e2, e3⟩ := w1 g0 g1
    rw [if_neg (by decide), ok364]
    refine m_countBegun (d := d) hR hM0 hW hf0 hg0 g0 g1 (fun _ _ _ => rfl) h90 fun M3 f3 h93 hru => ?_
    rw [lay_sop f0] at hru ⊢
    have f3' : ∀ q j, KP q j → ¬ LY q j → M3 q j = M q j := fun q j hk hl => by rw [f3 q j hk, f0 q j hk hl]
    have e55 : M3 364 55 = 0 := by rw [f3 _ _ (by unfold KP; omega), stm_hit]
    have e38 : M3 338 1 = M2 338 1 := by rw [f3 _ _ (by unfold KP; omega), stm_neq (by omega)]
    by_cases hz : soC (SOP N M m z) (rwsN N m).toNat = 0
    · rw [if_pos hz]
      refine ⟨rfl, by rw [e1, hz], b, N, INV_lay h (Nat.le_succ c) f3' h93 (IY_zero ?_ e55)⟩
      rw [e38, e2, if_neg (by omega)]
    · have cb := soC_b (P := SOP N M m z) (rwsN N m).toNat
      have hp : 0 < soC (SOP N M m z) (rwsN N m).toNat := by omega
      rw [if_neg hz]
      have L : ∀ u, 0 ≤ u → u ≤ N 0 1 → ∀ X, (∀ q, q ≠ 398 → X q = M3 q) → (∀ s, 0 ≤ s → s < u → X 398 s = M3 410 s) → Go (d + 5) 270 (fun r sh2 R2 M2 => sh2 = SHX ∧ w = r ∧ Inv (c + 1) R2 M2) 21 [vr 364, vn, vn, vi (soC (SOP N M m z) (rwsN N m).toNat), vi u] [] SHX R X 0 0 := by
        have hM3 : NM M3 b N := (lay_net h f3' h93).1
        refine upto (fun X g gs => ?_) fun u u0 u1 ih X g gs => ?_
        · have hX : NM X b N := NM_of hM3 (by rw [g _ (by decide)]) (fun q q0 q1 => g q (by omega)) (g _ (by decide))
          refine b_X12_begun_21 ?_
          rw [ok364]
          refine w_startMany (d := d + 4) hR (nm_b hX) b0 b1 ?_
          rw [nm_S hX, if_neg (by omega), ok364]
          refine w_startMany (d := d + 4) hR (nm_b hX) b0 b1 ?_
          rw [nm_S hX, ok364]
          refine ⟨rfl, e1, b, N, INV_lay h (Nat.le_succ c) (fun q j hk hl => ?_) ?_ ⟨⟨?_, ?_, ?_⟩, fun i i0 i1 => ?_⟩⟩
          · rw [stm_neq fun z => hl (by unfold LY; omega), g q fun z => hl (by unfold LY; omega), f3' q j hk hl]
          · rw [stm_neq (by decide), g _ (by decide)]; exact h93
          · rw [stm_neq (by decide), stm_hit, g _ (by decide), e38, e2, if_pos hp]
          · rw [stm_hit]; exact hS.1
          · rw [stm_hit]; omega
          · rw [stm_hit] at i1
            have e39 : M3 339 i = M2 339 i := by rw [f3 _ _ (by unfold KP; omega), stm_neq (by omega)]
            rw [stm_neq (by omega), stm_neq (by omega), g _ (by decide), gs i i0 i1, e39]
            exact FST_one (e3 hp i i0 i1) (hru hp i i0 i1).1
        · have hX : NM X b N := NM_of hM3 (by rw [g _ (by decide)]) (fun q q0 q1 => g q (by omega)) (g _ (by decide))
          refine b_X12_begun_21 ?_
          rw [ok364]
          refine w_startMany (d := d + 4) hR (nm_b hX) b0 b1 ?_
          simp only [nm_S hX, ok364, fr67 hR, ak410, fr53 hR, ak398]
          rw [if_pos u1, iadd_of (by omega) (by omega)]
          refine ⟨u0, by omega, u0, by omega, ih _ (fun q q1 => by rw [stm_ne q1, g q q1]) fun s s0 s1 => ?_⟩
          by_cases hsu : s = u
          · rw [hsu, stm_hit, g _ (by decide)]
          · rw [stm_neq (by omega), gs s s0 (by omega)]
      exact L 0 (by decide) hS.1 M3 (fun _ _ => rfl) fun s s0 s1 => by omega
  · obtain ⟨e1, e2⟩ := w0 g
    rw [if_pos rfl]
    exact ⟨rfl, e1, b, N, INV_lay h (Nat.le_succ c) f0 h90 (IY_zero (by rw [stm_neq (by omega), e2]) (stm_hit _ _ _ _))⟩
theorem p_begun (h : INV c R M b N) : PR (d + 5) 139 270 [vi m, vi z] R M (Inv (c + 1)) := by
  obtain ⟨hn, hN, hC, hW, hM, hc, hR, b0, b1⟩ := in_net h
  have hS := wn_S hW
  have hf := in_f h
  have f0 : ∀ q j, KP q j → ¬ LY q j → stm M 338 1 0 q j = M q j := fun q j hk hl => by rw [stm_neq fun z => hl (by unfold LY; omega)]
  have hC0 : NC (stm M 338 1 0) (1 + 13 * b) N := NC_of9 hC fun q q0 q1 => stm_ne (by omega)
  refine Mw_of mok139 rfl fun _ _ => b_X11_begun_0 ?_
  rw [ok0, rc0_11 hc, ok338]
  refine c_isWithin (fun g0 g1 _ => ?_) fun g _ => ?_
  · rw [if_neg (by decide), ok0, ok0, rc0_10 hc, ok355, hn]
    refine c_survey (d := d) hc hN hC0 hW (by omega) (lay_ig h f0) g0 g1 fun M1 f1 h8 hcu => ?_
    rw [lay_sop f0] at h8 hcu
    have cb := soC_b (P := SOP N M m z) (rwsN N m).toNat
    have e38 : M1 338 1 = 0 := by rw [f1 _ _ (by omega) (by omega) (by omega), stm_hit]
    have fin : ∀ X, (∀ q, q ≠ 338 → q ≠ 339 → X q = M1 q) → (X 338 1 = if 0 < soC (SOP N M m z) (rwsN N m).toNat then N 0 1 else 0) → (0 < soC (SOP N M m z) (rwsN N m).toNat → ∀ s, 0 ≤ s → s < N 0 1 → X 339 s = M1 362 s) → Mw (d + 5) 270 [vr 364, vi m, vi z] SHX R X 0 0 (fun r sh2 R2 M2 => sh2 = SHX ∧ soC (SOP N M m z) (rwsN N m).toNat = r ∧ Inv (c + 1) R2 M2) := fun X g g1' g2 => by
      refine m_begunR (d := d) h (fun q j hk hl => ?_) ?_ (fun z => absurd ⟨g0, g1⟩ z) fun _ _ => ⟨rfl, g1', fun hp s s0 s1 => ?_⟩
      · have k1 := KP_out hk
        have k2 := KP_out2 hk
        have k3 := KP_out3 hk
        by_cases h8' : q = 338
        · subst h8'
          have : j = 1 := by unfold KP at hk; omega
          exact absurd (show LY 338 j by unfold LY; omega) hl
        · have h9' : q ≠ 339 := fun z => hl (by unfold LY; omega)
          rw [g q h8' h9', f1 q j (by omega) (by omega) (by omega), f0 q j hk hl]
      · rw [g _ (by decide) (by decide), f1 _ _ (by omega) (by omega) (by omega), stm_neq (by decide)]; exact if_s hf
      · rw [g2 hp s s0 s1]
        exact (hcu hp s s0 s1).1
    have L : ∀ u, 0 ≤ u → u ≤ N 0 1 → ∀ X, (∀ q, q ≠ 338 → q ≠ 339 → X q = M1 q) → X 338 1 = u → (u = 0 ∨ 0 < soC (SOP N M m z) (rwsN N m).toNat) → (∀ s, 0 ≤ s → s < u → X 339 s = M1 362 s) → Go (d + 5) 139 (fun x sh1 R1 M1 => sh1 = SHX ∧ Mw (d + 5) 270 [vr 364, vi m, vi z] SHX R1 M1 0 0 (fun y sh2 R2 M2 => sh2 = SHX ∧ x = y ∧ Inv (c + 1) R2 M2)) 20 [vr 0, vn, vn, vi u] [] SHX R X 0 0 := by
      refine upto (fun X g gm hu gs => ?_) fun u u0 u1 ih X g gm hu gs => ?_
      · have hCX : NC X (1 + 13 * b) N := NC_of9 hC0 fun q q0 q1 => by rw [g q (by omega) (by omega)]; exact funext fun j => f1 q j (by omega) (by omega) (by omega)
        refine b_X11_begun_20 ?_
        rw [ok0, hn, okN hN, nc_S hCX, if_neg (by omega), ok0, rc0_10 hc, ok355, g _ (by decide) (by decide), h8]
        refine ⟨rfl, fin X g ?_ fun _ => gs⟩
        rw [gm]
        by_cases hp : 0 < soC (SOP N M m z) (rwsN N m).toNat
        · rw [if_pos hp]
        · rw [if_neg hp]; omega
      · have hCX : NC X (1 + 13 * b) N := NC_of9 hC0 fun q q0 q1 => by rw [g q (by omega) (by omega)]; exact funext fun j => f1 q j (by omega) (by omega) (by omega)
        refine b_X11_begun_20 ?_
        have g8 : X 355 8 = soC (SOP N M m z) (rwsN N m).toNat := by rw [g _ (by decide) (by decide), h8]
        simp only [ok0, hn, okN hN, nc_S hCX, rc0_10 hc, ok355, g8, rc355_9 hc, ak362, rc0_11 hc, ok338]
        rw [if_pos u1]
        by_cases hp : 0 < soC (SOP N M m z) (rwsN N m).toNat
        · rw [if_pos hp, iadd_of (by omega) (by omega)]
          refine ⟨u0, by omega, c_lput (d := d + 4) hc gm u0 (by omega) ?_⟩
          refine ih _ (fun q q1 q2 => by rw [stm_ne q1, stm_ne q2, g q q1 q2]) (stm_hit _ _ _ _) (Or.inr hp) fun s s0 s1 => ?_
          rw [stm_neq (by omega)]
          by_cases hsu : s = u
          · rw [hsu, stm_hit, g _ (by decide) (by decide)]
          · rw [stm_neq (by omega), gs s s0 (by omega)]
        · rw [if_neg hp]
          refine ⟨trivial, fin X g ?_ fun z => absurd z hp⟩
          rw [if_neg hp, gm]; omega
    exact L 0 (by decide) hS.1 M1 (fun _ _ _ => rfl) e38 (Or.inl rfl) fun s s0 s1 => by omega
  · rw [if_pos rfl]
    exact ⟨rfl, m_begunR (d := d) h f0 (by rw [stm_neq (by decide)]; exact if_s hf) (fun _ => ⟨rfl, stm_hit _ _ _ _⟩) fun g0 g1 => absurd ⟨g0, g1⟩ g⟩
theorem m_sureR (h : INV c R M b N) {M2 : MEM} {w : Int} (f2 : ∀ q j, KP q j → M2 q j = M q j) (h9 : 0 ≤ M2 364 49) (w0 : ¬ ((0 ≤ x ∧ x < N 0 1) ∧ 0 ≤ m ∧ m ≤ 9) → w = -1) (w1 : 0 ≤ x → x < N 0 1 → 0 ≤ m → m ≤ 9 → (soC (SOP N M m z) (rwsN N m).toNat = 0 → w = -1) ∧ (0 < soC (SOP N M m z) (rwsN N m).toNat → ∃ a q, CU (SOP N M m z) (LWs N m x) (rwsN N m).toNat a q ∧ w = if q = 0 then a else -2)) : Mw (d + 5) 271 [vr 364, vi x, vi m, vi z] SHX R M2 0 0 (fun r sh2 R2 M2 => sh2 = SHX ∧ w = r ∧ Inv (c + 1) R2 M2) := by
  have hk := INV_keep h (Nat.le_refl c) f2 h9
  obtain ⟨hn, hN, hC, hW, hM, hc, hR, b0, b1⟩ := in_net hk
  have hS := wn_S hW
  have eP : SOP N M2 m z = SOP N M m z := SOP_of (f2 _ _ (by unfold KP; omega)) fun q q0 q1 => funext fun j => f2 q j (by unfold KP; omega)
  refine Mw_of mok271 rfl fun _ _ => b_X12_sure_0 ?_
  rw [ok364]
  refine w_startMany (d := d + 4) hR (nm_b hM) b0 b1 ?_
  rw [nm_S hM, isub_of (by omega) (by omega)]
  refine m_isIn (fun x0 x1 _ => ?_) fun g _ => ?_
  · rw [if_neg (by decide)]
    refine m_isIn (fun g0 g1 _ => ?_) fun g _ => ?_
    · obtain ⟨e1, e2⟩ := w1 x0 (by omega) g0 g1
      rw [if_neg (by decide), ok364]
      refine m_countBegun (d := d) hR hM hW (in_f hk) (in_g hk) g0 g1 (fun _ _ _ => rfl) h9 fun M3 f3 h93 hru => ?_
      rw [eP] at hru ⊢
      have fin : ∀ v, w = v → w = v ∧ Inv (c + 1) R M3 := fun v hv => ⟨hv, b, N, INV_keep hk (Nat.le_succ c) f3 h93⟩
      by_cases hz : soC (SOP N M m z) (rwsN N m).toNat = 0
      · rw [if_pos hz]
        exact ⟨rfl, fin _ (e1 hz)⟩
      · have cb := soC_b (P := SOP N M m z) (rwsN N m).toNat
        have hp : 0 < soC (SOP N M m z) (rwsN N m).toNat := by omega
        obtain ⟨a, q, hcu, hw⟩ := e2 hp
        obtain ⟨k1, k2⟩ := CR_eq hcu (hru hp x x0 (by omega))
        rw [if_neg hz]
        simp only [ok364, fr68 hR, fr69 hR, ak411, ak412]
        refine ⟨x0, by omega, x0, by omega, ?_⟩
        by_cases hq0 : q = 0
        · rw [if_pos hq0] at hw
          rw [if_pos (k1 hq0).1]
          exact ⟨x0, by omega, trivial, fin _ (by rw [hw, (k1 hq0).2])⟩
        · rw [if_neg hq0] at hw
          rw [if_neg (k2 hq0)]
          exact ⟨trivial, fin _ hw⟩
    · rw [if_pos rfl]
      exact ⟨rfl, w0 fun z => g z.2, b, N, INV_keep hk (Nat.le_succ c) (fun _ _ _ => rfl) h9⟩
  · rw [if_pos rfl]
    exact ⟨rfl, w0 fun z => g ⟨z.1.1, by omega⟩, b, N, INV_keep hk (Nat.le_succ c) (fun _ _ _ => rfl) h9⟩
theorem p_sure (h : INV c R M b N) : PR (d + 5) 140 271 [vi x, vi m, vi z] R M (Inv (c + 1)) := by
  obtain ⟨hn, hN, hC, hW, hM, hc, hR, b0, b1⟩ := in_net h
  have hS := wn_S hW
  have hf := in_f h
  refine Mw_of mok140 rfl fun _ _ => b_X11_sure_0 ?_
  rw [ok0]
  refine c_isStart (d := d + 3) hn hN hC hW (fun x0 x1 _ => ?_) fun g _ => ?_
  · rw [if_neg (by decide)]
    refine c_isWithin (fun g0 g1 _ => ?_) fun g _ => ?_
    · rw [if_neg (by decide), ok0, ok0, rc0_10 hc, ok355, hn]
      refine c_survey (d := d) hc hN hC hW (by omega) (in_g h) g0 g1 fun M1 f1 h8 hcu => ?_
      have cb := soC_b (P := SOP N M m z) (rwsN N m).toNat
      have fin : ∀ w, ((soC (SOP N M m z) (rwsN N m).toNat = 0 → w = -1) ∧ (0 < soC (SOP N M m z) (rwsN N m).toNat → ∃ a q, CU (SOP N M m z) (LWs N m x) (rwsN N m).toNat a q ∧ w = if q = 0 then a else -2)) → Mw (d + 5) 271 [vr 364, vi x, vi m, vi z] SHX R M1 0 0 (fun r sh2 R2 M2 => sh2 = SHX ∧ w = r ∧ Inv (c + 1) R2 M2) := fun w hw => by
        refine m_sureR (d := d) h (fun q j hk => ?_) ?_ (fun z => absurd ⟨⟨x0, x1⟩, g0, g1⟩ z) fun _ _ _ _ => hw
        · have k1 := KP_out hk
          have k2 := KP_out2 hk
          have k3 := KP_out3 hk
          rw [f1 q j (by omega) (by omega) (by omega)]
        · rw [f1 _ _ (by omega) (by omega) (by omega)]; exact if_s hf
      simp only [ok0, rc0_10 hc, ok355, rc355_10 hc, ak363, rc355_9 hc, ak362, h8]
      by_cases hz : soC (SOP N M m z) (rwsN N m).toNat = 0
      · rw [if_pos hz]
        exact ⟨trivial, fin _ ⟨fun _ => rfl, fun z => by omega⟩⟩
      · rw [if_neg hz]
        have hp : 0 < soC (SOP N M m z) (rwsN N m).toNat := by omega
        refine ⟨x0, by omega, ?_⟩
        by_cases hq0 : M1 363 x = 0
        · rw [if_pos hq0]
          exact ⟨x0, by omega, trivial, fin _ ⟨fun z => absurd z hz, fun _ => ⟨_, _, hcu hp x x0 x1, by rw [if_pos hq0]⟩⟩⟩
        · rw [if_neg hq0]
          exact ⟨trivial, fin _ ⟨fun z => absurd z hz, fun _ => ⟨_, _, hcu hp x x0 x1, by rw [if_neg hq0]⟩⟩⟩
    · rw [if_pos rfl]
      exact ⟨rfl, m_sureR (d := d) h (fun _ _ _ => rfl) (if_s hf) (fun _ => rfl) fun _ _ g0 g1 => absurd ⟨g0, g1⟩ g⟩
  · rw [if_pos rfl]
    exact ⟨rfl, m_sureR (d := d) h (fun _ _ _ => rfl) (if_s hf) (fun _ => rfl) fun x0 x1 => absurd ⟨x0, x1⟩ g⟩
end
