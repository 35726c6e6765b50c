/-! MEND: the op -/
section
variable {d c : Nat} {R M X : MEM} {b n x y z t m k v : Int} {N : NTW} {Q : RES}
theorem lay_ib {M' : MEM} (h : INV c R M b N) (e : ∀ q j, KP q j → ¬ LY q j → M' q j = M q j) : ∀ w, 0 ≤ w → w < 16 → M' 378 (16 * b + w) = N 8 w := fun w w0 w1 => by
  rw [e _ _ (by unfold KP; omega) (by unfold LY; omega)]
  exact ia_b (in_a h) w w0 w1
theorem m_mendR (h : INV c R M b N) {M2 : MEM} {w : Int} {l : List Int} (f2 : ∀ q j, KP q j → ¬ LY q j → M2 q j = M q j) (h9 : 0 ≤ M2 364 49) (e38 : M2 338 1 = (l.length : Int)) (e39 : ∀ i : Nat, i < l.length → M2 339 (i : Int) = l.getD i 0) (w0 : ¬ ((0 ≤ x ∧ x < N 0 3) ∧ (0 ≤ m ∧ m ≤ 99) ∧ 1 ≤ y ∧ y ≤ 100) → w = -1 ∧ l = []) (w1 : 0 ≤ x → x < N 0 3 → 0 ≤ m → m ≤ 99 → 1 ≤ y → y ≤ 100 → if 16 < rwsN N m then w = -2 ∧ l = [] else FND (AR M b x m y) N w l) : Mw (d + 8) 246 [vr 364, vi x, vi m, vi y] SHX R M2 0 0 (fun r sh2 R2 M2 => sh2 = SHX ∧ w = r ∧ Inv (c + 1) R2 M2) := by
  obtain ⟨hn, hN, hC, hW, hM, hc, hR, b0, b1⟩ := in_net h
  have hS := wn_S hW
  have f0 : ∀ q j, KP q j → ¬ LY q j → stm M2 364 55 0 q j = M q j := fun q j hk hl => by rw [stm_neq fun z => hl (by unfold LY; omega), f2 q j hk hl]
  have h90 : 0 ≤ stm M2 364 55 0 364 49 := by rw [stm_neq (by decide)]; exact h9
  obtain ⟨hM0, hf0, hE0, _⟩ := lay_net h f0 h90
  have hT0 := lay_ib h f0
  have eP : AR (stm M2 364 55 0) b x m y = AR M b x m y := AR_of (funext fun j => f0 _ j KP_382 (by unfold LY; omega)) (funext fun j => f0 _ j KP_383 (by unfold LY; omega)) (funext fun j => f0 _ j KP_387 (by unfold LY; omega)) (funext fun j => f0 _ j KP_388 (by unfold LY; omega))
  have no : ∀ r, w = r → l = [] → SHX = SHX ∧ w = r ∧ Inv (c + 1) R (stm M2 364 55 0) := fun r hr hl => ⟨rfl, hr, b, N, INV_lay h (Nat.le_succ c) f0 h90 (IY_zero (by rw [stm_neq (by omega), e38, hl]; rfl) (stm_hit _ _ _ _))⟩
  refine Mw_of mok246 rfl fun _ _ => b_X12_mend_0 ?_
  rw [ok364, ok364]
  refine m_canAsk (d := d + 5) hR hM0 hW (fun x0 x1 m0 m1 y0 y1 _ => ?_) fun g _ => ?_
  · have hw1 := w1 x0 x1 m0 m1 y0 y1
    rw [if_neg (by decide), ok364]
    refine m_rowsOf (d := d + 6) hR hM0 hW m0 m1 ?_
    by_cases hr : 16 < rwsN N m
    · rw [if_pos hr] at hw1 ⊢
      exact no _ hw1.1 hw1.2
    · rw [if_neg hr] at hw1 ⊢
      rw [ok364]
      refine m_putAside (d := d + 7) hR ?_
      rw [ok364]
      refine m_keepRow (d := d + 7) hR fun X0 x1' x2' => ?_
      have hX0 : RT (stm M2 364 55 0) X0 := RT_new (fun _ _ _ => rfl) h90 x1' x2'
      have fin : ∀ (X : MEM) (gg : Int → Int) (r : Int) (l' : List Int), RT (rset (stm M2 364 55 0) 398 gg) X → FND (AR M b x m y) N r l' → (∀ i : Nat, i < l'.length → gg (i : Int) = l'.getD i 0) → ∀ u, u = (if r < 0 then 0 else r) → Cd (d + 8) 233 [vr 364] SHX R X 0 0 (fun (_ : Int) (sh8 : SHP) (R8 M8 : MEM) => ook sh8 12 364 (Cd (d + 8) 205 [vr 364] sh8 R8 M8 0 0 (fun (_ : Int) (sh9 : SHP) (R9 M9 : MEM) => ook sh9 12 364 (sh9 = SHX ∧ w = r ∧ Inv (c + 1) R9 (stm M9 364 55 u))))) := fun X gg r l' hX hF hg u hu => by
        obtain ⟨rfl, rfl⟩ := FND_one hw1 hF
        refine m_bringRow (d := d + 7) hR fun X1 k1 k2 => ?_
        rw [ok364]
        refine m_bb (d := d + 7) hR fun X2 k3 k4 => ?_
        obtain ⟨g1, g2⟩ := RT_end hX k1 k2 k3 k4
        obtain ⟨q1, q2⟩ := FND_len hw1
        rw [ok364]
        have e98 : ∀ i : Int, 0 ≤ i → X2 398 i = gg i := fun i i0 => by
          rw [g1 398 i (by unfold KP; omega), rset_hit]
        refine ⟨rfl, rfl, b, N, INV_lay h (Nat.le_succ c) (fun q j hk hl => ?_) (by rw [stm_neq (by decide)]; exact g2) ⟨⟨?_, ?_, ?_⟩, fun i i0 i1 => ?_⟩⟩
        · rw [stm_neq fun z => hl (by unfold LY; omega), g1 q j hk, rset_ne fun z => hl (by unfold LY; omega), f0 q j hk hl]
        · rw [stm_neq (by omega), stm_hit, g1 _ _ (by unfold KP; omega), rset_ne (by decide), stm_neq (by omega), e38, q1, hu]
        · rw [stm_hit]; omega
        · rw [stm_hit]; omega
        · rw [stm_hit] at i1
          obtain ⟨j, rfl⟩ := Int.eq_ofNat_of_zero_le i0
          have hj : j < l.length := by omega
          rw [stm_neq (by omega), g1 _ _ (by unfold KP; omega), rset_ne (by decide), stm_neq (by omega), e39 j hj, stm_neq (by omega), e98 _ i0, hg j hj]
      have hX0' : RT (rset (stm M2 364 55 0) 398 (stm M2 364 55 0 398)) X0 := by rw [rset_self]; exact hX0
      rw [ok364]
      refine m_areAll (d := d + 2) hR hM0 hW hf0 (by omega) hE0 x0 x1 m0 m1 (by omega) (by omega) hX0 (fun X1 hX1 har _ => ?_) fun X1 hX1 har _ => ?_
      · rw [eP] at har
        rw [if_neg (by decide), ok364]
        exact fin X1 (stm M2 364 55 0 398) 0 [] (by rw [rset_self]; exact hX1) (Or.inl ⟨rfl, rfl, har⟩) (fun i hi => absurd hi (Nat.not_lt_zero i)) 0 rfl
      · rw [eP] at har
        rw [if_pos rfl, ok364]
        refine m_mends1 (d := d) (g := stm M2 364 55 0 398) hR hM0 hW hf0 (by omega) hE0 x0 x1 m0 m1 (by omega) (by omega) hT0 (by rw [rset_self]; exact hX1) (fun X2 g2 l2 hmf hg hX2 _ => ?_) fun X2 g2 hno1 hX2 _ => ?_
        · rw [eP] at hmf
          rw [if_neg (by decide), ok364]
          exact fin X2 g2 1 l2 hX2 (Or.inr (Or.inl ⟨rfl, har, hmf⟩)) hg 1 rfl
        · rw [eP] at hno1
          rw [if_pos rfl, ok364]
          refine m_mends2 (d := d) (g := g2) hR hM0 hW hf0 (by omega) hE0 x0 x1 m0 m1 (by omega) (by omega) hT0 hX2 (fun X3 g3 l3 hmf hg hX3 _ => ?_) fun X3 g3 hno2 hX3 _ => ?_
          · rw [eP] at hmf
            rw [if_neg (by decide), ok364]
            exact fin X3 g3 2 l3 hX3 (Or.inr (Or.inr (Or.inl ⟨rfl, har, hno1, hmf⟩))) hg 2 rfl
          · rw [eP] at hno2
            rw [if_pos rfl, ok364]
            exact fin X3 g3 (-1) [] hX3 (Or.inr (Or.inr (Or.inr ⟨rfl, rfl, har, hno1, hno2⟩))) (fun i hi => absurd hi (Nat.not_lt_zero i)) 0 rfl
  · rw [if_pos rfl]
    obtain ⟨e1, e2⟩ := w0 g
    exact no _ e1 e2
theorem p_mend (h : INV c R M b N) : PR (d + 9) 124 246 [vi x, vi m, vi y] R M (Inv (c + 1)) := by
  obtain ⟨hn, hN, hC, hW, hM, hc, hR, b0, b1⟩ := in_net h
  have hE := ia_e (in_a h)
  have hf := in_f h
  have hS := wn_S hW
  refine Mw_of mok124 rfl fun _ _ => b_X11_mend_0 ?_
  rw [ok0, rc0_11 hc, ok338, ok0]
  have hC0 : NC (stm M 338 1 0) (1 + 13 * b) N := NC_of9 hC fun q q0 q1 => stm_ne (by omega)
  have hE0 : CDE (stm M 338 1 0) b (1 + 13 * b) N := CDE_of hE (stm_ne (by omega)) (stm_ne (by omega)) (stm_ne (by decide)) (stm_ne (by decide)) (stm_ne (by decide)) (stm_ne (by decide))
  refine c_isClaimTried (d := d + 6) hn hN hC0 hW (fun x0 x1 m0 m1 y0 y1 _ => ?_) fun g _ => ?_
  · rw [if_neg (by decide), ok0, ok0, rc0_7 hc, ok340, hn]
    refine c_ask (d := d + 6) hc hN hC0 hW (by omega) x0 x1 m0 m1 fun M1 f1 hA => ?_
    by_cases hr : 16 < rwsN N m
    · rw [if_pos hr]
      refine ⟨rfl, m_mendR (d := d + 1) (l := []) h (fun q j hk hl => ?_) ?_ ?_ (fun i hi => absurd hi (Nat.not_lt_zero i)) (fun g => absurd ⟨⟨x0, x1⟩, ⟨m0, m1⟩, y0, y1⟩ g) fun _ _ _ _ _ _ => by rw [if_pos hr]; exact ⟨rfl, rfl⟩⟩
      · have := KP_out hk
        have := KP_out2 hk
        rw [f1 q (by omega) (by omega), stm_neq fun z => hl (by unfold LY; omega)]
      · rw [f1 _ (by decide) (by decide), stm_neq (by decide)]; exact if_s hf
      · rw [f1 _ (by decide) (by decide), stm_hit]; rfl
    · rw [if_neg hr, ok0, ok0, rc0_7 hc, ok340, hn]
      have hC1 : NC M1 (1 + 13 * b) N := NC_of9 hC0 fun q q0 q1 => f1 q (by omega) (by omega)
      have hE1 : CDE M1 b (1 + 13 * b) N := CDE_of hE0 (f1 _ (by omega) (by omega)) (f1 _ (by omega) (by omega)) (f1 _ (by omega) (by omega)) (f1 _ (by omega) (by omega)) (f1 _ (by omega) (by omega)) (f1 _ (by omega) (by omega))
      have e1 : ∀ q, q ≠ 337 → q ≠ 340 → q ≠ 338 → M1 q = M q := fun q q1 q2 q3 => by rw [f1 q q1 q2, stm_ne q3]
      have eP : AR M1 b x m y = AR M b x m y := AR_of (e1 _ (by omega) (by omega) (by omega)) (e1 _ (by omega) (by omega) (by omega)) (e1 _ (by omega) (by omega) (by omega)) (e1 _ (by omega) (by omega) (by omega))
      refine c_fewest (d := d) hc hN (by omega) hW hC1 hE1 x0 x1 m0 m1 (by omega) (by omega) hA (by rw [f1 _ (by decide) (by decide), stm_hit]) fun X' r l hF kX x8 x38 x39 => ?_
      rw [eP] at hF
      refine ⟨rfl, m_mendR (d := d + 1) (l := l) h (fun q j hk hl => ?_) ?_ x38 x39 (fun g => absurd ⟨⟨x0, x1⟩, ⟨m0, m1⟩, y0, y1⟩ g) fun _ _ _ _ _ _ => by rw [if_neg hr]; exact hF⟩
      · have := KP_out hk
        have := KP_out2 hk
        have := KP_val hk
        by_cases h8 : q = 338
        · subst h8
          have : j = 1 := by unfold KP at hk; omega
          exact absurd (show LY 338 j by unfold LY; omega) hl
        · have h9 : q ≠ 339 := fun z => hl (by unfold LY; omega)
          by_cases h88 : q = 1 + 13 * b + 8
          · rw [h88, x8, e1 _ (by omega) (by omega) (by omega)]
          · rw [kX.1 q (by omega) (by omega) h88 (by omega) h8 h9 (by omega), e1 q (by omega) (by omega) h8]
      · rw [kX.1 _ (by omega) (by omega) (by omega) (by omega) (by omega) (by omega) (by omega), e1 _ (by decide) (by decide) (by decide)]; exact if_s hf
  · rw [if_pos rfl]
    refine ⟨rfl, m_mendR (d := d + 1) (l := []) h (fun q j hk hl => stm_neq fun z => hl (by unfold LY; omega)) (by rw [stm_neq (by decide)]; exact if_s hf) (stm_hit _ _ _ _) (fun i hi => absurd hi (Nat.not_lt_zero i)) (fun _ => ⟨rfl, rfl⟩) fun x0 x1 m0 m1 y0 y1 => absurd ⟨⟨x0, x1⟩, ⟨m0, m1⟩, y0, y1⟩ g⟩
end
