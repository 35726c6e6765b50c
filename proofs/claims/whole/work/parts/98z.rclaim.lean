/-! THE PARSER, the reference: claims and lines -/
section
variable {d : Nat} {R X Y : MEM} {B : Int → Int} {z r v w x a b c f n rk t : Int} {k k' : Nat} {s : SNK} {S : SKK} {G G' G1 : NTW} {Q : RES}
/-- a claim is added -/
theorem MNG_adC (hr : r = 0 ∨ r = 1) (h : MNG Y r G) (hC : 0 ≤ G 0 3 ∧ G 0 3 < 6) (e1 : Y 381 (6 * r + G 0 3) = t) (e2 : Y 382 (6 * r + G 0 3) = 600 * r + (if G 0 3 = 0 then 0 else G 13 (G 0 3 - 1))) (e3 : Y 383 (6 * r + G 0 3) = 600 * r + G 0 7) (e6 : Y 386 (6 * r + G 0 3) = cvw (G 11 (G 0 3))) : MNG (stm Y 370 r (G 0 3 + 1)) r (adC G t) := by
  obtain ⟨⟨c0, c1, c2, c3, c4, c5, c6, c7, c8⟩, bT, bS, bW, bC, bK⟩ := h
  unfold adC
  refine ⟨⟨?_, ?_, ?_, ?_, ?_, ?_, ?_, ?_, ?_⟩, fun t t0 t1 => ?_, fun s s0 s1 => ?_, fun w w0 w1 => ?_, fun c c0 c1 => ?_, fun i i0 i1 => ?_⟩
  · simp (disch := omega) only [stm_neq, stm_hit]; exact c0
  · simp (disch := omega) only [stm_neq, stm_hit]; exact c1
  · simp (disch := omega) only [stm_neq, stm_hit]; exact c2
  · simp (disch := omega) only [stm_neq, stm_hit]; exact c3
  · simp (disch := omega) only [stm_neq, stm_hit]
  · simp (disch := omega) only [stm_neq, stm_hit]; exact c5
  · simp (disch := omega) only [stm_neq, stm_hit]; exact c6
  · simp (disch := omega) only [stm_neq, stm_hit]; exact c7
  · simp (disch := omega) only [stm_neq, stm_hit]; exact c8
  · simp (disch := omega) only [stm_neq, stm_hit] at t1 ⊢
    exact bT t t0 t1
  · simp (disch := omega) only [stm_neq, stm_hit] at s1 ⊢
    exact bS s s0 s1
  · simp (disch := omega) only [stm_neq, stm_hit] at w1 ⊢
    exact bW w w0 w1
  · simp (disch := omega) only [stm_neq, stm_hit] at c1
    by_cases hc : c = G 0 3
    · subst hc
      simp (disch := omega) only [stm_neq, stm_hit]
      exact ⟨e1, e2, e3, e6⟩
    · simp (disch := omega) only [stm_neq, stm_hit]
      exact bC c c0 (by omega)
  · simp (disch := omega) only [stm_neq, stm_hit] at i1 ⊢
    exact bK i i0 i1
theorem clm_78 (hR : RM R) (hr : r = 0 ∨ r = 1) (h37 : Y 364 37 = r) (h3 : Y 370 r = n) (hn : 0 ≤ n ∧ n < 6) (hq : Q 0 SHX R (stm Y 370 r (n + 1))) : Go d 180 Q 78 [vr 364, vn] [] SHX R Y 0 0 := by
  refine b2_X12_readClaim_78 ?_
  simp (disch := omega) only [ok364, fr14 hR, ak370, h37, h3, iadd_of]
  exact ⟨by omega, by omega, by omega, by omega, hq⟩
theorem clm_bad {e : Int × Int} (hR : RM R) (hr : r = 0 ∨ r = 1) (hM : MSt B z (.inl e) Y) (hG : MNG Y r G) (hC : 0 ≤ G 0 3 ∧ G 0 3 < 6) (hq : ∀ Y', MSt B z (.inl e) Y' → FPW r Y Y' → Q 0 SHX R Y') : Go (d + 1) 180 Q 63 [vr 364, vn] [] SHX R Y 0 0 := by
  refine b2_X12_readClaim_63 ?_
  rw [ok364]
  refine r_isGood (d := d) hM (fun e' _ => ?_) fun k' he => nomatch he
  rw [if_pos rfl]
  intro _
  refine b2_X12_readClaim_68 ?_
  rw [ok364]
  refine r_isGood (d := d) hM (fun e' _ => ?_) fun k' he => nomatch he
  rw [if_pos rfl]
  intro _
  exact clm_78 hR hr hG.1.1 hG.1.2.2.2.2.1 hC (hq _ (MSt_W hM (by decide) (by decide)) (FPW_st FPW_self (by unfold BKW; omega)))
theorem r_claim (hR : RM R) (hr : r = 0 ∨ r = 1) (hM : MSt B z (.inr k) Y) (hG : MNG Y r G) (hW : WLI k' G) (hP : 4 * G 0 7 ≤ tpl B z k + 7 * G 0 4) (hC : G 0 3 < 6) (hq : ∀ Y', RLR B z r (clmP B z k G) Y' → FPW r Y Y' → Q 0 SHX R Y') : Mw (d + 7) 180 [vr 364] SHX R Y 0 0 Q := by
  have hF := WLI_GF hW
  have hW' := hW
  obtain ⟨hwn, hU, hN, hK, hD, hCD⟩ := hW'
  have wC := wn_C hwn
  have hz := hM.1.2.1
  have hG' := hG
  obtain ⟨⟨c0, _, _, _, c4, _⟩, _, _, _, gC, _⟩ := hG'
  have ew : clmP B z k G = if tkd B z k = 3 then (if fnd (G 11) (tvl B z k) (G 0 3).toNat 0 < 0 then (if tkd B z (k + 1) = 2 ∧ tvl B z (k + 1) = 14 then (if tkd B z (k + 2) = 3 then (if twH G (tvl B z (k + 2)) < 0 then flt B z (k + 2) 5 else (if G 1 (twH G (tvl B z (k + 2))) = 4 then bnd (efP B z (k + 3) (stm (stm G 11 (G 0 3) (tvl B z k)) 0 8 0)) fun k1 G1 => .inr (k1, adC G1 (twH G (tvl B z (k + 2)))) else flt B z (k + 2) 6)) else flt B z (k + 2) 2) else flt B z (k + 1) 2) else flt B z k 3) else flt B z k 2 := rfl
  refine Mw_of mok180 rfl fun _ _ => b2_X12_readClaim_0 ?_
  simp (disch := omega) only [ok364, fr14 hR, fr30 hR, ak370, c0, c4, imul_of, iadd_of]
  refine ⟨by omega, by omega, by omega, by omega, ?_⟩
  refine r_here (d := d + 6) (g := G 11) (fun i P => ak386) (by decide) hM (by omega) wC.1 (by omega) (fun i i0 i1 => ⟨(gC i i0 i1).2.2.2, hN.2.2 i i0 i1⟩) ?_
  obtain ⟨u0, hu0⟩ : ∃ u0 : Int, u0 = (if tkd B z k = 3 then fnd (G 11) (tvl B z k) (G 0 3).toNat 0 else -1) := ⟨_, rfl⟩
  rw [← hu0, ok364]
  refine r_fresh (d := d + 4) hR hM fun nm Y1 h1 f1 hn => ?_
  have hG1 := MNG_7 hG f1
  simp (disch := omega) only [ok364, ak386]
  refine ⟨by omega, by omega, ?_⟩
  obtain ⟨Y2, hY2⟩ : ∃ Y2, Y2 = stm Y1 386 (6 * r + G 0 3) nm := ⟨_, rfl⟩
  have e6 : Y2 386 (6 * r + G 0 3) = nm := by rw [hY2, stm_hit]
  have hG2 : MNG Y2 r G := by rw [hY2]; exact MNG_C hG1 wC.1 (by decide) (Int.le_refl _)
  have f2 : FPW r Y Y2 := by rw [hY2]; exact FPW_st (FPW_7 f1) (by unfold BKW; omega)
  have h2 := MSt_W (p := 386) (i := 6 * r + G 0 3) (v := nm) h1 (by decide) (by decide)
  rw [← hY2] at h2 ⊢
  refine r_isWord (d := d + 6) (j := 14) h2 (by decide) (by decide) fun v hv hi => ?_
  intro _
  rw [ok364]
  refine r_mustW (d := d + 4) (x := 14) hR h2 hv hi fun Y3 h3 f3 => ?_
  rw [ok364, ok364, fr25 hR]
  have hG3 := MNG_7 hG2 f3
  refine r_known (d := d + 4) (G := G) hR hr h3 (fun _ _ => hG3) hF.1 hF.2.2.2.2 fun t Y4 h4 f4 ht0 ht => ?_
  simp (disch := omega) only [ok364, ak381]
  refine ⟨by omega, by omega, ?_⟩
  obtain ⟨Y5, hY5⟩ : ∃ Y5, Y5 = stm Y4 381 (6 * r + G 0 3) t := ⟨_, rfl⟩
  have g6 : Y5 386 (6 * r + G 0 3) = nm := by rw [hY5, stm_neq (by omega), f4.1 386 (by decide), f3.1 386 (by decide), e6]
  have g1 : Y5 381 (6 * r + G 0 3) = t := by rw [hY5, stm_hit]
  have hG5 : MNG Y5 r G := by rw [hY5]; exact MNG_C (MNG_7 hG3 f4) wC.1 (by decide) (Int.le_refl _)
  have f5 : FPW r Y Y5 := by rw [hY5]; exact FPW_st (FPW_tr f2 (FPW_7 (FM7_tr f3 f4))) (by unfold BKW; omega)
  have h5 := MSt_W (p := 381) (i := 6 * r + G 0 3) (v := t) h4 (by decide) (by decide)
  rw [← hY5] at h5 ⊢
  -- a fault on the way
  have bad : ∀ e : Int × Int, knP B z (muW B z (frP B z (.inr k) u0) 14) G = .inl e → clmP B z k G = .inl e → Cd (d + 7) 157 [vr 364] SHX R Y5 0 0 (fun (x6 : Int) (sh6 : SHP) (R6 M6 : MEM) => (x6 = 0 ∨ x6 = 1) → (if x6 = 0 then Go (d + 7) 180 Q 63 [vr 364, vn] [] sh6 R6 M6 0 0 else ook sh6 12 364 (ook sh6 12 364 (ook sh6 12 364 (aok sh6 100 (R6 364 25) (6 * r + G 0 3) (aok sh6 100 (R6 364 17) (iadd (imul 10 (M6 364 37)) (M6 (R6 364 25) (6 * r + G 0 3))) ((if (M6 (R6 364 17) (iadd (imul 10 (M6 364 37)) (M6 (R6 364 25) (6 * r + G 0 3)))) = 4 then Go (d + 7) 180 Q 63 [vr 364, vn] [] sh6 R6 M6 0 0 else ook sh6 12 364 (ook sh6 12 364 (Cd (d + 7) 156 [vr 364, vi 6, vi (M6 364 6)] sh6 R6 M6 0 0 (fun (_ : Int) (sh7 : SHP) (R7 M7 : MEM) => Go (d + 7) 180 Q 63 [vr 364, vn] [] sh7 R7 M7 0 0)))))))))))  := fun e q1 q2 => by
    rw [q1] at h5
    refine r_isGood (d := d + 6) h5 (fun e' _ => ?_) fun k' he => nomatch he
    rw [if_pos rfl]
    exact fun _ => clm_bad (d := d + 6) hR hr h5 hG5 ⟨wC.1, hC⟩ fun Y6 h6 f6 => hq Y6 (by rw [q2]; exact h6) (FPW_tr f5 f6)
  have ef : frP B z (.inr k) u0 = if tkd B z k = 3 then (if u0 < 0 then .inr (k + 1) else .inl (ftE B z k 3)) else .inl (ftE B z k 2) := rfl
  by_cases k3 : tkd B z k = 3
  · rw [if_pos k3] at ew ef hu0
    by_cases hf : fnd (G 11) (tvl B z k) (G 0 3).toNat 0 < 0
    · rw [if_pos hf] at ew
      rw [if_pos (by rw [hu0]; exact hf)] at ef
      have en : nm = cvw (tvl B z k) := hn k3 (by rw [hu0]; exact hf)
      have em : muW B z (.inr (k + 1)) 14 = if tkd B z (k + 1) = 2 ∧ tvl B z (k + 1) = 14 then .inr (k + 2) else .inl (ftE B z (k + 1) 2) := rfl
      by_cases k2 : tkd B z (k + 1) = 2 ∧ tvl B z (k + 1) = 14
      · rw [if_pos k2] at ew em
        have ek : knP B z (.inr (k + 2)) G = if tkd B z (k + 2) = 3 then (if twH G (tvl B z (k + 2)) < 0 then .inl (ftE B z (k + 2) 5) else .inr (k + 2)) else .inl (ftE B z (k + 2) 2) := rfl
        by_cases k4 : tkd B z (k + 2) = 3
        · rw [if_pos k4] at ew ek
          by_cases hT : twH G (tvl B z (k + 2)) < 0
          · rw [if_pos hT] at ew ek
            exact bad _ (by rw [ef, em, ek]; rfl) ew
          · rw [if_neg hT] at ew ek
            have et : t = twH G (tvl B z (k + 2)) := ht (k + 2) (k + 2) (by rw [ef, em]) (by rw [ef, em, ek])
            have tb := twH_b (x := tvl B z (k + 2)) hF.1.1
            have t1 : t < G 0 0 := by omega
            rw [ef, em, ek] at h5
            rw [← et] at ew
            refine r_isGood (d := d + 6) h5 (fun e' he => nomatch he) fun _ _ => ?_
            rw [if_neg (by decide)]
            intro _
            have s5 := (hG5.2.1 t ht0.1 t1).1
            have c5 := hG5.1.1
            simp (disch := omega) only [ok364, fr17 hR, fr25 hR, ak381, ak373, c5, g1, s5, imul_of, iadd_of]
            refine ⟨by omega, by omega, by omega, by omega, ?_⟩
            by_cases h4d : G 1 t = 4
            · rw [if_pos h4d] at ew ⊢
              refine b2_X12_readClaim_63 ?_
              rw [ok364]
              refine r_isGood (d := d + 6) h5 (fun e' he => nomatch he) fun _ _ => ?_
              rw [if_neg (by decide), ok364]
              intro _
              refine r_goOn (d := d + 5) hR h5 (by omega) fun Y6 h6 f6 => ?_
              have hG6 := MNG_7 hG5 f6
              refine b2_X12_readClaim_68 ?_
              rw [ok364]
              refine r_isGood (d := d + 6) h6 (fun e' he => nomatch he) fun _ _ => ?_
              have c6 := hG6.1.1
              have c64 := hG6.1.2.2.2.2.1
              rw [if_neg (by decide)]
              simp (disch := omega) only [ok364, fr14 hR, ak370, c6, c64]
              intro _
              refine ⟨by omega, by omega, ?_⟩
              have e11 : ∀ i j, ¬ (i = 11 ∧ j = G 0 3) → stm G 11 (G 0 3) (tvl B z k) i j = G i j := fun i j h => stm_neq h
              have hGn : MNG Y6 r (stm G 11 (G 0 3) (tvl B z k)) := MNG_g hG6 (fun j _ => e11 0 j (by omega)) fun i j hi hj => e11 i j (by omega)
              have hFn : GF (stm G 11 (G 0 3) (tvl B z k)) := GF_same hF (e11 _ _ (by omega)) (e11 _ _ (by omega)) (funext fun j => e11 _ _ (by omega)) (funext fun j => e11 _ _ (by omega))
              have n03 : stm G 11 (G 0 3) (tvl B z k) 0 3 = G 0 3 := e11 _ _ (by omega)
              have n07 : stm G 11 (G 0 3) (tvl B z k) 0 7 = G 0 7 := e11 _ _ (by omega)
              have n04 : stm G 11 (G 0 3) (tvl B z k) 0 4 = G 0 4 := e11 _ _ (by omega)
              have hVn : GV (stm (stm G 11 (G 0 3) (tvl B z k)) 0 8 0) := by
                unfold GV
                simp (disch := omega) only [stm_neq, stm_hit]
                exact ⟨hU, by decide, hK.1⟩
              have tm1 := tpl_mono (B := B) hz.1 k
              have tm2 : tpl B z (k + 1) ≤ tpl B z (k + 2) := tpl_mono (B := B) hz.1 (k + 1)
              have tm3 := tpl_mono (B := B) hz.1 (k + 2)
              refine r_rule (d := d) (G := stm G 11 (G 0 3) (tvl B z k)) hR hr h6 hGn hFn hVn (by rw [n07, n04]; show 4 * G 0 7 ≤ tpl B z (k + 2 + 1) + 7 * G 0 4; omega) (by rw [n03]; exact Int.le_refl _) wC.1 hC fun Y7 h7 f7 v7 => ?_
              have b37 : Y7 364 37 = r := by rw [f7 364 37 (fun q => by unfold BKR BKS at q; omega)]; exact c6
              have b70 : Y7 370 r = G 0 3 := by rw [f7 370 r (fun q => by unfold BKR BKS at q; omega)]; exact c64
              have f8 : FPW r Y Y7 := FPW_tr f5 (FPW_tr (FPW_7 f6) (FPW_Q hr f7 wC.1 hC))
              refine clm_78 hR hr b37 b70 ⟨wC.1, hC⟩ (hq _ ?_ (FPW_st f8 (by unfold BKW; omega)))
              rw [ew]
              cases he : efP B z (k + 3) (stm (stm G 11 (G 0 3) (tvl B z k)) 0 8 0) with
              | inl e =>
                have h7 : MSt B z (.inl e) Y7 := by rw [show k + 2 + 1 = k + 3 from rfl, he] at h7; exact h7
                exact MSt_W h7 (by decide) (by decide)
              | inr q =>
                have h7 : MSt B z (.inr q.1) Y7 ∧ MNG Y7 r q.2 := by rw [show k + 2 + 1 = k + 3 from rfl, he] at h7; exact h7
                have v7 := v7 q he
                refine ⟨MSt_W h7.1 (by decide) (by decide), ?_⟩
                have hg := GR_fm 48 0 0 (k + 3) _ q.1 q.2 (by simp (disch := omega) only [stm_neq]; exact hF.2.1.2) (efP_inr he)
                have hgf : ∀ i j, ¬ (i = 0 ∧ (j = 4 ∨ j = 7 ∨ j = 8)) → i ≠ 12 → ¬ (i = 11 ∧ j = G 0 3) → q.2 i j = G i j := fun i j q1 q2 q3 => by
                  rw [hg.2.2.2.1 i j q1 (by omega), stm_neq (by omega), stm_neq q3]
                have e3 : q.2 0 3 = G 0 3 := hgf 0 3 (by omega) (by decide) (by omega)
                have e9 : q.2 11 (G 0 3) = tvl B z k := by
                  rw [hg.2.2.2.1 11 _ (by omega) (by omega), stm_neq (by omega), stm_hit]
                have e13 : G 0 3 ≠ 0 → q.2 13 (G 0 3 - 1) = G 13 (G 0 3 - 1) := fun _ => hgf 13 _ (by omega) (by decide) (by omega)
                have fin := MNG_adC (Y := Y7) (t := t) hr h7.2 (by rw [e3]; exact ⟨wC.1, hC⟩) (by rw [e3, f7 381 _ (fun q => by unfold BKR BKS at q; omega), f6.1 381 (by decide)]; exact g1) (by
                  rw [e3, v7.1, n07]
                  by_cases h0 : G 0 3 = 0
                  · rw [if_pos h0, hCD.2.1 h0]
                  · rw [if_neg h0, e13 h0, hCD.2.2 (by omega)]) (by rw [e3]; exact v7.2) (by rw [e3, e9, f7 386 _ (fun q => by unfold BKR BKS at q; omega), f6.1 386 (by decide), g6, en])
                rw [e3] at fin
                exact fin
            · rw [if_neg h4d] at ew ⊢
              have m6 : Y5 364 6 = tpl B z (k + 2) := h5.2.2.2.2.2.1
              rw [m6]
              have e6 : flt B z (k + 2) 6 = .inl (6, tpl B z (k + 2)) := by rw [flt_E]; unfold ftE; rw [if_neg (by omega)]
              rw [e6] at ew
              exact r_fails (d := d + 6) h5 (by decide) fun Y6 h6 f6 => clm_bad (d := d + 6) hR hr h6 (MNG_7 hG5 f6) ⟨wC.1, hC⟩ fun Y7 h7 f7 => hq Y7 (by rw [ew]; exact h7) (FPW_tr f5 (FPW_tr (FPW_7 f6) f7))
        · rw [if_neg k4] at ew ek
          exact bad _ (by rw [ef, em, ek]; rfl) ew
      · rw [if_neg k2] at ew em
        exact bad _ (by rw [ef, em]; rfl) ew
    · rw [if_neg hf] at ew
      rw [if_neg (by rw [hu0]; exact hf)] at ef
      exact bad _ (by rw [ef]; rfl) ew
  · rw [if_neg k3] at ew ef
    exact bad _ (by rw [ef]; rfl) ew
end
