/-! THE PARSER, the reference: the whole text -/
def POK (B : Int → Int) (z : Int) (k : Nat) (G : NTW) : Prop := 4 * G 0 7 ≤ tpl B z k + 7 * G 0 4
section
variable {d : Nat} {R X Y : MEM} {B : Int → Int} {z r v w x a b c f n rk t : Int} {k k' : Nat} {s : SNK} {S : SKK} {G G' G1 : NTW} {Q : RES}
theorem bnd_ite {p : Prop} [h : Decidable p] {u v : RSP} {g : Nat → NTW → RSP} : bnd (if p then u else v) g = if p then bnd u g else bnd v g := by
  by_cases hp : p
  · rw [if_pos hp, if_pos hp]
  · rw [if_neg hp, if_neg hp]
theorem bnd_flt {w : Int} {g : Nat → NTW → RSP} : bnd (flt B z k w) g = flt B z k w := rfl
theorem bnd_nm {lo hi : Int} {c : Int → RSP} {g : Nat → NTW → RSP} : bnd (pNm B z k lo hi c) g = pNm B z k lo hi fun v => bnd (c v) g := by
  unfold pNm
  rw [bnd_ite, bnd_ite]
  rfl
theorem bnd_wd {c : RSP} {g : Nat → NTW → RSP} : bnd (pWd B z k w c) g = pWd B z k w (bnd c g) := by
  unfold pWd
  rw [bnd_ite]
  rfl
theorem bnd_tw {c : Int → RSP} {g : Nat → NTW → RSP} : bnd (pTw B z k G c) g = pTw B z k G fun v => bnd (c v) g := by
  unfold pTw
  rw [bnd_ite, bnd_ite]
  rfl
theorem bnd_bnd {u : RSP} {g h : Nat → NTW → RSP} : bnd (bnd u g) h = bnd u fun k G => bnd (g k G) h := by
  cases u <;> rfl
abbrev sgE (B : Int → Int) (z : Int) (u : RSP) : RSP := bnd u fun k1 G1 => pSg B z k1 59 (.inr (k1 + 1, G1))
theorem tow_E (hf : ¬ ((v = 0 ∧ G 0 1 = 3) ∨ G 0 0 = 10)) : pTow B z v k G = sgE B z (towP B z v (k + 1) G) := by
  unfold pTow towP sgE
  rw [if_neg hf, bnd_ite, bnd_ite, bnd_ite, bnd_nm]
  rfl
theorem way_E (hf : ¬ G 0 2 = 16) : pWay B z k G = sgE B z (wayP B z (k + 1) G) := by
  unfold pWay wayP sgE
  rw [if_neg hf, bnd_tw]
  congr 1
  funext a
  by_cases hr : rmG G a
  · rw [if_pos hr, if_pos hr, bnd_wd, bnd_tw]
    congr 2
    funext b
    rw [bnd_wd, bnd_nm]
    rfl
  · rw [if_neg hr, if_neg hr]
    rfl
theorem ef_E : (bnd (fmP B z 48 0 0 k G) fun k1 G1 => pSg B z k1 59 (.inr (k1 + 1, adC G1 t))) = sgE B z (bnd (efP B z k G) fun k1 G1 => .inr (k1, adC G1 t)) := by
  unfold efP sgE
  rw [bnd_bnd, bnd_bnd]
  cases fmP B z 48 0 0 k G with
  | inl e => rfl
  | inr s =>
    show pSg B z s.1 59 (.inr (s.1 + 1, adC s.2 t)) = bnd (if opB 2 (tkd B z s.1) (tvl B z s.1) = true then flt B z s.1 2 else .inr (s.1, s.2)) fun k G => bnd (.inr (k, adC G t)) fun k1 G1 => pSg B z k1 59 (.inr (k1 + 1, G1))
    by_cases ho : opB 2 (tkd B z s.1) (tvl B z s.1) = true
    · have o2 := op2.1 ho
      rw [if_pos ho]
      unfold pSg
      rw [if_neg (by omega)]
      rfl
    · rw [if_neg ho]
      rfl
theorem clm_E (hf : ¬ G 0 3 = 6) : pClm B z k G = sgE B z (clmP B z (k + 1) G) := by
  unfold pClm clmP sgE
  rw [if_neg hf, bnd_ite, bnd_ite, bnd_wd, bnd_tw]
  have e : (fun t => if G 1 t = 4 then bnd (fmP B z 48 0 0 (k + 4) (stm (stm G 11 (G 0 3) (tvl B z (k + 1))) 0 8 0)) fun k1 G1 => pSg B z k1 59 (.inr (k1 + 1, adC G1 t)) else flt B z (k + 3) 6) = fun t => bnd (if G 1 t = 4 then bnd (efP B z (k + 4) (stm (stm G 11 (G 0 3) (tvl B z (k + 1))) 0 8 0)) fun k1 G1 => (.inr (k1, adC G1 t) : RSP) else flt B z (k + 3) 6) fun k1 G1 => pSg B z k1 59 (.inr (k1 + 1, G1)) := by
    funext t
    rw [bnd_ite, ef_E]
    rfl
  rw [e]
  rfl
theorem drw_E (hf : G 0 6 = 0) : pDrw B z k G = sgE B z (drwP B z (k + 1) G) := by
  unfold pDrw drwP sgE
  rw [if_pos hf, bnd_nm]
  rfl
theorem line_43 {res : RSP} (hR : RM R) (h : RLR B z r res Y) (hq : ∀ Y', RLR B z r (sgE B z res) Y' → FM7 Y Y' → Q 0 SHX R Y') : Go (d + 3) 171 Q 43 [vr 364, vn, vn, vn] [] SHX R Y 0 0 := by
  refine b2_X12_readLine_43 ?_
  rw [ok364]
  cases res with
  | inl e =>
    have h : MSt B z (.inl e) Y := h
    refine r_isSign (d := d + 1) hR h fun v hv hi => ?_
    intro _
    rw [ok364]
    exact r_mustS (d := d) hR h hv hi fun Y' g f => hq Y' g f
  | inr s =>
    obtain ⟨h, hG⟩ : MSt B z (.inr s.1) Y ∧ MNG Y r s.2 := h
    refine r_isSign (d := d + 1) hR h fun v hv hi => ?_
    intro _
    rw [ok364]
    refine r_mustS (d := d) hR h hv hi fun Y' g f => hq Y' ?_ f
    have em : muS B z (.inr s.1) 59 = if tkd B z s.1 = 5 ∧ tvl B z s.1 = 59 then .inr (s.1 + 1) else .inl (ftE B z s.1 2) := rfl
    show RLR B z r (if tkd B z s.1 = 5 ∧ tvl B z s.1 = 59 then .inr (s.1 + 1, s.2) else flt B z s.1 2) Y'
    by_cases hc : tkd B z s.1 = 5 ∧ tvl B z s.1 = 59
    · rw [if_pos hc] at em ⊢
      rw [em] at g
      exact ⟨g, MNG_7 hG f⟩
    · rw [if_neg hc] at em ⊢
      rw [em] at g
      exact g
theorem kw_eq {i j : Nat} (hi : i < 18) (hj : j < 18) : lcmp (cvw (kwL.getD i 0)) (cvw (kwL.getD j 0)) = 0 ↔ i = j := by
  rw [lcmp_0, cv_inj (VWd_kw ⟨i, hi⟩) (VWd_kw ⟨j, hj⟩)]
  refine ⟨fun h => ?_, fun h => by subst h; rfl⟩
  refine Classical.byContradiction fun hne => kw_ne ⟨i, hi⟩ ⟨j, hj⟩ (fun q => hne (by cases q; rfl)) h
theorem r_line (hR : RM R) (hr : r = 0 ∨ r = 1) (hM : MSt B z (.inr k) Y) (hG : MNG Y r G) (hW : WLI k G) (hP : POK B z k G) (hq : ∀ Y', RLR B z r (pLin B z k G) Y' → FPW r Y Y' → Q 0 SHX R Y') : Mw (d + 8) 171 [vr 364] SHX R Y 0 0 Q := by
  have hF := WLI_GF hW
  have wW := wn_W hW.1
  have wC := wn_C hW.1
  have hD := hW.2.2.2.2.1
  have hz := hM.1.2.1
  have e8 : Y 364 8 = 3 ↔ tkd B z k = 2 := km_is hM (v := 2) (by decide)
  have m10 := hM.2.2.2.2.2.2.2.1
  -- out of place
  have mis : pLin B z k G = flt B z k 2 → Cd (d + 8) 163 [vr 364] SHX R Y 0 0 (fun (_ : Int) (sh3 : SHP) (R3 M3 : MEM) => Go (d + 8) 171 Q 12 [vr 364, vl (Y 364 10), vn, vn] [] sh3 R3 M3 0 0) := fun he => by
    refine r_misplaced (d := d + 6) hM fun Y1 h1 f1 => ?_
    refine b2_X12_readLine_12 ?_
    rw [ok364]
    refine r_isGood (d := d + 7) h1 (fun e' _ => ?_) fun k' he => nomatch he
    rw [if_pos rfl]
    exact fun _ => hq Y1 (by rw [he]; exact h1) (FPW_7 f1)
  refine Mw_of mok171 rfl fun _ _ => b2_X12_readLine_0 ?_
  rw [ok364, ok364]
  by_cases h2 : tkd B z k = 2
  · rw [if_pos (e8.2 h2), ok364]
    obtain ⟨j, j1, j2⟩ := tok_kw h2
    have et : Y 364 10 = cvw (kwL.getD j 0) := by
      rw [m10 (Or.inl h2)]
      unfold twd
      rw [if_pos h2, j2]
      rfl
    have eL : pLin B z k G = if tvl B z k ≤ 8 then pTow B z (tvl B z k) k G else if tvl B z k = 9 then pWay B z k G else if tvl B z k = 10 then pClm B z k G else if tvl B z k = 11 then pDrw B z k G else flt B z k 2 := by
      unfold pLin
      rw [if_pos h2]
    refine r_isFull (d := d + 5) hR hr hM hG h2 (fun hf => ?_) fun hf => ?_
    · rw [if_neg (by decide), ok364]
      intro _
      refine mis ?_
      unfold fuG at hf
      rw [eL]
      rcases hf with ⟨q1, q2⟩ | ⟨q1, q2⟩ | ⟨q1, q2⟩ | ⟨q1, q2⟩ | q1
      · rw [if_pos q1]; unfold pTow; rw [if_pos q2]
      · rw [if_neg (by omega), if_pos q1]; unfold pWay; rw [if_pos q2]
      · rw [if_neg (by omega), if_neg (by omega), if_pos q1]; unfold pClm; rw [if_pos q2]
      · rw [if_neg (by omega), if_neg (by omega), if_neg (by omega), if_pos q1]; unfold pDrw; rw [if_neg q2]
      · rw [if_neg (by omega), if_neg (by omega), if_neg (by omega), if_neg (by omega)]
    · rw [if_pos rfl]
      intro _
      unfold fuG at hf
      refine b2_X12_readLine_12 ?_
      rw [ok364]
      refine r_isGood (d := d + 7) hM (fun e' he => nomatch he) fun _ _ => ?_
      rw [if_neg (by decide), ok364]
      intro _
      refine r_sortHere (d := d + 6) hM ?_
      obtain ⟨u0, hu0⟩ : ∃ u0 : Int, u0 = (if tkd B z k = 2 ∧ tvl B z k ≤ 8 then tvl B z k else -1) := ⟨_, rfl⟩
      rw [← hu0, ok364]
      refine r_goOn (d := d + 6) hR hM (by omega) fun Y1 h1 f1 => ?_
      have hG1 := MNG_7 hG f1
      have fin : ∀ (res : RSP) (Y2 : MEM), sgE B z res = pLin B z k G → RLR B z r res Y2 → FPW r Y1 Y2 → Go (d + 8) 171 Q 43 [vr 364, vn, vn, vn] [] SHX R Y2 0 0 := fun res Y2 he g f => line_43 (d := d + 5) hR g fun Y3 g3 f3 => hq Y3 (by rw [← he]; exact g3) (FPW_tr (FPW_7 f1) (FPW_tr f (FPW_7 f3)))
      have w9 : (7823737 : Int) = cvw (kwL.getD 9 0) := by decide
      have w10 : (427020085613 : Int) = cvw (kwL.getD 10 0) := by decide
      by_cases h8 : tvl B z k ≤ 8
      · rw [if_pos h8] at eL
        rw [if_pos ⟨h2, h8⟩] at hu0
        rw [hu0, if_neg (by omega), ok364]
        exact r_tower (d := d + 4) hR hr h1 hG1 hF (by have := hF.1; omega) (fun q => by have := hF.2.1; omega) (by omega) fun Y2 g f => fin _ Y2 (by rw [eL]; exact (tow_E (by omega)).symm) g f
      · rw [if_neg h8] at eL
        rw [if_neg fun q => h8 q.2] at hu0
        rw [hu0, if_pos (by decide), et]
        by_cases h9 : tvl B z k = 9
        · rw [if_pos h9] at eL
          rw [w9, if_pos ((kw_eq j1 (by decide)).2 (by omega)), ok364]
          exact r_way (d := d + 3) hR hr h1 hG1 hF (by omega) fun Y2 g f => fin _ Y2 (by rw [eL]; exact (way_E (by omega)).symm) g f
        · rw [if_neg h9] at eL
          rw [w9, if_neg fun q => h9 (by have := (kw_eq j1 (by decide)).1 q; omega)]
          by_cases h10 : tvl B z k = 10
          · rw [if_pos h10] at eL
            rw [w10, if_pos ((kw_eq j1 (by decide)).2 (by omega)), ok364]
            refine r_claim (d := d) hR hr h1 hG1 hW ?_ (by omega) fun Y2 g f => fin _ Y2 (by rw [eL]; exact (clm_E (by omega)).symm) g f
            have := tpl_mono (B := B) hz.1 k
            unfold POK at hP
            omega
          · rw [if_neg h10] at eL
            rw [w10, if_neg fun q => h10 (by have := (kw_eq j1 (by decide)).1 q; omega), ok364]
            have h11 : tvl B z k = 11 := by omega
            rw [if_pos h11] at eL
            exact r_draw (d := d + 4) hR hr h1 hG1 fun Y2 g f => fin _ Y2 (by rw [eL]; exact (drw_E (by omega)).symm) g f
  · rw [if_neg fun q => h2 (e8.1 q), ok364]
    refine mis ?_
    unfold pLin
    rw [if_neg h2]
theorem tpl_up (hz : 0 ≤ z) : ∀ (m k : Nat), tpl B z k ≤ tpl B z (k + m)
  | 0, k => Int.le_refl _
  | m + 1, k => Int.le_trans (tpl_up hz m k) (tpl_mono hz (k + m))
theorem POK_up (hz : 0 ≤ z) (h : POK B z k G) (hk : k ≤ k') (e7 : G' 0 7 = G 0 7) (e4 : G' 0 4 = G 0 4) : POK B z k' G' := by
  unfold POK at h ⊢
  have := tpl_up (B := B) hz (k' - k) k
  rw [show k + (k' - k) = k' by omega] at this
  rw [e7, e4]
  omega
theorem adT_74 {nm s : Int} : adT (stm G 10 (G 0 0) nm) s v 0 7 = G 0 7 ∧ adT (stm G 10 (G 0 0) nm) s v 0 4 = G 0 4 := by
  by_cases hs : s = 0
  · rw [adT_pos hs]; simp (disch := omega) only [stm_neq]; exact ⟨trivial, trivial⟩
  · rw [adT_neg hs]; simp (disch := omega) only [stm_neq]; exact ⟨trivial, trivial⟩
theorem pLin_pot (hz : 0 ≤ z) (h16 : z ≤ 1600) (h : WLI k G) (hP : POK B z k G) (he : pLin B z k G = .inr (k', G')) : POK B z k' G' := by
  have hk := (pLin_ok h he).2
  have h' := h
  obtain ⟨hw, hU, hN, hK, hD, hC⟩ := h'
  have wT := wn_T hw
  have wS := wn_S hw
  unfold pLin at he
  by_cases h2 : tkd B z k = 2
  · rw [if_pos h2] at he
    by_cases h8 : tvl B z k ≤ 8
    · rw [if_pos h8] at he
      unfold pTow at he
      split at he
      · exact absurd he flt_no
      · split at he
        · split at he
          · split at he
            · obtain ⟨q1, q2⟩ := pSg_inr he
              cases q2
              exact POK_up hz hP (by omega) adT_74.1 adT_74.2
            · obtain ⟨q1, q2, q3⟩ := pNm_inr he
              obtain ⟨q4, q5⟩ := pSg_inr q3
              cases q5
              exact POK_up hz hP (by omega) adT_74.1 adT_74.2
          · exact absurd he flt_no
        · exact absurd he flt_no
    · rw [if_neg h8] at he
      by_cases h9 : tvl B z k = 9
      · rw [if_pos h9] at he
        unfold pWay at he
        split at he
        · exact absurd he flt_no
        · obtain ⟨a1, a2, a3⟩ := pTw_inr wT.1 he
          by_cases hr : rmG G (twH G (tvl B z (k + 1)))
          · rw [if_pos hr] at a3
            obtain ⟨b1, b2⟩ := pWd_inr a3
            obtain ⟨c1, c2, c3⟩ := pTw_inr wT.1 b2
            obtain ⟨d1, d2⟩ := pWd_inr c3
            obtain ⟨e1, e2, e3⟩ := pNm_inr d2
            obtain ⟨f1, f2⟩ := pSg_inr e3
            cases f2
            refine POK_up hz hP (by omega) ?_ ?_
            · unfold adW; split <;> simp (disch := omega) only [stm_neq]
            · unfold adW; split <;> simp (disch := omega) only [stm_neq]
          · rw [if_neg hr] at a3; exact absurd a3 flt_no
      · rw [if_neg h9] at he
        by_cases h10 : tvl B z k = 10
        · rw [if_pos h10] at he
          unfold pClm at he
          split at he
          · exact absurd he flt_no
          · split at he
            · split at he
              · obtain ⟨b1, b2⟩ := pWd_inr he
                obtain ⟨c1, c2, c3⟩ := pTw_inr wT.1 b2
                split at c3
                · obtain ⟨k1, G1, e1, e2⟩ := bnd_inr c3
                  obtain ⟨f1, f2⟩ := pSg_inr e2
                  cases f2
                  have hF := WLI_GF h
                  have t4 := tpl_up (B := B) hz 4 k
                  have t1 := tpl_mono (B := B) hz k1
                  have fp := fm_pot (s := (k1, G1)) hz h16 (GF_same (G' := stm (stm G 11 (G 0 3) (tvl B z (k + 1))) 0 8 0) hF (by simp (disch := omega) only [stm_neq]) (by simp (disch := omega) only [stm_neq]) (by simp (disch := omega) only [stm_ne]) (by simp (disch := omega) only [stm_ne])) (by
                    unfold GV
                    simp (disch := omega) only [stm_neq, stm_hit]
                    exact ⟨hU, by decide, hK.1⟩) (by
                    simp (disch := omega) only [stm_neq, stm_hit]
                    unfold POK at hP
                    omega) e1
                  unfold POK adC
                  simp (disch := omega) only [stm_neq]
                  have fp : 4 * G1 0 7 + 3 ≤ tpl B z k1 + 7 * G1 0 4 := fp
                  omega
                · exact absurd c3 flt_no
              · exact absurd he flt_no
            · exact absurd he flt_no
        · rw [if_neg h10] at he
          by_cases h11 : tvl B z k = 11
          · rw [if_pos h11] at he
            unfold pDrw at he
            split at he
            · obtain ⟨q1, q2, q3⟩ := pNm_inr he
              obtain ⟨q4, q5⟩ := pSg_inr q3
              cases q5
              refine POK_up hz hP (by omega) ?_ ?_
              · simp (disch := omega) only [stm_neq]
              · simp (disch := omega) only [stm_neq]
            · exact absurd he flt_no
          · rw [if_neg h11] at he; exact absurd he flt_no
  · rw [if_neg h2] at he; exact absurd he flt_no
end
