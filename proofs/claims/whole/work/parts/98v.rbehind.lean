/-! THE PARSER, the reference: behind a unit -/
section
variable {d : Nat} {R X Y : MEM} {B : Int → Int} {z r v w x a b c f n rk : Int} {k : Nat} {s : SNK} {S : SKK} {G : NTW} {Φ : RSP → Prop} {P P' : PST} {Q : RES}
theorem r_rank (hR : RM R) (hS : MSt B z (.inr k) Y) (hq : Q (rkT (tkd B z k) (tvl B z k)) SHX R Y) : Mw (d + 2) 187 [vr 364] SHX R Y 0 0 Q := by
  refine Mw_of mok187 rfl fun _ _ => b_X12_rankHere_0 ?_
  have yes : ∀ {l : Int}, 0 ≤ l → l < 5 → opB l (tkd B z k) (tvl B z k) = true → ∀ y, rkL l = y → Q y SHX R Y := fun h0 h1 h y e => by
    rw [rk_of h0 h1 h, e] at hq
    exact hq
  rw [ok364]
  refine r_isW (d := d + 1) (j := 16) hS (by decide) (by decide) (fun h _ => by rw [if_neg (by decide)]; exact yes (l := 1) (by decide) (by decide) (op1.2 h) 2 (by decide)) fun h0 _ => ?_
  rw [if_pos rfl, ok364]
  refine r_isW (d := d + 1) (j := 15) hS (by decide) (by decide) (fun h _ => by rw [if_neg (by decide)]; exact yes (l := 0) (by decide) (by decide) (op0.2 h) 1 (by decide)) fun h1 _ => ?_
  rw [if_pos rfl, ok364]
  refine r_isS (d := d) hR hS (fun h _ => by rw [if_neg (by decide)]; exact yes (l := 2) (by decide) (by decide) (op2.2 ⟨h.1, Or.inl h.2⟩) 4 (by decide)) fun h2 _ => ?_
  rw [if_pos rfl, ok364]
  refine r_isS (d := d) hR hS (fun h _ => by rw [if_neg (by decide)]; exact yes (l := 2) (by decide) (by decide) (op2.2 ⟨h.1, Or.inr (Or.inl h.2)⟩) 4 (by decide)) fun h3 _ => ?_
  rw [if_pos rfl, ok364]
  refine r_isS (d := d) hR hS (fun h _ => by rw [if_neg (by decide)]; exact yes (l := 2) (by decide) (by decide) (op2.2 ⟨h.1, Or.inr (Or.inr h.2)⟩) 4 (by decide)) fun h4 _ => ?_
  rw [if_pos rfl, ok364]
  refine r_isS (d := d) hR hS (fun h _ => by rw [if_neg (by decide)]; exact yes (l := 3) (by decide) (by decide) (op3.2 ⟨h.1, Or.inl h.2⟩) 5 (by decide)) fun h5 _ => ?_
  rw [if_pos rfl, ok364]
  refine r_isS (d := d) hR hS (fun h _ => by rw [if_neg (by decide)]; exact yes (l := 3) (by decide) (by decide) (op3.2 ⟨h.1, Or.inr h.2⟩) 5 (by decide)) fun h6 _ => ?_
  rw [if_pos rfl, ok364]
  refine r_isS (d := d) hR hS (fun h _ => by rw [if_neg (by decide)]; exact yes (l := 4) (by decide) (by decide) (op4.2 ⟨h.1, Or.inl h.2⟩) 6 (by decide)) fun h7 _ => ?_
  rw [if_pos rfl, ok364]
  refine r_isS (d := d) hR hS (fun h _ => by rw [if_neg (by decide)]; exact yes (l := 4) (by decide) (by decide) (op4.2 ⟨h.1, Or.inr (Or.inl h.2)⟩) 6 (by decide)) fun h8 _ => ?_
  rw [if_pos rfl, ok364]
  refine r_isS (d := d) hR hS (fun h _ => by rw [if_neg (by decide)]; exact yes (l := 4) (by decide) (by decide) (op4.2 ⟨h.1, Or.inr (Or.inr h.2)⟩) 6 (by decide)) fun h9 _ => ?_
  rw [if_pos rfl]
  rw [rk_0 (fun q => h1 (op0.1 q)) (fun q => h0 (op1.1 q)) (fun q => ?_) (fun q => ?_) fun q => ?_] at hq
  · exact hq
  · have g := op2.1 q
    rcases g.2 with g2 | g2 | g2
    · exact h2 ⟨g.1, g2⟩
    · exact h3 ⟨g.1, g2⟩
    · exact h4 ⟨g.1, g2⟩
  · have g := op3.1 q
    rcases g.2 with g2 | g2
    · exact h5 ⟨g.1, g2⟩
    · exact h6 ⟨g.1, g2⟩
  · have g := op4.1 q
    rcases g.2 with g2 | g2 | g2
    · exact h7 ⟨g.1, g2⟩
    · exact h8 ⟨g.1, g2⟩
    · exact h9 ⟨g.1, g2⟩
theorem len_c {p : Int × Int} : ((p :: S : SKK).length : Int) = (S.length : Int) + 1 := by rw [List.length_cons]; omega
theorem r_compared (hR : RM R) (h40 : Y 364 40 = (S.length : Int)) (hl : (S.length : Int) ≤ 56) (hK : STK S w) (hM : SM Y S) (hq : Q (if cmpd S = true then 1 else 0) SHX R Y) : Mw d 188 [vr 364] SHX R Y 0 0 Q := by
  have key : ∀ (T : SKK) (u : Int), STK T u → SM Y T → (T.length : Int) ≤ 56 → cmpd T = cmpd S → Go d 188 Q 5 [vr 364, vi ((T.length : Int) - 1)] [] SHX R Y 0 0 := by
    intro T
    induction T with
    | nil => exact fun u h => h.elim
    | cons p T ih =>
      intro u hT hM hl he
      have e1 := hM.1
      rw [len_c] at hl ⊢
      have ec : cmpd (p :: T) = if p.1 = 5 ∨ p.1 = 6 then cmpd T else decide (p.1 = 4) := rfl
      refine b_X12_isCompared_5 ?_
      rw [show (T.length : Int) + 1 - 1 = (T.length : Int) by omega, ok364, fr33 hR, ak389, e1]
      refine ⟨by omega, by omega, ?_⟩
      have nx : (p.1 = 5 ∨ p.1 = 6) → Go d 188 Q 5 [vr 364, vi (iadd (T.length : Int) (-1))] [] SHX R Y 0 0 := fun h => by
        rw [iadd_of (x := (T.length : Int)) (by omega) (by omega)]
        rcases hT with ⟨h1, _⟩ | ⟨_, ⟨h1, _⟩ | ⟨_, _, h4⟩⟩
        · omega
        · omega
        · exact ih u h4 hM.2.2 (by omega) (by rw [← he, ec, if_pos h])
      by_cases h5 : p.1 = 5
      · rw [if_pos h5]; exact nx (Or.inl h5)
      rw [if_neg h5, ok364, ak389]
      refine ⟨by omega, by omega, ?_⟩
      by_cases h6 : p.1 = 6
      · rw [if_pos h6]; exact nx (Or.inr h6)
      rw [if_neg h6, ok364, ak389]
      refine ⟨by omega, by omega, ?_⟩
      have e' : cmpd S = decide (p.1 = 4) := by rw [← he, ec, if_neg (by omega)]
      by_cases h4 : p.1 = 4
      · rw [if_pos h4]
        have e2 : (if cmpd S = true then (1 : Int) else 0) = 1 := if_pos (by rw [e']; exact decide_eq_true h4)
        rw [e2] at hq
        exact hq
      · rw [if_neg h4]
        have e2 : (if cmpd S = true then (1 : Int) else 0) = 0 := if_neg (by rw [e', decide_eq_false h4]; decide)
        rw [e2] at hq
        exact hq
  refine Mw_of mok188 rfl fun _ _ => b_X12_isCompared_0 ?_
  rw [ok364, h40, isub_of (by omega) (by omega)]
  exact key S w hK hM hl rfl
/-- what popping keeps -/
theorem pop_inv : ∀ (S : SKK) (w : Int) (G : NTW), STK S w → GF G → 0 ≤ G 0 7 → STK (popK rk S w G).1 (popK rk S w G).2.1 ∧ (popK rk S w G).2.1 ≤ w ∧ (popK rk S w G).2.2 0 7 + pnd (popK rk S w G).1 = G 0 7 + pnd S ∧ GF (popK rk S w G).2.2 ∧ (popK rk S w G).2.2 0 4 = G 0 4 ∧ (popK rk S w G).2.2 0 8 = G 0 8 ∧ 0 ≤ (popK rk S w G).2.2 0 7 ∧ (topW (popK rk S w G).1 < rk ∨ 7 ≤ topW (popK rk S w G).1)
  | [], w, G, h, _, _ => h.elim
  | p :: S, w, G, h, hF, h0 => by
    have ec : popK rk (p :: S) w G = if p.1 ≤ 6 ∧ rk ≤ p.1 then popK rk S (if p.1 = 3 then w - 1 else w) (emG G p.2) else (p :: S, w, G) := rfl
    by_cases hp : p.1 ≤ 6 ∧ rk ≤ p.1
    · rw [ec, if_pos hp]
      have hS : STK S (if p.1 = 3 then w - 1 else w) := by
        rcases h with ⟨h1, _⟩ | ⟨_, ⟨h1, h2⟩ | ⟨h1, _, h4⟩⟩
        · omega
        · rw [if_pos (by omega)]; exact h2
        · rw [if_neg h1.1]; exact h4
      obtain ⟨i1, i2, i3, i4, i5, i6, i7, i8⟩ := pop_inv S _ (emG G p.2) hS (GF_em hF) (by rw [emG_7]; omega)
      have ep : pnd (p :: S) = 1 + pnd S := by
        show (if p.1 ≤ 6 then (1 : Int) else 0) + pnd S = _
        rw [if_pos hp.1]
      rw [emG_7] at i3
      rw [emG_ne (by decide) (by omega)] at i5
      rw [emG_ne (by decide) (by omega)] at i6
      have iw : (if p.1 = 3 then w - 1 else w) ≤ w := by split <;> omega
      exact ⟨i1, Int.le_trans i2 iw, by omega, i4, i5, i6, i7, i8⟩
    · rw [ec, if_neg hp]
      exact ⟨h, Int.le_refl _, rfl, hF, rfl, rfl, h0, by show p.1 < rk ∨ 7 ≤ p.1; omega⟩
theorem r_pop (hR : RM R) (hr : r = 0 ∨ r = 1) (rk0 : 0 ≤ rk) : ∀ (S : SKK) (w : Int) (G : NTW) (Y : MEM), STK S w → w ≤ 7 → 0 ≤ G 0 7 → G 0 7 + pnd S < 599 → SRL B z Y r k S w G → (∀ Y', SRL B z Y' r k (popK rk S w G).1 (popK rk S w G).2.1 (popK rk S w G).2.2 → FPB r Y Y' → Go (d + 2) 189 Q 59 [vr 364, vi rk] [] SHX R Y' 0 0) → Go (d + 2) 189 Q 13 [vr 364, vi rk] [] SHX R Y 0 0
  | [], w, G, Y, h, _, _, _, _, _ => h.elim
  | p :: S, w, G, Y, hK, hw, h0, h7, hL, hq => by
    have hL' := hL
    obtain ⟨hS, hG, h39, h40, h41, hM⟩ := hL'
    have hl := (STK_l hK hw).2
    have ec : popK rk (p :: S) w G = if p.1 ≤ 6 ∧ rk ≤ p.1 then popK rk S (if p.1 = 3 then w - 1 else w) (emG G p.2) else (p :: S, w, G) := rfl
    rw [len_c] at h40 hl
    refine b2_X12_behindUnit_13 ?_
    rw [ok364, ok364, h40, isub_of (by omega) (by omega), show (S.length : Int) + 1 - 1 = (S.length : Int) by omega, fr33 hR, ak389, hM.1]
    refine ⟨by omega, by omega, ?_⟩
    by_cases h6 : 6 < p.1
    · rw [ec, if_neg (by omega)] at hq
      rw [if_pos h6]
      exact hq Y hL FPB_self
    rw [if_neg h6, ok364, ok364, ak389]
    refine ⟨by omega, by omega, ?_⟩
    by_cases hrk : p.1 < rk
    · rw [ec, if_neg (by omega)] at hq
      rw [if_pos hrk]
      exact hq Y hL FPB_self
    have hp : p.1 ≤ 6 ∧ rk ≤ p.1 := by omega
    rw [ec, if_pos hp] at hq
    have ep : pnd (p :: S) = 1 + pnd S := by
      show (if p.1 ≤ 6 then (1 : Int) else 0) + pnd S = _
      rw [if_pos hp.1]
    have p0 := pnd_0 S
    rw [if_neg hrk, ok364, ok364, ok364, ok364, stm_hit, ak389, stm_neq (by omega), hM.1]
    refine ⟨by omega, by omega, ?_⟩
    -- popped
    have hW : ∀ (W : MEM), (∀ j, j ≠ 39 → j ≠ 40 → W 364 j = Y 364 j) → (∀ q, q ≠ 364 → W q = Y q) → W 364 40 = (S.length : Int) → W 364 39 = (if p.1 = 3 then w - 1 else w) → Go (d + 2) 189 Q 50 [vr 364, vi rk] [] SHX R W 0 0 := fun W ej eq e40 e39 => by
      have hOP : OPX p.2 := by
        rcases hK with ⟨h1, _⟩ | ⟨h1, _⟩
        · omega
        · exact h1.2.2
      have hSK : STK S (if p.1 = 3 then w - 1 else w) := by
        rcases hK with ⟨h1, _⟩ | ⟨_, ⟨h1, h2⟩ | ⟨h1, _, h4⟩⟩
        · omega
        · rw [if_pos (by omega)]; exact h2
        · rw [if_neg h1.1]; exact h4
      have hGW : MNG W r G := MNG_of hG (fun q _ _ => eq q (by omega)) (ej 37 (by decide) (by decide)) (ej 38 (by decide) (by decide))
      have fW : FPB r Y W := fun q j hn => by
        by_cases hq : q = 364
        · subst hq
          exact ej j (fun g => hn (Or.inl ⟨rfl, Or.inr (by omega)⟩)) fun g => hn (Or.inl ⟨rfl, Or.inr (by omega)⟩)
        · rw [eq q hq]
      refine b2_X12_behindUnit_50 ?_
      rw [ok364, ok364, e40, fr34 hR, ak390, eq 390 (by decide), hM.2.1, ok364]
      refine ⟨by omega, by omega, ?_⟩
      refine r_emit (d := d + 1) (x := p.2) hR hr hGW (by omega) (op_sg hOP) fun W2 g2 f2 => ?_
      refine r_pop hR hr rk0 S _ (emG G p.2) W2 hSK (by split <;> omega) (by rw [emG_7]; omega) (by rw [emG_7]; omega) ⟨MSt_E (MSt_of hS (fun j _ _ => ej j (by omega) (by omega)) (eq 366 (by decide))) f2, g2, ?_, ?_, ?_, SM_E (SM_of S hM.2.2 fun i _ _ => by rw [eq 389 (by decide), eq 390 (by decide)]; exact ⟨rfl, rfl⟩) f2⟩ fun Y' h f => hq Y' h (FPB_tr fW (FPB_tr f2.2.2 f))
      · rw [f2.1 39 (by decide)]; exact e39
      · rw [f2.1 40 (by decide)]; exact e40
      · rw [f2.1 41 (by decide), ej 41 (by decide) (by decide), emG_ne (by decide) (by omega)]; exact h41
    have w0 := (STK_b _ w hK).1.1
    by_cases h3 : p.1 = 3
    · rw [if_pos h3] at hW
      rw [if_pos h3, ok364, ok364, stm_neq (by omega), h39, isub_of (by omega) (by omega)]
      exact hW _ (fun j g1 g2 => by simp (disch := omega) only [stm_neq]) (fun q g => by simp (disch := omega) only [stm_ne]) (by simp (disch := omega) only [stm_neq, stm_hit]) (stm_hit _ _ _ _)
    · rw [if_neg h3] at hW
      rw [if_neg h3]
      exact hW _ (fun j g1 g2 => by simp (disch := omega) only [stm_neq]) (fun q g => by simp (disch := omega) only [stm_ne]) (stm_hit _ _ _ _) (by simp (disch := omega) only [stm_neq]; exact h39)
theorem opX_of {l : Int} (l0 : 0 ≤ l) (l1 : l < 5) (h : opB l x v = true) : OPX (20000 + v) ∧ (l = 0 → sgX (20000 + v) = 124) ∧ (l = 1 → sgX (20000 + v) = 38) ∧ (2 ≤ l → x = 5 ∧ sgX (20000 + v) = v) := by
  unfold OPX sgX
  rcases l_5 l0 l1 with rfl | rfl | rfl | rfl | rfl
  · obtain ⟨rfl, rfl⟩ := op0.1 h; decide
  · obtain ⟨rfl, rfl⟩ := op1.1 h; decide
  · obtain ⟨rfl, rfl | rfl | rfl⟩ := op2.1 h <;> decide
  · obtain ⟨rfl, rfl | rfl⟩ := op3.1 h <;> decide
  · obtain ⟨rfl, rfl | rfl | rfl⟩ := op4.1 h <;> decide
theorem rk_inv (h : 0 < rkT x v) : ∃ l, 0 ≤ l ∧ l < 5 ∧ opB l x v = true := by
  by_cases h0 : opB 0 x v = true
  · exact ⟨0, by decide, by decide, h0⟩
  by_cases h1 : opB 1 x v = true
  · exact ⟨1, by decide, by decide, h1⟩
  by_cases h2 : opB 2 x v = true
  · exact ⟨2, by decide, by decide, h2⟩
  by_cases h3 : opB 3 x v = true
  · exact ⟨3, by decide, by decide, h3⟩
  by_cases h4 : opB 4 x v = true
  · exact ⟨4, by decide, by decide, h4⟩
  rw [rk_0 h0 h1 h2 h3 h4] at h
  exact absurd h (by decide)
theorem r_59 (hR : RM R) (hr : r = 0 ∨ r = 1) (hK : STK S w) (hw : w ≤ 7) (ht : topW S < rkT (tkd B z k) (tvl B z k) ∨ 7 ≤ topW S) (hL : SRL B z Y r k S w G) (h : srE B z Φ P k (S, w, G)) (hΦe : ∀ e Y', Φ (.inl e) → MSt B z (.inl e) Y' → FPB r Y Y' → Q 0 SHX R Y') (hΦd : ∀ Y', Φ (.inr (k, G)) → MSt B z (.inr k) Y' → MNG Y' r G → Y' 364 40 = 0 → FPB r Y Y' → Q 0 SHX R Y') (hPt : ∀ k S w G Y', P true k S w G → SRL B z Y' r k S w G → FPB r Y Y' → Q 1 SHX R Y') (hPf : ∀ k S w G Y', P false k S w G → SRL B z Y' r k S w G → FPB r Y Y' → Q 0 SHX R Y') : Go (d + 3) 189 Q 59 [vr 364, vi (rkT (tkd B z k) (tvl B z k))] [] SHX R Y 0 0 := by
  have hL' := hL
  obtain ⟨hS, hG, h39, h40, h41, hM⟩ := hL'
  have hl := STK_l hK hw
  refine b2_X12_behindUnit_59 ?_
  unfold srE at h
  by_cases h0 : 0 < rkT (tkd B z k) (tvl B z k)
  · rw [if_pos h0] at h ⊢
    obtain ⟨l, l0, l1, lo⟩ := rk_inv h0
    obtain ⟨o1, o2, o3, o4⟩ := opX_of l0 l1 lo
    have kn := op_no l0 l1 lo
    have kz : tkd B z k ≠ 0 := by
      rcases l_5 l0 l1 with rfl | rfl | rfl | rfl | rfl
      · have := (op0.1 lo).1; omega
      · have := (op1.1 lo).1; omega
      · have := (op2.1 lo).1; omega
      · have := (op3.1 lo).1; omega
      · have := (op4.1 lo).1; omega
    have er := rk_of l0 l1 lo
    rw [er] at h ⊢
    -- pushed, and on
    have fin : ∀ {a : Int}, a = sgX (20000 + tvl B z k) → Cd (d + 3) 183 [vr 364, vi (rkL l), vi a] SHX R Y 0 0 (fun (_ : Int) (sh6 : SHP) (R6 M6 : MEM) => ook sh6 12 364 (Cd (d + 3) 160 [vr 364] sh6 R6 M6 0 0 (fun (_ : Int) (sh7 : SHP) (R7 M7 : MEM) => Q 1 sh7 R7 M7))) := fun {a} ha => by
      refine r_push (d := d + 2) (x := 20000 + tvl B z k) hR h40 (by omega) hM (fun Y' hM' h40' hU hj => ?_) ha
      rw [ok364]
      refine r_goOn (d := d + 1) hR (MSt_U hS hU) kz fun Y3 h3 f3 => ?_
      refine hPt _ _ _ _ Y3 h ⟨h3, MNG_7 (MNG_U hG hU) f3, ?_, ?_, ?_, SM_7 hM' f3⟩ (FPB_tr (FPB_U hU) (FPB_7 f3))
      · rw [f3.2 39 (by omega), hj 39 (by decide)]; exact h39
      · rw [f3.2 40 (by omega), h40', len_c]
      · rw [f3.2 41 (by omega), hj 41 (by decide)]; exact h41
    have rl : (l = 0 → rkL l = 1) ∧ (l = 1 → rkL l = 2) ∧ (2 ≤ l → rkL l ≠ 1 ∧ rkL l ≠ 2) := by
      rcases l_5 l0 l1 with rfl | rfl | rfl | rfl | rfl <;> decide
    by_cases hl1 : l = 1
    · rw [if_pos (rl.2.1 hl1), ok364]
      exact fin (o3 hl1).symm
    by_cases hl0 : l = 0
    · rw [if_neg (by rw [rl.1 hl0]; decide), if_pos (rl.1 hl0), ok364]
      exact fin (o2 hl0).symm
    have l2 : 2 ≤ l := by omega
    rw [if_neg (rl.2.2 l2).2, if_neg (rl.2.2 l2).1, ok364, ok364]
    obtain ⟨k5, sg⟩ := o4 l2
    obtain ⟨t1, t2, t3⟩ := tok_sgn k5
    have m6 : Y 364 6 = tpl B z k := hS.2.2.2.2.2.1
    refine m_sign (d := d + 2) hR hS.1 hS.2.1 ?_
    have eb : bS B z (Y 364 6) = tvl B z k := by
      rw [m6, t1]
      exact if_pos t3
    rw [eb, ok364]
    exact fin sg.symm
  · rw [if_neg h0] at h ⊢
    cases S with
    | nil => exact hK.elim
    | cons p S =>
      rw [len_c] at h40 hl
      rw [ok364, ok364, ok364, ok364, stm_hit, h40, isub_of (by omega) (by omega), show (S.length : Int) + 1 - 1 = (S.length : Int) by omega, fr33 hR, ak389, stm_neq (by omega), hM.1]
      refine ⟨by omega, by omega, ?_⟩
      have h' : if p.1 = 7 then (if tkd B z k = 5 ∧ tvl B z k = 41 then P false (k + 1) S (w - 1) G else Φ (flt B z k 2)) else Φ (.inr (k, G)) := h
      by_cases hp : p.1 = 7
      · rw [if_pos hp] at h' ⊢
        have w0 := (STK_b _ w hK).1.1
        rw [ok364, ok364, ok364, stm_neq (by omega), h39, isub_of (by omega) (by omega)]
        have hS1 : MSt B z (.inr k) (stm (stm Y 364 40 (S.length : Int)) 364 39 (w - 1)) := MSt_of hS (fun j _ _ => by simp (disch := omega) only [stm_neq]) (by simp (disch := omega) only [stm_ne])
        have hU1 : FMU Y (stm (stm Y 364 40 (S.length : Int)) 364 39 (w - 1)) := ⟨fun j hj => by simp (disch := omega) only [stm_neq], fun q q1 _ _ => by simp (disch := omega) only [stm_ne]⟩
        refine r_isSign (d := d + 1) hR hS1 fun v hv hi => ?_
        intro _
        rw [ok364]
        refine r_mustS (d := d) hR hS1 hv hi fun Y3 h3 f3 => ?_
        have fb3 : FPB r Y Y3 := FPB_tr (FPB_U hU1) (FPB_7 f3)
        have es : muS B z (.inr k) 41 = if tkd B z k = 5 ∧ tvl B z k = 41 then .inr (k + 1) else .inl (ftE B z k 2) := rfl
        by_cases h41' : tkd B z k = 5 ∧ tvl B z k = 41
        · rw [if_pos h41'] at h' es
          rw [es] at h3
          refine hPf _ _ _ _ Y3 h' ⟨h3, MNG_7 (MNG_U hG hU1) f3, ?_, ?_, ?_, SM_7 (SM_of S hM.2.2 fun i _ _ => ⟨?_, ?_⟩) f3⟩ fb3
          · rw [f3.2 39 (by omega), stm_hit]
          · rw [f3.2 40 (by omega), stm_neq (by omega), stm_hit]
          · rw [f3.2 41 (by omega)]; simp (disch := omega) only [stm_neq]; exact h41
          · simp (disch := omega) only [stm_neq]
          · simp (disch := omega) only [stm_neq]
        · rw [if_neg h41'] at h' es
          rw [es] at h3
          exact hΦe _ Y3 h' h3 fb3
      · rw [if_neg hp] at h' ⊢
        have p8 : S = [] := by
          have ht' : p.1 < rkT (tkd B z k) (tvl B z k) ∨ 7 ≤ p.1 := ht
          rcases hK with ⟨_, h2, _⟩ | ⟨h1, ⟨h2, _⟩ | ⟨h2, _⟩⟩
          · exact h2
          · omega
          · omega
        subst p8
        exact hΦd _ h' (MSt_of hS (fun j _ _ => by simp (disch := omega) only [stm_neq]) (by simp (disch := omega) only [stm_ne])) (MNG_of hG (fun q _ _ => by simp (disch := omega) only [stm_ne]) (by simp (disch := omega) only [stm_neq]) (by simp (disch := omega) only [stm_neq])) (stm_hit _ _ _ _) (FPB_st FPB_self (Or.inl ⟨rfl, Or.inr (by decide)⟩))
theorem r_behind (hR : RM R) (hr : r = 0 ∨ r = 1) (hI : SIV B z false k S w G) (hL : SRL B z Y r k S w G) (h : srB B z Φ P k S w G) (hΦe : ∀ v e Y', Φ (.inl e) → (v = 0 ∨ v = 1) → MSt B z (.inl e) Y' → FPB r Y Y' → Q v SHX R Y') (hΦd : ∀ k G Y', Φ (.inr (k, G)) → MSt B z (.inr k) Y' → MNG Y' r G → Y' 364 40 = 0 → FPB r Y Y' → Q 0 SHX R Y') (hPt : ∀ k S w G Y', P true k S w G → SRL B z Y' r k S w G → FPB r Y Y' → Q 1 SHX R Y') (hPf : ∀ k S w G Y', P false k S w G → SRL B z Y' r k S w G → FPB r Y Y' → Q 0 SHX R Y') : Mw (d + 3) 189 [vr 364] SHX R Y 0 0 Q := by
  have hS := hL.1
  have hz := hS.1.2.1
  have hI' := hI
  obtain ⟨hK, hw7, hF, hV, hP⟩ := hI'
  have hl := STK_l hK hw7
  have h7 : G 0 7 + pnd S < 599 := by
    unfold POT at hP
    rw [if_neg (by decide), if_neg fun q => absurd q.1 (by decide)] at hP
    have := (tok_rng (B := B) hz.1 k).2.1
    have := hV.1
    omega
  refine Mw_of mok189 rfl fun _ _ => b2_X12_behindUnit_0 ?_
  rw [ok364]
  refine r_rank (d := d) hR hS ?_
  unfold srB at h
  have rk0 : 0 ≤ rkT (tkd B z k) (tvl B z k) := by
    unfold rkT
    repeat' split
    all_goals decide
  have i4 : rkT (tkd B z k) (tvl B z k) = 4 ↔ opB 2 (tkd B z k) (tvl B z k) = true := by
    refine ⟨fun q => ?_, fun q => by rw [rk_of (by decide) (by decide) q]; decide⟩
    obtain ⟨l, l0, l1, lo⟩ := rk_inv (x := tkd B z k) (v := tvl B z k) (by omega)
    rw [rk_of l0 l1 lo] at q
    rcases l_5 l0 l1 with rfl | rfl | rfl | rfl | rfl
    · exact absurd q (by decide)
    · exact absurd q (by decide)
    · exact lo
    · exact absurd q (by decide)
    · exact absurd q (by decide)
  have go : ¬ (opB 2 (tkd B z k) (tvl B z k) = true ∧ cmpd S = true) → Go (d + 3) 189 Q 13 [vr 364, vi (rkT (tkd B z k) (tvl B z k))] [] SHX R Y 0 0 := fun hn => by
    rw [if_neg hn] at h
    obtain ⟨p1, p2, _, _, _, _, _, p8⟩ := pop_inv (rk := rkT (tkd B z k) (tvl B z k)) S w G hK hF hV.2.2
    exact r_pop (d := d + 1) hR hr rk0 S w G Y hK hw7 hV.2.2 h7 hL fun Y' hL' f => r_59 (d := d) hR hr p1 (by omega) p8 hL' h (fun e Y2 a1 a2 a3 => hΦe 0 e Y2 a1 (Or.inl rfl) a2 (FPB_tr f a3)) (fun Y2 a1 a2 a3 a4 a5 => hΦd _ _ Y2 a1 a2 a3 a4 (FPB_tr f a5)) (fun k S w G Y2 a1 a2 a3 => hPt k S w G Y2 a1 a2 (FPB_tr f a3)) fun k S w G Y2 a1 a2 a3 => hPf k S w G Y2 a1 a2 (FPB_tr f a3)
  by_cases h4 : opB 2 (tkd B z k) (tvl B z k) = true
  · rw [if_pos (i4.2 h4), ok364]
    refine r_compared (d := d + 2) hR hL.2.2.2.1 hl.2 hK hL.2.2.2.2.2 ?_
    by_cases hc : cmpd S = true
    · rw [if_pos ⟨h4, hc⟩] at h
      have e1 : (if cmpd S = true then (1 : Int) else 0) = 1 := if_pos hc
      rw [e1, if_neg (by decide), ok364]
      exact fun _ => r_misplaced (d := d + 1) hS fun Y' g f => hΦe 1 _ Y' h (Or.inr rfl) g (FPB_7 f)
    · have e0 : (if cmpd S = true then (1 : Int) else 0) = 0 := if_neg hc
      rw [e0, if_pos rfl]
      exact fun _ => go fun q => hc q.2
  · rw [if_neg fun q => h4 (i4.1 q)]
    exact go fun q => h4 q.1
end
