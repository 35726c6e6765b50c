/-! THE PARSER, the reference: a formula -/
def PSV (B : Int → Int) (z : Int) (P : PST) : PST := fun b k S w G => P b k S w G ∧ SIV B z b k S w G
def RLR (B : Int → Int) (z r : Int) (res : RSP) (Y : MEM) : Prop := match res with
  | .inl e => MSt B z (.inl e) Y
  | .inr s => MSt B z (.inr s.1) Y ∧ MNG Y r s.2
/-- a formula, and what can't go on behind it -/
def efP (B : Int → Int) (z : Int) (k : Nat) (G : NTW) : RSP := bnd (fmP B z 48 0 0 k G) fun k1 G1 => if opB 2 (tkd B z k1) (tvl B z k1) = true then flt B z k1 2 else .inr (k1, G1)
section
variable {d : Nat} {R X Y : MEM} {B : Int → Int} {z r v w x a b c f n rk : Int} {k : Nat} {s : SNK} {S : SKK} {G : NTW} {Φ : RSP → Prop} {P P' : PST} {Q : RES}
theorem GV_un (h : GV G) (hf : ¬ (G 0 8 = 30 ∨ G 0 4 = 90)) : GV (unG G) := by
  unfold GV at h ⊢
  rw [unG_4, unG_8, show unG G 0 7 = G 0 7 from unG_ne (by decide) (by decide)]
  omega
theorem GV_em (h : GV G) : GV (emG G x) := by
  unfold GV at h ⊢
  rw [emG_7, show emG G x 0 4 = G 0 4 from emG_ne (by decide) (by omega), show emG G x 0 8 = G 0 8 from emG_ne (by decide) (by omega)]
  omega
theorem pnd_c {p : Int × Int} : pnd (p :: S) = (if p.1 ≤ 6 then 1 else 0) + pnd S := rfl
theorem siv_U (hz : 0 ≤ z) (hI : SIV B z true k S w G) (h : srU B z Φ P k S w G) : srU B z Φ (PSV B z P) k S w G := by
  obtain ⟨hK, hw7, hF, hV, hP⟩ := hI
  unfold POT at hP
  rw [if_pos rfl] at hP
  unfold srU at h ⊢
  have u7 : unG G 0 7 = G 0 7 := unG_ne (by decide) (by decide)
  by_cases q2 : (topW S ≤ 3 ∨ 7 ≤ topW S) ∧ tkd B z k = 2 ∧ tvl B z k = 17
  · rw [if_pos q2] at h ⊢
    by_cases hw : w = 7
    · rw [if_pos hw] at h ⊢; exact h
    · rw [if_neg hw] at h ⊢
      have tn := tok_not hz q2.2.1 q2.2.2
      rw [if_neg fun q => q.2 (Or.inl q2.2.1)] at hP
      refine ⟨h, Or.inr ⟨⟨by decide, by decide, Or.inl rfl⟩, Or.inl ⟨Or.inl rfl, by rw [show w + 1 - 1 = w by omega]; exact hK⟩⟩, by omega, hF, hV, ?_⟩
      unfold POT
      rw [if_pos rfl, pnd_c, if_pos (show (3 : Int) ≤ 6 by decide)]
      by_cases hk : tkd B z (k + 1) = 2 ∨ tkd B z (k + 1) = 3
      · rw [if_neg fun q => q.2 hk]
        have := tn.2 hk
        omega
      · rw [if_pos ⟨rfl, hk⟩]
        omega
  · rw [if_neg q2] at h ⊢
    by_cases q3 : tkd B z k = 5 ∧ tvl B z k = 40
    · rw [if_pos q3] at h ⊢
      by_cases hf : (G 0 8 = 30 ∨ G 0 4 = 90) ∨ w = 7
      · rw [if_pos hf] at h ⊢; exact h
      · rw [if_neg hf] at h ⊢
        have ts := tpl_s (B := B) hz (k := k) (by omega)
        refine ⟨h, Or.inr ⟨⟨by decide, by decide, Or.inl rfl⟩, Or.inl ⟨Or.inr rfl, by rw [show w + 1 - 1 = w by omega]; exact hK⟩⟩, by omega, GF_un hF, GV_un hV fun q => hf (Or.inl q), ?_⟩
        unfold POT
        rw [if_pos rfl, pnd_c, if_neg (show ¬ (7 : Int) ≤ 6 by decide), unG_4, u7]
        split at hP <;> split <;> omega
    · rw [if_neg q3] at h ⊢
      by_cases q4 : tkd B z k = 4
      · rw [if_pos q4] at h ⊢
        by_cases hf : G 0 8 = 30 ∨ G 0 4 = 90
        · rw [if_pos hf] at h ⊢; exact h
        · rw [if_neg hf] at h ⊢
          have ts := tpl_s (B := B) hz (k := k) (by omega)
          refine ⟨h, hK, hw7, GF_em (GF_un hF), GV_em (GV_un hV hf), ?_⟩
          unfold POT
          rw [if_neg (by decide), if_neg fun q => absurd q.1 (by decide), emG_7, u7, show emG (unG G) (tvl B z k) 0 4 = unG G 0 4 from emG_ne (by decide) (by omega), unG_4]
          split at hP <;> omega
      · rw [if_neg q4] at h ⊢
        by_cases q5 : tkd B z k = 3
        · rw [if_pos q5] at h ⊢
          by_cases hf : G 0 8 = 30 ∨ G 0 4 = 90
          · rw [if_pos hf] at h ⊢; exact h
          · rw [if_neg hf] at h ⊢
            by_cases hs : stH G (tvl B z k) < 0
            · rw [if_pos hs] at h ⊢; exact h
            · rw [if_neg hs] at h ⊢
              have ts := tpl_s (B := B) hz (k := k) (by omega)
              refine ⟨h, hK, hw7, GF_em (GF_un hF), GV_em (GV_un hV hf), ?_⟩
              unfold POT
              rw [if_neg (by decide), if_neg fun q => absurd q.1 (by decide), emG_7, u7, show emG (unG G) (10000 + stH G (tvl B z k)) 0 4 = unG G 0 4 from emG_ne (by decide) (by omega), unG_4]
              split at hP <;> omega
        · rw [if_neg q5] at h ⊢; exact h
theorem siv_B (hz : 0 ≤ z) (hI : SIV B z false k S w G) (h : srB B z Φ P k S w G) : srB B z Φ (PSV B z P) k S w G := by
  obtain ⟨hK, hw7, hF, hV, hP⟩ := hI
  unfold POT at hP
  rw [if_neg (by decide), if_neg fun q => absurd q.1 (by decide)] at hP
  unfold srB at h ⊢
  by_cases hc : opB 2 (tkd B z k) (tvl B z k) = true ∧ cmpd S = true
  · rw [if_pos hc] at h ⊢; exact h
  · rw [if_neg hc] at h ⊢
    have pi := pop_inv (rk := rkT (tkd B z k) (tvl B z k)) S w G hK hF hV.2.2
    obtain ⟨r1, hr1⟩ : ∃ r1, r1 = popK (rkT (tkd B z k) (tvl B z k)) S w G := ⟨_, rfl⟩
    rw [← hr1] at h pi ⊢
    obtain ⟨S1, w1, G1⟩ := r1
    obtain ⟨p1, p2, p3, p4, p5, p6, p7, p8⟩ := pi
    have p1 : STK S1 w1 := p1
    have p2 : w1 ≤ w := p2
    have p3 : G1 0 7 + pnd S1 = G 0 7 + pnd S := p3
    have p4 : GF G1 := p4
    have p5 : G1 0 4 = G 0 4 := p5
    have p6 : G1 0 8 = G 0 8 := p6
    have p7 : 0 ≤ G1 0 7 := p7
    have p8 : topW S1 < rkT (tkd B z k) (tvl B z k) ∨ 7 ≤ topW S1 := p8
    have hV1 : GV G1 := by
      unfold GV at hV ⊢
      rw [p5, p6]
      exact ⟨hV.1, hV.2.1, p7⟩
    unfold srE at h ⊢
    by_cases h0 : 0 < rkT (tkd B z k) (tvl B z k)
    · rw [if_pos h0] at h ⊢
      obtain ⟨l, l0, l1, lo⟩ := rk_inv h0
      have o1 := (opX_of l0 l1 lo).1
      have rb := rkL_b l0 l1
      have ts := tpl_s (B := B) hz (k := k) (op_no l0 l1 lo)
      have er := rk_of l0 l1 lo
      rw [er] at h p8 ⊢
      have h : P true (k + 1) ((rkL l, 20000 + tvl B z k) :: S1) w1 G1 := h
      show PSV B z P true (k + 1) ((rkL l, 20000 + tvl B z k) :: S1) w1 G1
      refine ⟨h, Or.inr ⟨⟨rb.1.1, by show rkL l ≤ 7; omega, o1⟩, Or.inr ⟨⟨rb.1.2.2, by show rkL l ≠ 7; omega⟩, p8.symm, p1⟩⟩, by omega, p4, hV1, ?_⟩
      unfold POT
      rw [if_pos rfl, pnd_c, if_pos (show rkL l ≤ 6 from rb.1.2.1), p5]
      split <;> omega
    · rw [if_neg h0] at h ⊢
      cases S1 with
      | nil => exact p1.elim
      | cons p S2 =>
        have h : if p.1 = 7 then (if tkd B z k = 5 ∧ tvl B z k = 41 then P false (k + 1) S2 (w1 - 1) G1 else Φ (flt B z k 2)) else Φ (.inr (k, G1)) := h
        show if p.1 = 7 then (if tkd B z k = 5 ∧ tvl B z k = 41 then PSV B z P false (k + 1) S2 (w1 - 1) G1 else Φ (flt B z k 2)) else Φ (.inr (k, G1))
        by_cases hp : p.1 = 7
        · rw [if_pos hp] at h ⊢
          by_cases h41 : tkd B z k = 5 ∧ tvl B z k = 41
          · rw [if_pos h41] at h ⊢
            have ts := tpl_s (B := B) hz (k := k) (by omega)
            refine ⟨h, ?_, by omega, p4, hV1, ?_⟩
            · rcases p1 with ⟨q1, _⟩ | ⟨_, ⟨_, q2⟩ | ⟨q1, _⟩⟩
              · omega
              · exact q2
              · exact absurd hp q1.2
            · unfold POT
              rw [pnd_c, if_neg (by omega)] at p3
              rw [if_neg (by decide), if_neg fun q => absurd q.1 (by decide), show G1 0 4 = G 0 4 from p5]
              omega
          · rw [if_neg h41] at h ⊢; exact h
        · rw [if_neg hp] at h ⊢; exact h
theorem tok_1600 (hz : 0 ≤ z) (h16 : z ≤ 1600) (j : Nat) (hj : 1600 ≤ j) : tkd B z j = 1 := by
  by_cases h : ∀ i, i < j → tkd B z i ≠ 1
  · have h1 := pos_cnt (B := B) hz j h
    obtain ⟨t1, t2, t3, _⟩ := tok_rng (B := B) hz j
    by_cases h4 : tkd B z j = 1
    · exact h4
    · have := (t3 h4).1
      omega
  · obtain ⟨i, hi⟩ := Classical.not_forall.1 h
    obtain ⟨hi1, hi2⟩ := Classical.not_imp.1 hi
    have hi2 : tkd B z i = 1 := Classical.not_not.1 hi2
    have := tok_end_up (B := B) hz hi2 (j - i)
    rw [show i + (j - i) = j by omega] at this
    exact this.1
theorem siv_0 (hF : GF G) (hV : GV G) (hP : 4 * G 0 7 ≤ tpl B z k + 7 * G 0 4) : SIV B z true k [(8, 20000)] 0 G := by
  refine ⟨Or.inl ⟨rfl, rfl, rfl⟩, by decide, hF, hV, ?_⟩
  unfold POT
  rw [if_pos rfl, pnd_c, if_neg (show ¬ (8 : Int) ≤ 6 by decide)]
  have : pnd [] = 0 := rfl
  split <;> omega
theorem rdG_n : ∀ (A : SKK) (G : NTW), rdG A G 0 7 = G 0 7 + (A.length : Int) ∧ rdG A G 0 4 = G 0 4
  | [], G => ⟨by show G 0 7 = G 0 7 + ((0 : Nat) : Int); omega, rfl⟩
  | p :: A, G => by
    have ih := rdG_n A (emG G p.2)
    rw [emG_7, show emG G p.2 0 4 = G 0 4 from emG_ne (by decide) (by omega)] at ih
    rw [len_c]
    show rdG A (emG G p.2) 0 7 = _ ∧ rdG A (emG G p.2) 0 4 = _
    exact ⟨by rw [ih.1]; omega, ih.2⟩
theorem pnd_app : ∀ (A : SKK), (∀ p ∈ A, p.1 ≤ 6) → pnd (A ++ S) = (A.length : Int) + pnd S
  | [], _ => by show pnd S = ((0 : Nat) : Int) + pnd S; omega
  | p :: A, h => by
    have ih := pnd_app A fun q hq => h q (List.mem_cons_of_mem _ hq)
    rw [len_c, List.cons_append, pnd_c, if_pos (h p (List.mem_cons_self ..)), ih]
    omega
/-- how much a formula adds, at most -/
theorem fm_pot {s : Nat × NTW} (hz : 0 ≤ z) (h16 : z ≤ 1600) (hF : GF G) (hV : GV G) (hP : 4 * G 0 7 ≤ tpl B z k + 7 * G 0 4) (hf : fmP B z 48 0 0 k G = .inr s) : 4 * s.2 0 7 + 3 ≤ tpl B z s.1 + 7 * s.2 0 4 := by
  obtain ⟨C, hC⟩ : ∃ C : Prop, C = (4 * s.2 0 7 + 3 ≤ tpl B z s.1 + 7 * s.2 0 4) := ⟨_, rfl⟩
  rw [← hC]
  have key : ∀ k' S' w' G', (fun (b : Bool) k' S' w' G' => SIV B z b k' S' w' G' → C : PST) true k' S' w' G' → SIV B z true k' S' w' G' → C := fun _ _ _ _ h => h
  refine sr_fm (B := B) (z := z) (Φ := fun _ => C) (P := fun b k' S' w' G' => SIV B z b k' S' w' G' → C) (fun j hj => tok_1600 hz h16 j hj) (fun k' S' w' G' h => ?_) (fun k' S' w' G' h => ?_) 48 0 0 k G [(8, 20000)] (by decide) (by decide) (by decide) (by decide) (by decide) ⟨Or.inr (by show (7 : Int) ≤ 8; decide), fun q => absurd q (by decide)⟩ ?_ (siv_0 hF hV hP)
  · intro hI
    have h := siv_U hz hI h
    unfold srU at h
    split at h
    · split at h
      · exact h
      · exact h.1 h.2
    · split at h
      · split at h
        · exact h
        · exact h.1 h.2
      · split at h
        · split at h
          · exact h
          · exact h.1 h.2
        · split at h
          · split at h
            · exact h
            · split at h
              · exact h
              · exact h.1 h.2
          · exact h
  · intro hI
    have hI' := hI
    obtain ⟨hK, hw7, hF', hV', _⟩ := hI'
    have pi := (pop_inv (rk := rkT (tkd B z k') (tvl B z k')) S' w' G' hK hF' hV'.2.2).1
    have h := siv_B hz hI h
    unfold srB at h
    split at h
    · exact h
    · obtain ⟨r1, hr1⟩ : ∃ r1, r1 = popK (rkT (tkd B z k') (tvl B z k')) S' w' G' := ⟨_, rfl⟩
      rw [← hr1] at h pi
      obtain ⟨S1, w1, G1⟩ := r1
      unfold srE at h
      split at h
      · exact h.1 h.2
      · cases S1 with
        | nil => exact pi.elim
        | cons p S2 =>
          have h : if p.1 = 7 then (if tkd B z k' = 5 ∧ tvl B z k' = 41 then PSV B z (fun b k' S' w' G' => SIV B z b k' S' w' G' → C) false (k' + 1) S2 (w1 - 1) G1 else C) else C := h
          split at h
          · split at h
            · exact h.1 h.2
            · exact h
          · exact h
  · rw [hf]
    intro A w Gp hG hw hA hN hI
    rw [hC]
    obtain ⟨_, _, _, _, hP⟩ := hI
    unfold POT at hP
    have n1 := rdG_n A Gp
    rw [hG] at n1
    rw [if_neg (by decide), if_neg fun q => absurd q.1 (by decide), pnd_app A fun p hp => (hA p hp).2, pnd_c, if_neg (show ¬ (8 : Int) ≤ 6 by decide)] at hP
    have : pnd [] = 0 := rfl
    omega
theorem e_bad {e : Int × Int} {x : Int} (hS : MSt B z (.inl e) Y) (hq : Q 0 SHX R Y) : Go (d + 1) 184 Q 12 [vr 364, vi x] [] SHX R Y 0 0 := by
  refine b_X12_e_12 ?_
  rw [ok364]
  refine r_isGood (d := d) hS (fun e he => ?_) fun k he => nomatch he
  rw [if_pos rfl]
  exact fun _ => hq
theorem r_e (hR : RM R) (hr : r = 0 ∨ r = 1) (hS : MSt B z (.inr k) Y) (hG : MNG Y r G) (hF : GF G) (hV : GV G) (hP : 4 * G 0 7 ≤ tpl B z k + 7 * G 0 4) (h41 : Y 364 41 = G 0 8) (hq : ∀ Y', RLR B z r (efP B z k G) Y' → FPB r Y Y' → Q 0 SHX R Y') : Mw (d + 5) 184 [vr 364] SHX R Y 0 0 Q := by
  have hz := hS.1.2.1
  have hE := tok_1600 (B := B) hz.1 hz.2
  obtain ⟨PL, hPL⟩ : ∃ PL : PST, PL = fun b k' S' w' G' => SIV B z b k' S' w' G' → ∀ Y', SRL B z Y' r k' S' w' G' → FPB r Y Y' → Go (d + 5) 184 Q 12 [vr 364, vi (if b = true then 1 else 0)] [] SHX R Y' 0 0 := ⟨_, rfl⟩
  have PT : ∀ k' S' w' G', PL true k' S' w' G' = (SIV B z true k' S' w' G' → ∀ Y', SRL B z Y' r k' S' w' G' → FPB r Y Y' → Go (d + 5) 184 Q 12 [vr 364, vi 1] [] SHX R Y' 0 0) := fun _ _ _ _ => by rw [hPL]; rfl
  have PF : ∀ k' S' w' G', PL false k' S' w' G' = (SIV B z false k' S' w' G' → ∀ Y', SRL B z Y' r k' S' w' G' → FPB r Y Y' → Go (d + 5) 184 Q 12 [vr 364, vi 0] [] SHX R Y' 0 0) := fun _ _ _ _ => by rw [hPL]; rfl
  have bad : ∀ (e : Int × Int) (x : Int) (Y' : MEM), (.inl e : RSP) = efP B z k G → MSt B z (.inl e) Y' → FPB r Y Y' → Go (d + 5) 184 Q 12 [vr 364, vi x] [] SHX R Y' 0 0 := fun e x Y' he h f => e_bad (d := d + 4) h (hq Y' (by rw [← he]; exact h) f)
  have hU : ∀ k' S' w' G', srU B z (fun q => q = efP B z k G) PL k' S' w' G' → PL true k' S' w' G' := fun k' S' w' G' h => by
    rw [PT]
    intro hI Y1 hL f1
    have hl := STK_l hI.1 hI.2.1
    refine b_X12_e_12 ?_
    rw [ok364]
    refine r_isGood (d := d + 4) hL.1 (fun e he => nomatch he) fun k1 _ => ?_
    rw [if_neg (by decide), ok364, if_pos (by rw [hL.2.2.2.1]; omega), if_neg (by decide), ok364]
    intro _
    refine r_unit (d := d) hR hr hI hL (siv_U hz.1 hI h) (fun e Y2 g1 g2 g3 _ => bad e 1 Y2 g1 g2 (FPB_tr f1 g3)) (fun k2 S2 w2 G2 Y2 g1 g2 g3 _ => ?_) fun k2 S2 w2 G2 Y2 g1 g2 g3 _ => ?_
    · have g := g1.1
      rw [PT] at g
      exact g g1.2 Y2 g2 (FPB_tr f1 g3)
    · have g := g1.1
      rw [PF] at g
      exact g g1.2 Y2 g2 (FPB_tr f1 g3)
  have hB : ∀ k' S' w' G', srB B z (fun q => q = efP B z k G) PL k' S' w' G' → PL false k' S' w' G' := fun k' S' w' G' h => by
    rw [PF]
    intro hI Y1 hL f1
    have hl := STK_l hI.1 hI.2.1
    refine b_X12_e_12 ?_
    rw [ok364]
    refine r_isGood (d := d + 4) hL.1 (fun e he => nomatch he) fun k1 _ => ?_
    rw [if_neg (by decide), ok364, if_pos (by rw [hL.2.2.2.1]; omega), if_pos rfl, ok364]
    intro _
    refine r_behind (d := d + 1) hR hr hI hL (siv_B hz.1 hI h) (fun v e Y2 g1 _ g2 g3 _ => bad e v Y2 g1 g2 (FPB_tr f1 g3)) (fun k2 G2 Y2 g1 g2 g3 g4 g5 _ => ?_) (fun k2 S2 w2 G2 Y2 g1 g2 g3 _ => ?_) fun k2 S2 w2 G2 Y2 g1 g2 g3 _ => ?_
    · refine b_X12_e_12 ?_
      rw [ok364]
      refine r_isGood (d := d + 4) g2 (fun e he => nomatch he) fun k1 _ => ?_
      rw [if_neg (by decide), ok364, if_neg (by rw [g4]; decide)]
      exact fun _ => hq Y2 (by rw [← g1]; exact ⟨g2, g3⟩) (FPB_tr f1 g5)
    · have g := g1.1
      rw [PT] at g
      exact g g1.2 Y2 g2 (FPB_tr f1 g3)
    · have g := g1.1
      rw [PF] at g
      exact g g1.2 Y2 g2 (FPB_tr f1 g3)
  have main : PL true k [(8, 20000)] 0 G := by
    refine sr_fm (Φ := fun q => q = efP B z k G) hE hU hB 48 0 0 k G _ (by decide) (by decide) (by decide) (by decide) (by decide) ⟨Or.inr (by show (7 : Int) ≤ 8; decide), fun q => absurd q (by decide)⟩ ?_
    have ee : efP B z k G = bnd (fmP B z 48 0 0 k G) fun k1 G1 => if opB 2 (tkd B z k1) (tvl B z k1) = true then flt B z k1 2 else .inr (k1, G1) := rfl
    cases hf : fmP B z 48 0 0 k G with
    | inl e =>
      rw [hf] at ee
      exact ee.symm
    | inr s =>
      rw [hf] at ee
      have ee : efP B z k G = if opB 2 (tkd B z s.1) (tvl B z s.1) = true then flt B z s.1 2 else .inr (s.1, s.2) := ee
      intro A w Gp hG hw hA hN
      have hA' : ∀ p ∈ A, (0 : Int) ≤ p.1 ∧ p.1 ≤ 6 := fun p hp => by
        have h := hA p hp
        rw [show rlL 0 = 1 by decide] at h
        omega
      refine hB _ _ _ _ ?_
      unfold srB
      by_cases ho : opB 2 (tkd B z s.1) (tvl B z s.1) = true
      · rw [if_pos ⟨ho, cmpd_app (hN.2 (by decide) ho)⟩]
        rw [if_pos ho] at ee
        exact ee.symm
      · rw [if_neg fun q => ho q.1]
        rw [if_neg ho] at ee
        have r0 : rkT (tkd B z s.1) (tvl B z s.1) = 0 := rk_0 (hN.1 0 (by decide) (by decide) (by decide)) (hN.1 1 (by decide) (by decide) (by decide)) ho (hN.1 3 (by decide) (by decide) (by decide)) (hN.1 4 (by decide) (by decide) (by decide))
        rw [r0, pop_rd (S := [(8, 20000)]) (Or.inr (by show (7 : Int) ≤ 8; decide)) A w Gp hA', hG, hw]
        unfold srE
        rw [r0, if_neg (by decide)]
        show (if (8 : Int) = 7 then _ else _)
        rw [if_neg (by decide)]
        exact ee.symm
  rw [PT] at main
  have hSIV : SIV B z true k [(8, 20000)] 0 G := siv_0 hF hV hP
  refine Mw_of mok184 rfl fun _ _ => b_X12_e_0 ?_
  rw [ok364, ok364, ok364]
  have hS1 : MSt B z (.inr k) (stm (stm Y 364 40 0) 364 39 0) := MSt_of hS (fun j _ _ => by simp (disch := omega) only [stm_neq]) (by simp (disch := omega) only [stm_ne])
  have hG1 : MNG (stm (stm Y 364 40 0) 364 39 0) r G := MNG_of hG (fun q _ _ => by simp (disch := omega) only [stm_ne]) (by simp (disch := omega) only [stm_neq]) (by simp (disch := omega) only [stm_neq])
  have f1 : FPB r Y (stm (stm Y 364 40 0) 364 39 0) := FPB_st (FPB_st FPB_self (Or.inl ⟨rfl, Or.inr (by decide)⟩)) (Or.inl ⟨rfl, Or.inr (by decide)⟩)
  refine r_push (d := d + 4) (S := []) (x := 20000) hR (by rw [stm_neq (by omega), stm_hit]; rfl) (by decide) trivial (fun Y' hM' h40' hU' hj => ?_) (by decide)
  refine main hSIV Y' ⟨MSt_U hS1 hU', MNG_U hG1 hU', by rw [hj 39 (by decide), stm_hit], h40', ?_, hM'⟩ (FPB_tr f1 (FPB_U hU'))
  rw [hj 41 (by decide)]
  simp (disch := omega) only [stm_neq]
  exact h41
/-- the same for what counts -/
theorem MNG_ag (h : MNG X r G) (e7 : Y 364 37 = X 364 37) (e8 : Y 364 38 = X 364 38) (er : ∀ q, (367 ≤ q ∧ q ≤ 372) ∨ q = 384 → Y q r = X q r) (eT : ∀ q t, q = 373 ∨ q = 374 ∨ q = 379 ∨ q = 380 ∨ q = 385 → 0 ≤ t → t < G 0 0 → Y q (10 * r + t) = X q (10 * r + t)) (eS : ∀ t, 0 ≤ t → t < G 0 1 → Y 375 (3 * r + t) = X 375 (3 * r + t)) (eW : ∀ q t, 376 ≤ q → q ≤ 378 → 0 ≤ t → t < G 0 2 → Y q (16 * r + t) = X q (16 * r + t)) (eC : ∀ q t, (381 ≤ q ∧ q ≤ 383) ∨ q = 386 → 0 ≤ t → t < G 0 3 → Y q (6 * r + t) = X q (6 * r + t)) (eK : ∀ q t, q = 387 ∨ q = 388 → 0 ≤ t → t < G 0 7 → Y q (600 * r + t) = X q (600 * r + t)) : MNG Y r G := by
  obtain ⟨⟨a0, a1, a2, a3, a4, a5, a6, a7, a8⟩, bT, bS, bW, bC, bK⟩ := h
  refine ⟨⟨e7.trans a0, ?_, ?_, ?_, ?_, ?_, ?_, ?_, e8.trans a8⟩, fun t t0 t1 => ?_, fun s s0 s1 => ?_, fun w w0 w1 => ?_, fun c c0 c1 => ?_, fun i i0 i1 => ?_⟩
  · rw [er _ (by decide)]; exact a1
  · rw [er _ (by decide)]; exact a2
  · rw [er _ (by decide)]; exact a3
  · rw [er _ (by decide)]; exact a4
  · rw [er _ (by decide)]; exact a5
  · rw [er _ (by decide)]; exact a6
  · rw [er _ (by decide)]; exact a7
  · rw [eT _ t (by decide) t0 t1, eT _ t (by decide) t0 t1, eT _ t (by decide) t0 t1, eT _ t (by decide) t0 t1, eT _ t (by decide) t0 t1]; exact bT t t0 t1
  · rw [eS s s0 s1]; exact bS s s0 s1
  · rw [eW _ w (by decide) (by decide) w0 w1, eW _ w (by decide) (by decide) w0 w1, eW _ w (by decide) (by decide) w0 w1]; exact bW w w0 w1
  · rw [eC _ c (by decide) c0 c1, eC _ c (by decide) c0 c1, eC _ c (by decide) c0 c1, eC _ c (by decide) c0 c1]; exact bC c c0 c1
  · rw [eK _ i (by decide) i0 i1, eK _ i (by decide) i0 i1]; exact bK i i0 i1
/-- the net told otherwise, where the bank doesn't tell it -/
theorem MNG_g {G' : NTW} (h : MNG X r G) (e0 : ∀ j, j ≠ 8 → G' 0 j = G 0 j) (e1 : ∀ i j, 1 ≤ i → ¬ (i = 11 ∧ G 0 3 ≤ j) → G' i j = G i j) : MNG X r G' := by
  obtain ⟨⟨a0, a1, a2, a3, a4, a5, a6, a7, a8⟩, bT, bS, bW, bC, bK⟩ := h
  refine ⟨⟨a0, ?_, ?_, ?_, ?_, ?_, ?_, ?_, ?_⟩, fun t t0 t1 => ?_, fun s s0 s1 => ?_, fun w w0 w1 => ?_, fun c c0 c1 => ?_, fun i i0 i1 => ?_⟩
  · rw [e0 _ (by decide)]; exact a1
  · rw [e0 _ (by decide)]; exact a2
  · rw [e0 _ (by decide)]; exact a3
  · rw [e0 _ (by decide)]; exact a4
  · rw [e0 _ (by decide)]; exact a5
  · rw [e0 _ (by decide)]; exact a6
  · rw [e0 _ (by decide)]; exact a7
  · rw [e0 _ (by decide)]; exact a8
  · rw [e0 _ (by decide)] at t1
    rw [e1 1 t (by decide) (by omega), e1 2 t (by decide) (by omega), e1 3 t (by decide) (by omega), e1 4 t (by decide) (by omega), e1 10 t (by decide) (by omega)]
    exact bT t t0 t1
  · rw [e0 _ (by decide)] at s1
    rw [e1 5 s (by decide) (by omega)]; exact bS s s0 s1
  · rw [e0 _ (by decide)] at w1
    rw [e1 6 w (by decide) (by omega), e1 7 w (by decide) (by omega), e1 8 w (by decide) (by omega)]; exact bW w w0 w1
  · rw [e0 _ (by decide)] at c1
    rw [e1 9 c (by decide) (by omega), e1 13 c (by decide) (by omega), e1 13 (c - 1) (by decide) (by omega), e1 11 c (by decide) (by omega)]; exact bC c c0 c1
  · rw [e0 _ (by decide)] at i1
    rw [e1 12 i (by decide) (by omega), e0 1 (by decide)]; exact bK i i0 i1
theorem efP_inr {s : Nat × NTW} (h : efP B z k G = .inr s) : fmP B z 48 0 0 k G = .inr s := by
  unfold efP at h
  obtain ⟨k1, G1, h1, h2⟩ := bnd_inr h
  rw [h1]
  split at h2
  · exact absurd h2 flt_no
  · exact h2
/-- the formula of a claim -/
def BKR (r c q j : Int) : Prop := BKS r q j ∨ ((q = 382 ∨ q = 383) ∧ j = 6 * r + c)
def FPQ (r c : Int) (X Y : MEM) : Prop := ∀ q j, ¬ BKR r c q j → Y q j = X q j
theorem FPQ_B (h : FPB r X Y) : FPQ r c X Y := fun q j hn => h q j fun g => hn (Or.inl g)
theorem FPQ_tr {W : MEM} (h : FPQ r c X Y) (g : FPQ r c Y W) : FPQ r c X W := fun q j hn => (g q j hn).trans (h q j hn)
theorem FPQ_st {p i : Int} (h : FPQ r c X Y) (hb : BKR r c p i) : FPQ r c X (stm Y p i v) := fun q j hn => by
  rw [stm_neq (fun e => hn (by rw [e.1, e.2]; exact hb))]
  exact h q j hn
theorem r_rule (hR : RM R) (hr : r = 0 ∨ r = 1) (hS : MSt B z (.inr k) Y) (hG : MNG Y r G) (hF : GF G) (hV : GV (stm G 0 8 0)) (hP : 4 * G 0 7 ≤ tpl B z k + 7 * G 0 4) (c0 : G 0 3 ≤ c) (c00 : 0 ≤ c) (c1 : c < 6) (hq : ∀ Y', RLR B z r (efP B z k (stm G 0 8 0)) Y' → FPQ r c Y Y' → (∀ s, efP B z k (stm G 0 8 0) = .inr s → Y' 382 (6 * r + c) = 600 * r + G 0 7 ∧ Y' 383 (6 * r + c) = 600 * r + s.2 0 7) → Q 0 SHX R Y') : Mw (d + 6) 181 [vr 364, vi c] SHX R Y 0 0 Q := by
  have hG' := hG
  obtain ⟨⟨g37, _, _, _, _, _, _, _, g38⟩, _⟩ := hG'
  have e8 : ∀ i j, ¬ (i = 0 ∧ j = 8) → stm G 0 8 0 i j = G i j := fun i j h => stm_neq h
  have hF8 : GF (stm G 0 8 0) := GF_same hF (e8 _ _ (by omega)) (e8 _ _ (by omega)) (funext fun j => e8 _ _ (by omega)) (funext fun j => e8 _ _ (by omega))
  refine Mw_of mok181 rfl fun _ _ => b_X12_readRule_0 ?_
  simp (disch := omega) only [ok364, fr26 hR, ak382, stm_neq, g37, g38, imul_of, iadd_of]
  refine ⟨by omega, by omega, ?_⟩
  have hS1 : MSt B z (.inr k) (stm (stm Y 364 41 0) 382 (6 * r + c) (600 * r + G 0 7)) := MSt_of hS (fun j _ _ => by simp (disch := omega) only [stm_neq]) (by simp (disch := omega) only [stm_ne])
  have hG1 : MNG (stm (stm Y 364 41 0) 382 (6 * r + c) (600 * r + G 0 7)) r (stm G 0 8 0) := by
    refine MNG_g (G := G) (MNG_ag hG ?_ ?_ (fun q hq => ?_) (fun q t hq t0 t1 => ?_) (fun t t0 t1 => ?_) (fun q t q0 q1 t0 t1 => ?_) (fun q t hq t0 t1 => ?_) (fun q t hq t0 t1 => ?_)) (fun j hj => e8 0 j (by omega)) fun i j hi _ => e8 i j (by omega)
    all_goals simp (disch := omega) only [stm_neq]
  refine r_e (d := d) hR hr hS1 hG1 hF8 hV ?_ ?_ fun Y2 h2 f2 => ?_
  · rw [e8 0 7 (by omega), e8 0 4 (by omega)]; exact hP
  · simp (disch := omega) only [stm_neq, stm_hit]
  have g2 : Y2 364 37 = r := by
    rw [f2 364 37 (fun q => by unfold BKS at q; omega)]
    simp (disch := omega) only [stm_neq]
    exact g37
  have f82 : Y2 382 (6 * r + c) = 600 * r + G 0 7 := by
    rw [f2 382 _ (fun q => by unfold BKS at q; omega), stm_hit]
  simp (disch := omega) only [ok364, fr27 hR, ak383, g2, imul_of, iadd_of]
  refine ⟨by omega, by omega, hq _ ?_ ?_ fun s hs => ⟨?_, ?_⟩⟩
  · cases he : efP B z k (stm G 0 8 0) with
    | inl e =>
      rw [he] at h2
      have h2 : MSt B z (.inl e) Y2 := h2
      exact MSt_of h2 (fun j _ _ => by simp (disch := omega) only [stm_neq]) (by simp (disch := omega) only [stm_ne])
    | inr s =>
      rw [he] at h2
      have hgr := GR_fm (B := B) (z := z) 48 0 0 k _ s.1 s.2 (by rw [e8 0 1 (by omega)]; exact hF.2.1.2) (efP_inr he)
      have e3 : s.2 0 3 = G 0 3 := by
        rw [hgr.2.2.2.1 0 3 (by omega) (by omega)]
        exact e8 _ _ (by omega)
      refine ⟨MSt_of h2.1 (fun j _ _ => by simp (disch := omega) only [stm_neq]) (by simp (disch := omega) only [stm_ne]), MNG_ag h2.2 ?_ ?_ (fun q hq => ?_) (fun q t hq t0 t1 => ?_) (fun t t0 t1 => ?_) (fun q t q0 q1 t0 t1 => ?_) (fun q t hq t0 t1 => ?_) (fun q t hq t0 t1 => ?_)⟩
      all_goals simp (disch := omega) only [stm_neq]
  · exact FPQ_st (FPQ_tr (FPQ_st (FPQ_st (fun _ _ _ => rfl) (Or.inl (Or.inl ⟨rfl, Or.inr (by decide)⟩))) (Or.inr ⟨Or.inl rfl, rfl⟩)) (FPQ_B f2)) (Or.inr ⟨Or.inr rfl, rfl⟩)
  · rw [stm_neq (by omega)]; exact f82
  · rw [hs] at h2
    rw [stm_hit]
    exact h2.2.1.2.2.2.2.2.2.2.2
end
