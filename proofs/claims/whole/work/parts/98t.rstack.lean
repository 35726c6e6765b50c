/-! THE PARSER, the reference: its stack -/
def sgX (x : Int) : Int := if x = 20017 then 126 else if x = 20016 then 38 else if x = 20015 then 124 else x - 20000
def OPX (x : Int) : Prop := x = 20017 ∨ x = 20016 ∨ x = 20015 ∨ x = 20060 ∨ x = 20062 ∨ x = 20061 ∨ x = 20043 ∨ x = 20045 ∨ x = 20042 ∨ x = 20047 ∨ x = 20037
def SM (Y : MEM) : SKK → Prop
  | [] => True
  | p :: S => Y 389 (S.length : Int) = p.1 ∧ Y 390 (S.length : Int) = sgX p.2 ∧ SM Y S
/-- the stack is in order -/
def STK : SKK → Int → Prop
  | [], _ => False
  | p :: S, w => (p.1 = 8 ∧ S = [] ∧ w = 0) ∨ ((1 ≤ p.1 ∧ p.1 ≤ 7 ∧ OPX p.2) ∧ (((p.1 = 3 ∨ p.1 = 7) ∧ STK S (w - 1)) ∨ ((p.1 ≠ 3 ∧ p.1 ≠ 7) ∧ (7 ≤ topW S ∨ topW S < p.1) ∧ STK S w)))
def pnd : SKK → Int
  | [] => 0
  | p :: S => (if p.1 ≤ 6 then 1 else 0) + pnd S
/-- what a formula never changes; what it counts -/
def GF (G : NTW) : Prop := (0 ≤ G 0 0 ∧ G 0 0 ≤ 10) ∧ (0 ≤ G 0 1 ∧ G 0 1 ≤ 3) ∧ (∀ s, 0 ≤ s → s < G 0 1 → 0 ≤ G 5 s ∧ G 5 s < G 0 0) ∧ (∀ t u, 0 ≤ t → t < G 0 0 → 0 ≤ u → u < G 0 0 → G 10 t = G 10 u → t = u) ∧ ∀ t, 0 ≤ t → t < G 0 0 → VWd (G 10 t)
def GV (G : NTW) : Prop := (0 ≤ G 0 4 ∧ G 0 4 ≤ 90) ∧ (0 ≤ G 0 8 ∧ G 0 8 ≤ 30) ∧ 0 ≤ G 0 7
def POT (B : Int → Int) (z : Int) (b : Bool) (k : Nat) (S : SKK) (G : NTW) : Prop := 4 * (G 0 7 + pnd S) + (if b = true then 0 else 3) ≤ tpl B z k + 7 * G 0 4 + (if b = true ∧ ¬ (tkd B z k = 2 ∨ tkd B z k = 3) then 1 else 0)
def SIV (B : Int → Int) (z : Int) (b : Bool) (k : Nat) (S : SKK) (w : Int) (G : NTW) : Prop := STK S w ∧ w ≤ 7 ∧ GF G ∧ GV G ∧ POT B z b k S G
def FME (r : Int) (Y Y' : MEM) : Prop := (∀ j, j ≠ 38 → Y' 364 j = Y 364 j) ∧ (∀ q, q ≠ 364 → q ≠ 387 → q ≠ 388 → Y' q = Y q) ∧ FPB r Y Y'
section
variable {d : Nat} {R X Y : MEM} {B : Int → Int} {z r v w x a b c f n : Int} {k : Nat} {s : SNK} {S : SKK} {G : NTW} {Q : RES}
theorem op_sg (h : OPX x) : codeOK x (sgX x) 0 n := by
  unfold codeOK sgX
  rcases h with h | h | h | h | h | h | h | h | h | h | h <;> subst h
  · exact Or.inr (Or.inr (Or.inl ⟨by decide, rfl⟩))
  · exact Or.inr (Or.inr (Or.inr (Or.inl ⟨by decide, rfl⟩)))
  · exact Or.inr (Or.inr (Or.inr (Or.inr (Or.inl ⟨by decide, rfl⟩))))
  all_goals exact Or.inr (Or.inr (Or.inr (Or.inr (Or.inr ⟨by decide, by decide⟩))))
theorem pnd_0 : ∀ S : SKK, 0 ≤ pnd S
  | [] => Int.le_refl _
  | p :: S => by
    have := pnd_0 S
    show 0 ≤ (if p.1 ≤ 6 then (1 : Int) else 0) + pnd S
    split <;> omega
theorem STK_b : ∀ (S : SKK) (w : Int), STK S w → (0 ≤ w ∧ (S.length : Int) ≤ 7 * w + (if 7 ≤ topW S then 1 else topW S + 1)) ∧ (1 ≤ topW S ∧ topW S ≤ 8)
  | [], w, h => h.elim
  | p :: S, w, h => by
    have et : topW (p :: S) = p.1 := rfl
    have el : ((p :: S).length : Int) = (S.length : Int) + 1 := by rw [List.length_cons]; omega
    rw [et, el]
    rcases h with ⟨h1, h2, h3⟩ | ⟨h1, ⟨h2, h3⟩ | ⟨h2, h3, h4⟩⟩
    · subst h2
      rw [if_pos (by omega)]
      have : (([] : SKK).length : Int) = 0 := rfl
      omega
    · have ih := STK_b S (w - 1) h3
      have : (S.length : Int) ≤ 7 * (w - 1) + 7 := by
        have := ih.1.2
        split at this <;> omega
      split <;> omega
    · have ih := STK_b S w h4
      rw [if_neg (by omega)]
      have : (S.length : Int) ≤ 7 * w + p.1 := by
        have := ih.1.2
        split at this <;> omega
      omega
theorem STK_l (h : STK S w) (h7 : w ≤ 7) : 1 ≤ (S.length : Int) ∧ (S.length : Int) ≤ 56 := by
  refine ⟨?_, ?_⟩
  · cases S with
    | nil => exact h.elim
    | cons p S => rw [List.length_cons]; omega
  · have ih := STK_b S w h
    have := ih.1.2
    split at this <;> omega
theorem SM_of : ∀ S : SKK, SM X S → (∀ i, 0 ≤ i → i < (S.length : Int) → Y 389 i = X 389 i ∧ Y 390 i = X 390 i) → SM Y S
  | [], _, _ => trivial
  | p :: S, h, e => by
    have el : ((p :: S).length : Int) = (S.length : Int) + 1 := by rw [List.length_cons]; omega
    have e0 := e (S.length : Int) (by omega) (by omega)
    refine ⟨by rw [e0.1]; exact h.1, by rw [e0.2]; exact h.2.1, SM_of S h.2.2 fun i i0 i1 => e i i0 (by omega)⟩
theorem MSt_E (h : MSt B z s X) (f : FME r X Y) : MSt B z s Y := MSt_of h (fun j j0 j1 => f.1 j (by omega)) (f.2.1 366 (by decide) (by decide) (by decide))
theorem SM_E (h : SM X S) (f : FME r X Y) : SM Y S := SM_of S h fun i _ _ => by rw [f.2.1 389 (by decide) (by decide) (by decide), f.2.1 390 (by decide) (by decide) (by decide)]; exact ⟨rfl, rfl⟩
theorem MNG_em (hr : r = 0 ∨ r = 1) (h : MNG X r G) (h7 : 0 ≤ G 0 7 ∧ G 0 7 < 600) (hx : codeOK x c n (G 0 1)) : MNG (stm (stm (stm X 387 (600 * r + G 0 7) c) 388 (600 * r + G 0 7) n) 364 38 (600 * r + G 0 7 + 1)) r (emG G x) := by
  obtain ⟨⟨a0, a1, a2, a3, a4, a5, a6, a7, a8⟩, bT, bS, bW, bC, bK⟩ := h
  have e : ∀ i j, ¬ (i = 0 ∧ j = 7) → i ≠ 12 → emG G x i j = G i j := fun i j h1 h2 => emG_ne h1 (by omega)
  refine ⟨⟨?_, ?_, ?_, ?_, ?_, ?_, ?_, ?_, ?_⟩, fun t t0 t1 => ?_, fun s s0 s1 => ?_, fun w w0 w1 => ?_, fun c c0 c1 => ?_, fun i i0 i1 => ?_⟩
  · simp (disch := omega) only [stm_neq]; exact a0
  · rw [e 0 0 (by omega) (by decide)]; simp (disch := omega) only [stm_neq]; exact a1
  · rw [e 0 1 (by omega) (by decide)]; simp (disch := omega) only [stm_neq]; exact a2
  · rw [e 0 2 (by omega) (by decide)]; simp (disch := omega) only [stm_neq]; exact a3
  · rw [e 0 3 (by omega) (by decide)]; simp (disch := omega) only [stm_neq]; exact a4
  · rw [e 0 4 (by omega) (by decide)]; simp (disch := omega) only [stm_neq]; exact a5
  · rw [e 0 5 (by omega) (by decide)]; simp (disch := omega) only [stm_neq]; exact a6
  · rw [e 0 6 (by omega) (by decide)]; simp (disch := omega) only [stm_neq]; exact a7
  · rw [emG_7, stm_hit]; omega
  · rw [e 0 0 (by omega) (by decide)] at t1
    rw [e 1 t (by omega) (by decide), e 2 t (by omega) (by decide), e 3 t (by omega) (by decide), e 4 t (by omega) (by decide), e 10 t (by omega) (by decide)]
    simp (disch := omega) only [stm_neq]
    exact bT t t0 t1
  · rw [e 0 1 (by omega) (by decide)] at s1
    rw [e 5 s (by omega) (by decide)]
    simp (disch := omega) only [stm_neq]
    exact bS s s0 s1
  · rw [e 0 2 (by omega) (by decide)] at w1
    rw [e 6 w (by omega) (by decide), e 7 w (by omega) (by decide), e 8 w (by omega) (by decide)]
    simp (disch := omega) only [stm_neq]
    exact bW w w0 w1
  · rw [e 0 3 (by omega) (by decide)] at c1
    rw [e 9 c (by omega) (by decide), e 13 c (by omega) (by decide), e 13 (c - 1) (by omega) (by decide), e 11 c (by omega) (by decide)]
    simp (disch := omega) only [stm_neq]
    exact bC c c0 c1
  · rw [emG_7] at i1
    rw [e 0 1 (by omega) (by decide)]
    by_cases hi : i = G 0 7
    · rw [hi, emG_12]
      simp (disch := omega) only [stm_neq, stm_hit]
      exact hx
    · rw [emG_ne (by omega) (by omega)]
      simp (disch := omega) only [stm_neq]
      exact bK i i0 (by omega)
theorem MNG_un (h : MNG X r G) (u : Int) : MNG (stm (stm X 371 r (G 0 4 + 1)) 364 41 u) r (unG G) := by
  obtain ⟨⟨a0, a1, a2, a3, a4, a5, a6, a7, a8⟩, bT, bS, bW, bC, bK⟩ := h
  have e : ∀ i j, ¬ (i = 0 ∧ j = 4) → ¬ (i = 0 ∧ j = 8) → unG G i j = G i j := fun i j h1 h2 => unG_ne h1 h2
  refine ⟨⟨?_, ?_, ?_, ?_, ?_, ?_, ?_, ?_, ?_⟩, fun t t0 t1 => ?_, fun s s0 s1 => ?_, fun w w0 w1 => ?_, fun c c0 c1 => ?_, fun i i0 i1 => ?_⟩
  · simp (disch := omega) only [stm_neq]; exact a0
  · rw [e 0 0 (by omega) (by omega)]; simp (disch := omega) only [stm_neq]; exact a1
  · rw [e 0 1 (by omega) (by omega)]; simp (disch := omega) only [stm_neq]; exact a2
  · rw [e 0 2 (by omega) (by omega)]; simp (disch := omega) only [stm_neq]; exact a3
  · rw [e 0 3 (by omega) (by omega)]; simp (disch := omega) only [stm_neq]; exact a4
  · rw [unG_4]; simp (disch := omega) only [stm_neq, stm_hit]
  · rw [e 0 5 (by omega) (by omega)]; simp (disch := omega) only [stm_neq]; exact a6
  · rw [e 0 6 (by omega) (by omega)]; simp (disch := omega) only [stm_neq]; exact a7
  · rw [e 0 7 (by omega) (by omega)]; simp (disch := omega) only [stm_neq]; exact a8
  · rw [e 0 0 (by omega) (by omega)] at t1
    rw [e 1 t (by omega) (by omega), e 2 t (by omega) (by omega), e 3 t (by omega) (by omega), e 4 t (by omega) (by omega), e 10 t (by omega) (by omega)]
    simp (disch := omega) only [stm_neq]
    exact bT t t0 t1
  · rw [e 0 1 (by omega) (by omega)] at s1
    rw [e 5 s (by omega) (by omega)]
    simp (disch := omega) only [stm_neq]
    exact bS s s0 s1
  · rw [e 0 2 (by omega) (by omega)] at w1
    rw [e 6 w (by omega) (by omega), e 7 w (by omega) (by omega), e 8 w (by omega) (by omega)]
    simp (disch := omega) only [stm_neq]
    exact bW w w0 w1
  · rw [e 0 3 (by omega) (by omega)] at c1
    rw [e 9 c (by omega) (by omega), e 13 c (by omega) (by omega), e 13 (c - 1) (by omega) (by omega), e 11 c (by omega) (by omega)]
    simp (disch := omega) only [stm_neq]
    exact bC c c0 c1
  · rw [e 0 7 (by omega) (by omega)] at i1
    rw [e 0 1 (by omega) (by omega), e 12 i (by omega) (by omega)]
    simp (disch := omega) only [stm_neq]
    exact bK i i0 i1
theorem r_emit (hR : RM R) (hr : r = 0 ∨ r = 1) (hG : MNG Y r G) (h7 : 0 ≤ G 0 7 ∧ G 0 7 < 600) (hx : codeOK x c n (G 0 1)) (hq : ∀ Y', MNG Y' r (emG G x) → FME r Y Y' → Q 0 SHX R Y') : Mw d 182 [vr 364, vi c, vi n] SHX R Y 0 0 Q := by
  have hE := MNG_em hr hG h7 hx
  have g38 : Y 364 38 = 600 * r + G 0 7 := hG.1.2.2.2.2.2.2.2.2
  refine Mw_of mok182 rfl fun _ _ => b_X12_emit_0 ?_
  simp (disch := omega) only [ok364, fr31 hR, fr32 hR, ak387, ak388, stm_neq, g38, iadd_of]
  refine ⟨by omega, by omega, by omega, by omega, hq _ hE ⟨fun j hj => ?_, fun q q1 q2 q3 => ?_, ?_⟩⟩
  · simp (disch := omega) only [stm_neq]
  · simp (disch := omega) only [stm_ne]
  · exact FPB_st (FPB_st (FPB_st FPB_self (Or.inr (Or.inr (Or.inr (Or.inr (Or.inr (Or.inr (Or.inr (Or.inr (Or.inr ⟨Or.inl rfl, by omega, by omega⟩)))))))))) (Or.inr (Or.inr (Or.inr (Or.inr (Or.inr (Or.inr (Or.inr (Or.inr (Or.inr ⟨Or.inr rfl, by omega, by omega⟩)))))))))) (Or.inl ⟨rfl, Or.inr ⟨by decide, by decide⟩⟩)
def FMU (Y Y' : MEM) : Prop := (∀ j, j < 39 ∨ 41 < j → Y' 364 j = Y 364 j) ∧ (∀ q, q ≠ 364 → q ≠ 389 → q ≠ 390 → Y' q = Y q)
theorem FPB_U (h : FMU X Y) : FPB r X Y := fun q j hn => by
  by_cases hq : q = 364
  · subst hq
    exact h.1 j (Classical.byContradiction fun g => hn (Or.inl ⟨rfl, Or.inr (by omega)⟩))
  · by_cases h1 : q = 389
    · exact absurd (Or.inr (Or.inr (Or.inl h1))) hn
    · by_cases h2 : q = 390
      · exact absurd (Or.inr (Or.inr (Or.inr (Or.inl h2)))) hn
      · rw [h.2 q hq h1 h2]
theorem MSt_U (h : MSt B z s X) (f : FMU X Y) : MSt B z s Y := MSt_of h (fun j j0 j1 => f.1 j (by omega)) (f.2 366 (by decide) (by decide) (by decide))
theorem MNG_U (h : MNG X r G) (f : FMU X Y) : MNG Y r G := MNG_of h (fun q q0 q1 => f.2 q (by omega) (by omega) (by omega)) (f.1 37 (by omega)) (f.1 38 (by omega))
theorem r_push (hR : RM R) (h40 : Y 364 40 = (S.length : Int)) (hl : (S.length : Int) < 90) (hM : SM Y S) (hq : ∀ Y', SM Y' ((c, x) :: S) → Y' 364 40 = (S.length : Int) + 1 → FMU Y Y' → (∀ j, j ≠ 40 → Y' 364 j = Y 364 j) → Q 0 SHX R Y') (hx : a = sgX x) : Mw d 183 [vr 364, vi c, vi a] SHX R Y 0 0 Q := by
  refine Mw_of mok183 rfl fun _ _ => b_X12_pushE_0 ?_
  simp (disch := omega) only [ok364, fr33 hR, fr34 hR, ak389, ak390, stm_neq, h40, iadd_of]
  refine ⟨by omega, by omega, by omega, by omega, hq _ ⟨?_, ?_, SM_of S hM fun i i0 i1 => ⟨?_, ?_⟩⟩ (stm_hit _ _ _ _) ⟨fun j hj => ?_, fun q q1 q2 q3 => ?_⟩ fun j hj => ?_⟩
  · simp (disch := omega) only [stm_neq, stm_hit]
  · simp (disch := omega) only [stm_neq, stm_hit]; exact hx
  · simp (disch := omega) only [stm_neq]
  · simp (disch := omega) only [stm_neq]
  · simp (disch := omega) only [stm_neq]
  · simp (disch := omega) only [stm_ne]
  · simp (disch := omega) only [stm_neq]
/-- the start of a name -/
theorem fnd_eqP {f g : Int → Int} {x y : Int} : ∀ (n : Nat) (i : Int), (∀ j, i ≤ j → j < i + (n : Int) → (f j = x ↔ g j = y)) → fnd f x n i = fnd g y n i
  | 0, _, _ => rfl
  | n + 1, i, h => by
    unfold fnd
    have h0 := h i (Int.le_refl _) (by omega)
    have ih := fnd_eqP n (i + 1) fun j j0 j1 => h j (by omega) (by omega)
    by_cases hf : f i = x
    · rw [if_pos hf, if_pos (h0.1 hf)]
    · rw [if_neg hf, if_neg fun q => hf (h0.2 q), ih]
theorem fnd_none {f : Int → Int} {x : Int} : ∀ (n : Nat) (i : Int), (∀ j, i ≤ j → j < i + (n : Int) → f j ≠ x) → fnd f x n i = -1
  | 0, _, _ => rfl
  | n + 1, i, h => by
    unfold fnd
    rw [if_neg (h i (Int.le_refl _) (by omega))]
    exact fnd_none n (i + 1) fun j j0 j1 => h j (by omega) (by omega)
theorem r_startHere (hR : RM R) (hr : r = 0 ∨ r = 1) (hS : MSt B z (.inr k) Y) (hG : MNG Y r G) (hF : GF G) (h3 : tkd B z k = 3) (hq : Q (stH G (tvl B z k)) SHX R Y) : Mw (d + 2) 185 [vr 364] SHX R Y 0 0 Q := by
  obtain ⟨fT, fS, fs, fi, fv⟩ := hF
  have hG' := hG
  obtain ⟨⟨g37, g0, g1, _⟩, gT, gS, _⟩ := hG'
  have tb := twH_b (x := tvl B z k) fT.1
  refine Mw_of mok185 rfl fun _ _ => b_X12_startHere_0 ?_
  rw [ok364]
  refine r_towerHere (d := d) hR hr hS hG fT fv ?_
  rw [if_pos h3]
  have key : ∀ (m : Nat) (i : Int), (G 0 1 - i).toNat = m → 0 ≤ i → i ≤ G 0 1 → fnd (fun s => G 10 (G 5 s)) (tvl B z k) m i = stH G (tvl B z k) → Go (d + 2) 185 Q 5 [vr 364, vi (twH G (tvl B z k)), vi i] [] SHX R Y 0 0 := by
    intro m
    induction m with
    | zero =>
      intro i hm i0 i1 he
      refine b_X12_startHere_5 ?_
      rw [ok364, ok364, g37, fr12 hR, ak368, g1, if_neg (by omega)]
      refine ⟨by omega, by omega, ?_⟩
      rw [← he] at hq
      exact hq
    | succ m ih =>
      intro i hm i0 i1 he
      have si := fs i i0 (by omega)
      refine b_X12_startHere_5 ?_
      rw [ok364, ok364, g37, fr12 hR, ak368, g1, if_pos (by omega)]
      refine ⟨by omega, by omega, ?_⟩
      have nx : ¬ G 10 (G 5 i) = tvl B z k → Go (d + 2) 185 Q 5 [vr 364, vi (twH G (tvl B z k)), vi (i + 1)] [] SHX R Y 0 0 := fun hne => ih (i + 1) (by omega) (by omega) (by omega) (by
        rw [← he]
        show _ = (if G 10 (G 5 i) = tvl B z k then i else fnd (fun s => G 10 (G 5 s)) (tvl B z k) m (i + 1))
        rw [if_neg hne])
      by_cases ht : twH G (tvl B z k) < 0
      · rw [if_pos ht, iadd_of (x := i) (by omega) (by omega)]
        exact nx (fnd_no (G 0 0).toNat 0 (Int.le_refl _) ht (G 5 i) si.1 (by omega))
      · rw [if_neg ht, ok364, ok364, fr19 hR, imul_of (by omega) (by omega), iadd_of (x := 3 * r) (by omega) (by omega), ak375, gS i i0 (by omega)]
        refine ⟨by omega, by omega, ?_⟩
        have tb' : 0 ≤ twH G (tvl B z k) ∧ twH G (tvl B z k) < G 0 0 ∧ G 10 (twH G (tvl B z k)) = tvl B z k := by
          rcases tb with h | h
          · omega
          · exact h
        by_cases he2 : G 5 i = twH G (tvl B z k)
        · rw [if_pos he2]
          have e : fnd (fun s => G 10 (G 5 s)) (tvl B z k) (m + 1) i = i := by
            show (if G 10 (G 5 i) = tvl B z k then i else fnd (fun s => G 10 (G 5 s)) (tvl B z k) m (i + 1)) = i
            rw [if_pos (by rw [he2]; exact tb'.2.2)]
          rw [← he, e] at hq
          exact hq
        · rw [if_neg he2, iadd_of (x := i) (by omega) (by omega)]
          exact nx fun q => he2 (fi _ _ si.1 si.2 tb'.1 tb'.2.1 (by rw [q, tb'.2.2]))
  exact key (G 0 1).toNat 0 (by omega) (Int.le_refl _) fS.1 rfl
end
