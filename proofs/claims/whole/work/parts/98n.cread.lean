/-! THE WHOLE TEXT, the class -/
def G0 : NTW := fun _ _ => 0
def CLR (n : Int) (r : RSP) (v : Int) (X : MEM) : Prop := match r with
  | .inl e => v = 0 ∧ X 33 0 = e.1 ∧ X 33 1 = e.2
  | .inr s => v = 1 ∧ CNG X n s.2 ∧ WLI s.1 s.2
def FPR (n : Int) (X X' : MEM) : Prop := (∀ q, q ≠ 27 → ¬ (30 ≤ q ∧ q ≤ 35) → ¬ (n ≤ q ∧ q ≤ n + 11) → X' q = X q) ∧ ∀ j, j < 6 ∨ 10 < j → X' 27 j = X 27 j
section
variable {d : Nat} {R X X1 : MEM} {B : Int → Int} {z n : Int} {K : Nat} {Q : RES}
theorem SR_of {R' : MEM} {a : Int} (h : SR R a) (e : ∀ j, R' a j = R a j) : SR R' a := by
  unfold SR at h ⊢
  rw [e, e, e, e]
  exact h
theorem NR_of {R' : MEM} {a : Int} (h : NR R a) (e : ∀ j, R' a j = R a j) : NR R' a := by
  unfold NR at h ⊢
  simp only [e]
  exact h
theorem rcL_no : ∀ q ∈ rcL, ¬ (q.1 = 33 ∧ q.2.1 = 5) ∧ ¬ (q.1 = 0 ∧ (q.2.1 = 12 ∨ q.2.1 = 13)) := by decide
theorem RC_of {R' : MEM} (h : RC R) (e : ∀ q j, ¬ (q = 33 ∧ j = 5) → ¬ (q = 0 ∧ (j = 12 ∨ j = 13)) → R' q j = R q j) : RC R' := by
  obtain ⟨h1, h2, h3, h4, h5, h6, h7⟩ := h
  refine ⟨fun q hq => ?_, fun k hk => ?_, fun k hk => ?_, ⟨SR_of h4.1 fun j => e _ _ (by omega) (by omega), SR_of h4.2 fun j => e _ _ (by omega) (by omega)⟩, ⟨NR_of h5.1 fun j => e _ _ (by omega) (by omega), NR_of h5.2 fun j => e _ _ (by omega) (by omega)⟩, fun k hk => ?_, fun k hk => ?_⟩
  · have := rcL_no q hq
    rw [e _ _ this.1 this.2]; exact h1 q hq
  · rw [e _ _ (by omega) (by omega)]
    exact ⟨(h2 k hk).1, SR_of (h2 k hk).2 fun j => e _ _ (by omega) (by omega)⟩
  · rw [e _ _ (by omega) (by omega)]
    exact ⟨(h3 k hk).1, SR_of (h3 k hk).2 fun j => e _ _ (by omega) (by omega)⟩
  · rw [e _ _ (by omega) (by omega)]; exact h6 k hk
  · rw [e _ _ (by omega) (by omega)]; exact h7 k hk
theorem WLI_0 : WLI 0 G0 := by
  refine ⟨?_, ⟨Int.le_refl _, by decide⟩, ⟨fun t u t0 t1 => ?_, fun t t0 t1 => ?_, fun t t0 t1 => ?_⟩, ⟨Int.le_refl _, Int.le_refl _⟩, Or.inl rfl, ⟨fun t t0 t1 => ?_, fun _ => rfl, fun q => ?_⟩⟩
  · unfold WN
    have e : ∀ i j, G0 i j = 0 := fun _ _ => rfl
    simp only [e]
    refine ⟨by omega, by omega, by omega, by omega, by omega, ?_⟩
    refine ⟨fun x x0 x1 => ?_, fun x x0 x1 => ?_, fun x x0 x1 => ?_, fun x x0 x1 => ?_, fun x x0 x1 => ?_, fun x x0 x1 => ?_, fun x x0 x1 => ?_, fun x x0 x1 => ?_, fun x r x0 x1 r1 => ?_, fun x x0 x1 hx => ?_, fun w w0 w1 => ?_, fun w w0 w1 => ?_, fun w w0 w1 => ?_, fun c c0 c1 => ?_⟩ <;> omega
  · exact absurd t1 (by show ¬ t < 0; omega)
  · exact absurd t1 (by show ¬ t < 0; omega)
  · exact absurd t1 (by show ¬ t < 0; omega)
  · exact absurd t1 (by show ¬ t < 0; omega)
  · exact absurd q (by show ¬ (0 : Int) < 0; omega)
theorem c_clearNet (hN : NR R n) (hq : Q 0 SHX R (stm (stm (stm (stm (stm (stm (stm X n 0 0) n 5 0) n 7 0) n 11 0) n 15 0) n 17 0) n 18 0)) : Mw d 23 [vr n] SHX R X 0 0 Q := by
  refine Mw_of mok23 rfl fun _ _ => b_X4_clear_0 ?_
  rw [okN hN, okN hN, okN hN, okN hN, okN hN, okN hN, okN hN]
  exact hq
theorem FPR_L (h : FPL n X X1) : FPR n X X1 := ⟨fun q q1 q2 q3 => h.1 q q1 (by omega) (by omega) (by omega) q3, fun j hj => h.2 j (by omega)⟩
theorem FPR_tr {Y : MEM} (h : FPR n X X1) (g : FPR n X1 Y) : FPR n X Y := ⟨fun q q1 q2 q3 => (g.1 q q1 q2 q3).trans (h.1 q q1 q2 q3), fun j hj => (g.2 j hj).trans (h.2 j hj)⟩
theorem c_read (hc : RC R) (hN : NR R n) (n1 : n = 1 ∨ n = 14) (hT : TXC X B z) (hq : ∀ X' v, CLR n (pAll B z 1601 0 G0) v X' → (v = 0 ∨ v = 1) → FPR n X X' → Q v SHX (stm R 33 5 n) X') : Mw (d + 102) 34 [vr 33, vr n] SHX R X 0 0 Q := by
  have hc' : RC (stm R 33 5 n) := RC_of hc fun q j h _ => stm_neq h
  have hN' : NR (stm R 33 5 n) n := NR_of hN fun j => stm_neq (by omega)
  have hP : stm R 33 5 n 33 5 = n := stm_hit _ _ _ _
  refine Mw_of mok34 rfl fun _ _ => b_X5_read_0 ?_
  rw [ok33, ok33, hP, okN hN']
  refine c_clearNet hN' ?_
  rw [ok33, ok33, ok33, ok33, rc33_2 hc', ok27]
  refine c_part (B := B) (z := z) (d := d + 97) hc' ?_ ?_
  · exact TXC_of hT (by simp (disch := omega) only [stm_neq]) (by simp (disch := omega) only [stm_ne]) (by simp (disch := omega) only [stm_ne])
  intro X1 K hT1 f1 g1
  have hG1 : CNG X1 n G0 := by
    have e : ∀ i j, G0 i j = 0 := fun _ _ => rfl
    refine ⟨⟨?_, ?_, ?_, ?_, ?_, ?_, ⟨?_, ?_, ?_⟩, ?_⟩, fun t t0 t1 => ?_, fun u u0 u1 => ?_, fun w w0 w1 => ?_, fun c c0 c1 => ?_, fun i i0 i1 => ?_⟩
    · rw [f1 _ (by omega) (by omega) (by omega) (by omega)]; simp (disch := omega) only [stm_neq, stm_hit, e]
    · rw [f1 _ (by omega) (by omega) (by omega) (by omega)]; simp (disch := omega) only [stm_neq, stm_hit, e]
    · rw [f1 _ (by omega) (by omega) (by omega) (by omega)]; simp (disch := omega) only [stm_neq, stm_hit, e]
    · rw [f1 _ (by omega) (by omega) (by omega) (by omega)]; simp (disch := omega) only [stm_neq, stm_hit, e]
    · rw [f1 _ (by omega) (by omega) (by omega) (by omega)]; simp (disch := omega) only [stm_neq, stm_hit, e]
    · rw [f1 _ (by omega) (by omega) (by omega) (by omega)]; simp (disch := omega) only [stm_neq, stm_hit, e]
    · rw [f1 _ (by omega) (by omega) (by omega) (by omega)]; simp (disch := omega) only [stm_neq, stm_hit, e]
    · rw [f1 _ (by omega) (by omega) (by omega) (by omega)]; simp (disch := omega) only [stm_neq, stm_hit, e]
    · rw [f1 _ (by omega) (by omega) (by omega) (by omega)]; simp (disch := omega) only [stm_neq, stm_hit, e]
    · rw [f1 _ (by omega) (by omega) (by omega) (by omega)]; simp (disch := omega) only [stm_neq, stm_hit, e]
    · rw [e] at t1; omega
    · rw [e] at u1; omega
    · rw [e] at w1; omega
    · rw [e] at c1; omega
    · rw [e] at i1; omega
  have fr1 : FPR n X X1 := ⟨fun q q1 q2 q3 => by
    rw [f1 q q1 (by omega) (by omega) (by omega)]
    simp (disch := omega) only [stm_ne], fun j hj => by
    rw [g1 j (by omega)]
    simp (disch := omega) only [stm_neq]⟩
  have key : ∀ (r m k : Nat) (i : Int) (G : NTW) (Y : MEM), K - k = r → K + 1 ≤ m + k → 0 ≤ i → i ≤ (k : Int) → CPL Y B z n K k G → WLI k G → FPR n X Y → (∀ X' v, CLR n (pAll B z m k G) v X' → (v = 0 ∨ v = 1) → FPR n X X' → Q v SHX (stm R 33 5 n) X') → Go (d + 102) 34 Q 22 [vr 33, vn, vi 1, vi i] [] SHX (stm R 33 5 n) Y 0 0 := by
    intro r
    induction r using Nat.strongRecOn with
    | _ r ih =>
      intro m k i G Y hr hm i0 i1 hS hW fr hq
      have hS' := hS
      obtain ⟨hT, hk, hG⟩ := hS'
      have hK := hT.1.2.1
      have hE := hT.1.2.2.2.1
      obtain ⟨m, rfl⟩ : ∃ m', m = m' + 1 := ⟨m - 1, by omega⟩
      refine b_X5_read_22 ?_
      have eu : pAll B z (m + 1) k G = if tkd B z k = 1 then .inr (k, G) else bnd (pLin B z k G) fun k1 G1 => pAll B z m k1 G1 := rfl
      rw [if_neg (by omega), if_neg (by decide), ok33, rc33_2 hc', ok27, hT.2.2.1]
      by_cases h1 : tkd B z k = 1
      · rw [if_pos h1] at eu
        rw [if_pos h1]
        exact hq Y 1 (by rw [eu]; exact ⟨rfl, hG, hW⟩) (Or.inr rfl) fr
      · rw [if_neg h1] at eu
        rw [if_neg h1, ok33]
        have hlt := CT_lt hT hk h1
        refine c_line (d := d) hc' hP hN' n1 hS (WLI_LGd hW) fun Y1 v hr1 hF1 hv => ?_
        rw [iadd_of (by omega) (by omega)]
        have fr' := FPR_tr fr (FPR_L hF1)
        cases hl : pLin B z k G with
        | inl e =>
          rw [hl] at hr1 eu
          obtain ⟨q1, q2, q3⟩ := hr1
          subst q1
          refine b_X5_read_22 ?_
          have fin := hq Y1 0 (by rw [eu]; exact ⟨rfl, q2, q3⟩) (Or.inl rfl) fr'
          by_cases hi : 1600 < i + 1
          · rw [if_pos hi]; exact fin
          · rw [if_neg hi, if_pos rfl]; exact fin
        | inr s =>
          rw [hl] at hr1 eu
          obtain ⟨q1, q2⟩ := hr1
          subst q1
          obtain ⟨w1, w2⟩ := pLin_ok hW (k' := s.1) (G' := s.2) hl
          have eu' : pAll B z (m + 1) k G = pAll B z m s.1 s.2 := eu
          have hk1 := q2.2.1
          exact ih (K - s.1) (by omega) m s.1 (i + 1) s.2 Y1 rfl (by omega) (by omega) (by omega) q2 w1 fr' fun X' v g1 g2 g3 => hq X' v (by rw [eu']; exact g1) g2 g3
  have hK := hT1.1.2.1
  exact key K 1601 0 0 G0 X1 rfl (by omega) (Int.le_refl _) (Int.le_refl _) ⟨hT1, Nat.zero_le _, hG1⟩ WLI_0 fr1 hq
end
