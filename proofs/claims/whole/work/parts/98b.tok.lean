/-! TOKENS: what they are -/
/-- a run that goes on no more -/
def NOL (B : Int → Int) (z e : Int) : Prop := ¬ (e < z ∧ ltB (B e) = true)
def TE (r : TKN) (k a v e : Int) : Prop := r.1 = k ∧ r.2.1 = a ∧ r.2.2.1 = v ∧ r.2.2.2 = e
def TKP (B : Int → Int) (z a : Int) (r : TKN) : Prop :=
  (TE r 1 z 0 z ∧ z ≤ a) ∨ (TE r 0 a 0 z ∧ a < z)
  ∨ (∃ n : Nat, (1 ≤ n ∧ n ≤ 8) ∧ (LTR B a n ∧ a + (n : Int) ≤ z ∧ NOL B z (a + (n : Int))) ∧ TE r 3 a (e32 B a n) (a + (n : Int)) ∧ kwI (e32 B a n) < 0)
  ∨ (∃ n : Nat, (1 ≤ n ∧ n ≤ 8) ∧ (LTR B a n ∧ a + (n : Int) ≤ z ∧ NOL B z (a + (n : Int))) ∧ TE r 2 a (kwI (e32 B a n)) (a + (n : Int)) ∧ ¬ kwI (e32 B a n) < 0)
  ∨ (∃ n : Nat, (1 ≤ n ∧ n ≤ 4) ∧ ((∀ i, a ≤ i → i < a + (n : Int) → 48 ≤ B i ∧ B i ≤ 57) ∧ a + (n : Int) ≤ z) ∧ TE r 4 a (nmF B a n) (a + (n : Int)))
  ∨ ((sgB (B a) = true ∧ a < z) ∧ TE r 5 a (B a) (a + 1))
section
variable {B : Int → Int} {z a e x y : Int}
theorem tk1_P : TKP B z a (tk1 B z a) := by
  unfold tk1
  by_cases h0 : z ≤ a
  · rw [if_pos h0]; exact Or.inl ⟨⟨rfl, rfl, rfl, rfl⟩, h0⟩
  · rw [if_neg h0]
    by_cases h1 : ltB (B a) = true
    · rw [if_pos h1]
      have g1 := rn_gt (p := ltB) (show a < z by omega) h1
      have g2 := rn_le (p := ltB) (B := B) (show a ≤ z by omega)
      have g3 := rn_in (p := ltB) (B := B) (z := z) (e := a)
      have g4 := rn_end (p := ltB) (B := B) (z := z) (e := a)
      have en : a + ((rn ltB B z a - a).toNat : Int) = rn ltB B z a := by omega
      by_cases h8 : 8 < rn ltB B z a - a
      · rw [if_pos h8]; exact Or.inr (Or.inl ⟨⟨rfl, rfl, rfl, rfl⟩, by omega⟩)
      · rw [if_neg h8]
        have hl : LTR B a (rn ltB B z a - a).toNat := fun i i0 i1 => ltB_iff.1 (g3 i i0 (by omega))
        by_cases hk : kwI (e32 B a (rn ltB B z a - a).toNat) < 0
        · rw [if_pos hk]
          exact Or.inr (Or.inr (Or.inl ⟨(rn ltB B z a - a).toNat, ⟨by omega, by omega⟩, ⟨hl, by omega, by rw [en]; exact g4⟩, ⟨rfl, rfl, rfl, en.symm⟩, hk⟩))
        · rw [if_neg hk]
          exact Or.inr (Or.inr (Or.inr (Or.inl ⟨(rn ltB B z a - a).toNat, ⟨by omega, by omega⟩, ⟨hl, by omega, by rw [en]; exact g4⟩, ⟨rfl, rfl, rfl, en.symm⟩, hk⟩)))
    · rw [if_neg h1]
      by_cases h2 : dgB (B a) = true
      · rw [if_pos h2]
        have g1 := rn_gt (p := dgB) (show a < z by omega) h2
        have g2 := rn_le (p := dgB) (B := B) (show a ≤ z by omega)
        have g3 := rn_in (p := dgB) (B := B) (z := z) (e := a)
        have en : a + ((rn dgB B z a - a).toNat : Int) = rn dgB B z a := by omega
        by_cases h8 : (rn dgB B z a < z ∧ ltB (B (rn dgB B z a)) = true) ∨ 4 < rn dgB B z a - a
        · rw [if_pos h8]; exact Or.inr (Or.inl ⟨⟨rfl, rfl, rfl, rfl⟩, by omega⟩)
        · rw [if_neg h8]
          exact Or.inr (Or.inr (Or.inr (Or.inr (Or.inl ⟨(rn dgB B z a - a).toNat, ⟨by omega, by omega⟩, ⟨fun i i0 i1 => dgB_iff.1 (g3 i i0 (by omega)), by omega⟩, ⟨rfl, rfl, rfl, en.symm⟩⟩))))
      · rw [if_neg h2]
        by_cases h3 : sgB (B a) = true
        · rw [if_pos h3]; exact Or.inr (Or.inr (Or.inr (Or.inr (Or.inr ⟨⟨h3, by omega⟩, ⟨rfl, rfl, rfl, rfl⟩⟩))))
        · rw [if_neg h3]; exact Or.inr (Or.inl ⟨⟨rfl, rfl, rfl, rfl⟩, by omega⟩)
abbrev tkd (B : Int → Int) (z : Int) (k : Nat) : Int := (tok B z k).1
abbrev tpl (B : Int → Int) (z : Int) (k : Nat) : Int := (tok B z k).2.1
abbrev tvl (B : Int → Int) (z : Int) (k : Nat) : Int := (tok B z k).2.2.1
theorem tok_P (k : Nat) : TKP B z (rn bkB B z (pos B z k)) (tok B z k) := tk1_P
theorem pos_s (k : Nat) : pos B z (k + 1) = (tok B z k).2.2.2 := rfl
theorem pos_rng (hz : 0 ≤ z) : ∀ k : Nat, 0 ≤ pos B z k ∧ pos B z k ≤ z
  | 0 => ⟨Int.le_refl _, hz⟩
  | k + 1 => by
    have ih := pos_rng hz k
    have ge := rn_ge (p := bkB) (B := B) (z := z) (e := pos B z k)
    have le := rn_le (p := bkB) (B := B) ih.2
    rw [pos_s]
    rcases tok_P (B := B) (z := z) k with ⟨⟨h1, h2, h3, h4⟩, g⟩ | ⟨⟨h1, h2, h3, h4⟩, g⟩ | ⟨n, _, ⟨_, g, _⟩, ⟨h1, h2, h3, h4⟩, _⟩ | ⟨n, _, ⟨_, g, _⟩, ⟨h1, h2, h3, h4⟩, _⟩ | ⟨n, _, ⟨_, g⟩, ⟨h1, h2, h3, h4⟩⟩ | ⟨⟨_, g⟩, ⟨h1, h2, h3, h4⟩⟩ <;> omega
theorem tok_end (hz : 0 ≤ z) {k : Nat} (h : tkd B z k = 1) : TE (tok B z k) 1 z 0 z ∧ TE (tok B z (k + 1)) 1 z 0 z := by
  have e : TE (tok B z k) 1 z 0 z := by
    have h' : (tok B z k).1 = 1 := h
    rcases tok_P (B := B) (z := z) k with ⟨t, g⟩ | ⟨⟨h1, h2, h3, h4⟩, g⟩ | ⟨n, _, ⟨_, g, _⟩, ⟨h1, h2, h3, h4⟩, _⟩ | ⟨n, _, ⟨_, g, _⟩, ⟨h1, h2, h3, h4⟩, _⟩ | ⟨n, _, ⟨_, g⟩, ⟨h1, h2, h3, h4⟩⟩ | ⟨⟨_, g⟩, ⟨h1, h2, h3, h4⟩⟩
    · exact t
    all_goals omega
  refine ⟨e, ?_⟩
  have ep : pos B z (k + 1) = z := e.2.2.2
  show TE (tk B z (pos B z (k + 1))) 1 z 0 z
  rw [ep]
  unfold tk
  rw [rn_stop (by omega)]
  unfold tk1
  rw [if_pos (Int.le_refl z)]
  exact ⟨rfl, rfl, rfl, rfl⟩
theorem tok_end_up (hz : 0 ≤ z) {k : Nat} (h : tkd B z k = 1) : ∀ j : Nat, TE (tok B z (k + j)) 1 z 0 z
  | 0 => (tok_end hz h).1
  | j + 1 => (tok_end hz (tok_end_up hz h j).1).2
theorem tok_rng (hz : 0 ≤ z) (k : Nat) : pos B z k ≤ tpl B z k ∧ tpl B z k ≤ z ∧ (tkd B z k ≠ 1 → tpl B z k < z ∧ tpl B z k + 1 ≤ pos B z (k + 1)) ∧ 0 ≤ tkd B z k ∧ tkd B z k ≤ 5 := by
  have pr := pos_rng (B := B) hz k
  have ge := rn_ge (p := bkB) (B := B) (z := z) (e := pos B z k)
  have le := rn_le (p := bkB) (B := B) pr.2
  rw [pos_s]
  show pos B z k ≤ (tok B z k).2.1 ∧ (tok B z k).2.1 ≤ z ∧ ((tok B z k).1 ≠ 1 → (tok B z k).2.1 < z ∧ (tok B z k).2.1 + 1 ≤ (tok B z k).2.2.2) ∧ 0 ≤ (tok B z k).1 ∧ (tok B z k).1 ≤ 5
  rcases tok_P (B := B) (z := z) k with ⟨⟨h1, h2, h3, h4⟩, g⟩ | ⟨⟨h1, h2, h3, h4⟩, g⟩ | ⟨n, _, ⟨_, g, _⟩, ⟨h1, h2, h3, h4⟩, _⟩ | ⟨n, _, ⟨_, g, _⟩, ⟨h1, h2, h3, h4⟩, _⟩ | ⟨n, _, ⟨_, g⟩, ⟨h1, h2, h3, h4⟩⟩ | ⟨⟨_, g⟩, ⟨h1, h2, h3, h4⟩⟩ <;> omega
theorem tpl_s (hz : 0 ≤ z) {k : Nat} (h : tkd B z k ≠ 1) : tpl B z k + 1 ≤ tpl B z (k + 1) := by
  have h1 := (tok_rng (B := B) hz k).2.2.1 h
  have h2 := tok_rng (B := B) hz (k + 1)
  omega
theorem tpl_mono (hz : 0 ≤ z) (k : Nat) : tpl B z k ≤ tpl B z (k + 1) := by
  by_cases h : tkd B z k = 1
  · obtain ⟨⟨_, e1, _⟩, ⟨_, e2, _⟩⟩ := tok_end hz h
    show (tok B z k).2.1 ≤ (tok B z (k + 1)).2.1
    omega
  · have := tpl_s hz h
    omega
theorem tok_num {k : Nat} (h : tkd B z k = 4) : 0 ≤ tvl B z k ∧ tvl B z k ≤ 9999 := by
  have h' : (tok B z k).1 = 4 := h
  show 0 ≤ (tok B z k).2.2.1 ∧ (tok B z k).2.2.1 ≤ 9999
  rcases tok_P (B := B) (z := z) k with ⟨⟨h1, h2, h3, h4⟩, g⟩ | ⟨⟨h1, h2, h3, h4⟩, g⟩ | ⟨n, _, ⟨_, g, _⟩, ⟨h1, h2, h3, h4⟩, _⟩ | ⟨n, _, ⟨_, g, _⟩, ⟨h1, h2, h3, h4⟩, _⟩ | ⟨n, n4, ⟨hd, g⟩, ⟨h1, h2, h3, h4⟩⟩ | ⟨⟨_, g⟩, ⟨h1, h2, h3, h4⟩⟩
  · omega
  · omega
  · omega
  · omega
  · rw [h3]; exact nm_4 n4.2 hd
  · omega
/-- a sign's number is its byte -/
theorem tok_sgn {k : Nat} (h : tkd B z k = 5) : tvl B z k = B (tpl B z k) ∧ sgB (tvl B z k) = true ∧ tpl B z k < z := by
  have h' : (tok B z k).1 = 5 := h
  show (tok B z k).2.2.1 = B (tok B z k).2.1 ∧ sgB (tok B z k).2.2.1 = true ∧ (tok B z k).2.1 < z
  rcases tok_P (B := B) (z := z) k with ⟨⟨h1, h2, h3, h4⟩, g⟩ | ⟨⟨h1, h2, h3, h4⟩, g⟩ | ⟨n, _, ⟨_, g, _⟩, ⟨h1, h2, h3, h4⟩, _⟩ | ⟨n, _, ⟨_, g, _⟩, ⟨h1, h2, h3, h4⟩, _⟩ | ⟨n, n4, ⟨hd, g⟩, ⟨h1, h2, h3, h4⟩⟩ | ⟨⟨hs, g⟩, ⟨h1, h2, h3, h4⟩⟩
  · omega
  · omega
  · omega
  · omega
  · omega
  · rw [h3, h2]; exact ⟨rfl, hs, g⟩
theorem tok_nam {k : Nat} (h : tkd B z k = 3) : VWd (tvl B z k) ∧ ∀ i : Nat, i < 18 → kwL.getD i 0 ≠ tvl B z k := by
  have h' : (tok B z k).1 = 3 := h
  show VWd (tok B z k).2.2.1 ∧ ∀ i : Nat, i < 18 → kwL.getD i 0 ≠ (tok B z k).2.2.1
  rcases tok_P (B := B) (z := z) k with ⟨⟨h1, h2, h3, h4⟩, g⟩ | ⟨⟨h1, h2, h3, h4⟩, g⟩ | ⟨n, n8, ⟨hl, g, _⟩, ⟨h1, h2, h3, h4⟩, hk⟩ | ⟨n, _, ⟨_, g, _⟩, ⟨h1, h2, h3, h4⟩, _⟩ | ⟨n, n4, ⟨hd, g⟩, ⟨h1, h2, h3, h4⟩⟩ | ⟨⟨hs, g⟩, ⟨h1, h2, h3, h4⟩⟩
  · omega
  · omega
  · rw [h3]; exact ⟨VWd_e n8.2 hl, kwI_no hk⟩
  · omega
  · omega
  · omega
theorem tok_kw {k : Nat} (h : tkd B z k = 2) : ∃ j : Nat, j < 18 ∧ tvl B z k = (j : Int) := by
  have h' : (tok B z k).1 = 2 := h
  show ∃ j : Nat, j < 18 ∧ (tok B z k).2.2.1 = (j : Int)
  rcases tok_P (B := B) (z := z) k with ⟨⟨h1, h2, h3, h4⟩, g⟩ | ⟨⟨h1, h2, h3, h4⟩, g⟩ | ⟨n, n8, ⟨hl, g, _⟩, ⟨h1, h2, h3, h4⟩, hk⟩ | ⟨n, _, ⟨_, g, _⟩, ⟨h1, h2, h3, h4⟩, hk⟩ | ⟨n, n4, ⟨hd, g⟩, ⟨h1, h2, h3, h4⟩⟩ | ⟨⟨hs, g⟩, ⟨h1, h2, h3, h4⟩⟩
  · omega
  · omega
  · omega
  · obtain ⟨j, j1, j2, _⟩ := kwI_at hk
    exact ⟨j, j1, h3.trans j2⟩
  · omega
  · omega
theorem s5_up : ∀ n : Nat, 4 ≤ n → 33825 ≤ s5 n
  | 0, h => by omega
  | 1, h => by omega
  | 2, h => by omega
  | 3, h => by omega
  | 4, _ => by decide
  | n + 5, _ => by
    have ih := s5_up (n + 4) (by omega)
    show 33825 ≤ s5 (n + 4) * 32 + 1
    omega
/-- `not' takes three bytes, and one more if letters follow -/
theorem tok_not (hz : 0 ≤ z) {k : Nat} (h : tkd B z k = 2) (hv : tvl B z k = 17) : tpl B z k + 3 ≤ tpl B z (k + 1) ∧ (tkd B z (k + 1) = 2 ∨ tkd B z (k + 1) = 3 → tpl B z k + 4 ≤ tpl B z (k + 1)) := by
  have h' : (tok B z k).1 = 2 := h
  have hv' : (tok B z k).2.2.1 = 17 := hv
  have r1 := tok_rng (B := B) hz (k + 1)
  have es := pos_s (B := B) (z := z) k
  rcases tok_P (B := B) (z := z) k with ⟨⟨h1, h2, h3, h4⟩, g⟩ | ⟨⟨h1, h2, h3, h4⟩, g⟩ | ⟨n, n8, ⟨hl, g, _⟩, ⟨h1, h2, h3, h4⟩, hk⟩ | ⟨n, n8, ⟨hl, g, hno⟩, ⟨h1, h2, h3, h4⟩, hk⟩ | ⟨n, n4, ⟨hd, g⟩, ⟨h1, h2, h3, h4⟩⟩ | ⟨⟨hs, g⟩, ⟨h1, h2, h3, h4⟩⟩
  · omega
  · omega
  · omega
  · obtain ⟨j, j1, j2, j3, _⟩ := kwI_at hk
    have j17 : j = 17 := by omega
    subst j17
    have e3 : e32 B (rn bkB B z (pos B z k)) n = 14836 := j3.symm
    have bd := e32_b n hl
    rw [e3] at bd
    have n3 : n = 3 := by
      by_cases h4 : 4 ≤ n
      · have := s5_up n h4; omega
      · by_cases h0 : n = 1
        · subst h0; exact absurd bd.2.1 (by decide)
        · by_cases h0 : n = 2
          · subst h0; exact absurd bd.2.1 (by decide)
          · omega
    subst n3
    have ep : tpl B z k = rn bkB B z (pos B z k) := h2
    have ee : pos B z (k + 1) = rn bkB B z (pos B z k) + 3 := by rw [es, h4]; rfl
    rw [ep]
    refine ⟨by omega, fun hn => ?_⟩
    have hlet : tpl B z (k + 1) < z ∧ ltB (B (tpl B z (k + 1))) = true := by
      show (tok B z (k + 1)).2.1 < z ∧ ltB (B (tok B z (k + 1)).2.1) = true
      have hn' : (tok B z (k + 1)).1 = 2 ∨ (tok B z (k + 1)).1 = 3 := hn
      rcases tok_P (B := B) (z := z) (k + 1) with ⟨⟨t1, t2, t3, t4⟩, u⟩ | ⟨⟨t1, t2, t3, t4⟩, u⟩ | ⟨m, m8, ⟨ml, u, _⟩, ⟨t1, t2, t3, t4⟩, _⟩ | ⟨m, m8, ⟨ml, u, _⟩, ⟨t1, t2, t3, t4⟩, _⟩ | ⟨m, m4, ⟨md, u⟩, ⟨t1, t2, t3, t4⟩⟩ | ⟨⟨ms, u⟩, ⟨t1, t2, t3, t4⟩⟩
      · omega
      · omega
      · rw [t2]; exact ⟨by omega, ltB_iff.2 (ml _ (Int.le_refl _) (by omega))⟩
      · rw [t2]; exact ⟨by omega, ltB_iff.2 (ml _ (Int.le_refl _) (by omega))⟩
      · omega
      · omega
    by_cases heq : tpl B z (k + 1) = pos B z (k + 1)
    · rw [heq, ee] at hlet
      exact absurd hlet hno
    · omega
  · omega
  · omega
/-- tokens take a byte each -/
theorem pos_cnt (hz : 0 ≤ z) : ∀ k : Nat, (∀ i, i < k → tkd B z i ≠ 1) → (k : Int) ≤ pos B z k
  | 0, _ => Int.le_refl _
  | k + 1, h => by
    have ih := pos_cnt hz k fun i hi => h i (by omega)
    have r := tok_rng (B := B) hz k
    have := r.2.2.1 (h k (Nat.lt_succ_self k))
    omega
/-- the reference's numbers of kinds -/
def km (x : Int) : Int := if x = 0 then 1 else if x = 1 then 0 else if x = 2 then 3 else if x = 3 then 2 else x
/-- the word that a token is -/
def twd (B : Int → Int) (z : Int) (k : Nat) : Int := if tkd B z k = 2 then kwL.getD (tvl B z k).toNat 0 else tvl B z k
end
