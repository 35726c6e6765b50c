/-! THE PARSER, the reference: its small methods -/
abbrev SNK : Type := Sum (Int × Int) Nat
def FM7 (X X' : MEM) : Prop := (∀ q, q ≠ 364 → X' q = X q) ∧ ∀ j, j < 4 ∨ 10 < j → X' 364 j = X 364 j
section
variable (B : Int → Int) (z : Int)
def ftE (k : Nat) (w : Int) : Int × Int := (if tkd B z k = 0 then 1 else w, tpl B z k)
/-- the reference is at a token, or at fault -/
def MSt (s : SNK) (Y : MEM) : Prop := MTX Y B z ∧ 0 ≤ Y 364 6 ∧ match s with
  | .inl e => Y 364 4 = e.1 ∧ Y 364 5 = e.2 ∧ 0 < e.1
  | .inr k => Y 364 4 = 0 ∧ Y 364 5 = -1 ∧ MTk Y B z k
def faP (s : SNK) (e : Int × Int) : SNK := match s with
  | .inl e' => .inl e'
  | .inr _ => .inl e
def muP (s : SNK) (c : Int) : SNK := match s with
  | .inl e => .inl e
  | .inr k => if c = 1 then .inr (k + 1) else .inl (ftE B z k 2)
def goP (s : SNK) : SNK := match s with
  | .inl e => .inl e
  | .inr k => .inr (k + 1)
def muW (s : SNK) (j : Int) : SNK := match s with
  | .inl e => .inl e
  | .inr k => if tkd B z k = 2 ∧ tvl B z k = j then .inr (k + 1) else .inl (ftE B z k 2)
def muS (s : SNK) (c : Int) : SNK := match s with
  | .inl e => .inl e
  | .inr k => if tkd B z k = 5 ∧ tvl B z k = c then .inr (k + 1) else .inl (ftE B z k 2)
def nuP (s : SNK) (lo hi : Int) : SNK := match s with
  | .inl e => .inl e
  | .inr k => if tkd B z k = 4 then (if tvl B z k < lo ∨ hi < tvl B z k then .inl (ftE B z k 4) else .inr (k + 1)) else .inl (ftE B z k 2)
end
theorem flt_E {B : Int → Int} {z w : Int} {k : Nat} : flt B z k w = .inl (ftE B z k w) := rfl
section
variable {d : Nat} {R X Y : MEM} {B : Int → Int} {z v w x a b c lo hi : Int} {k j : Nat} {s : SNK} {e : Int × Int} {Q : RES}
theorem FM7_self : FM7 X X := ⟨fun _ _ => rfl, fun _ _ => rfl⟩
theorem FM7_tr {W : MEM} (h : FM7 X Y) (g : FM7 Y W) : FM7 X W := ⟨fun q hq => (g.1 q hq).trans (h.1 q hq), fun j hj => (g.2 j hj).trans (h.2 j hj)⟩
theorem FM7_5 (h : FM5 X Y) : FM7 X Y := ⟨h.1, fun j hj => h.2 j (by omega)⟩
theorem MSt_x (h : MSt B z s Y) : MTX Y B z := h.1
theorem ftE_p (hw : 0 < w) : 0 < (ftE B z k w).1 := by
  show 0 < (if tkd B z k = 0 then 1 else w)
  split <;> omega
/-- only what the parser's state has no part in has changed -/
theorem MSt_of {W : MEM} (h : MSt B z s Y) (e : ∀ j, 3 ≤ j → j ≤ 10 → W 364 j = Y 364 j) (e2 : W 366 = Y 366) : MSt B z s W := by
  obtain ⟨h1, h2, h3⟩ := h
  refine ⟨MTX_of h1 (e 3 (by decide) (by decide)) e2, by rw [e 6 (by decide) (by decide)]; exact h2, ?_⟩
  cases s with
  | inl _ =>
    show W 364 4 = _ ∧ W 364 5 = _ ∧ _
    rw [e 4 (by decide) (by decide), e 5 (by decide) (by decide)]
    exact h3
  | inr k =>
    show W 364 4 = _ ∧ W 364 5 = _ ∧ MTk W B z k
    unfold MTk
    rw [e 4 (by decide) (by decide), e 5 (by decide) (by decide), e 8 (by decide) (by decide), e 6 (by decide) (by decide), e 7 (by decide) (by decide), e 10 (by decide) (by decide), e 9 (by decide) (by decide)]
    exact h3
theorem r_isGood (hS : MSt B z s Y) (hq0 : ∀ e, s = .inl e → Q 0 SHX R Y) (hq1 : ∀ k, s = .inr k → Q 1 SHX R Y) : Mw d 157 [vr 364] SHX R Y 0 0 Q := by
  refine Mw_of mok157 rfl fun _ _ => b_X12_isGood_0 ?_
  rw [ok364]
  cases s with
  | inl e =>
    obtain ⟨_, _, h1, _, h3⟩ := hS
    rw [if_neg (by omega)]
    exact hq0 e rfl
  | inr k =>
    obtain ⟨_, _, h1, _⟩ := hS
    rw [if_pos h1]
    exact hq1 k rfl
theorem r_fails (hS : MSt B z s Y) (ha : 0 < a) (hq : ∀ Y', MSt B z (faP s (a, b)) Y' → FM7 Y Y' → Q 0 SHX R Y') : Mw d 156 [vr 364, vi a, vi b] SHX R Y 0 0 Q := by
  refine Mw_of mok156 rfl fun _ _ => b_X12_fails_0 ?_
  rw [ok364]
  cases s with
  | inl e =>
    have hS' := hS
    obtain ⟨_, _, h1, _, h3⟩ := hS'
    rw [if_pos (by omega)]
    exact hq Y hS FM7_self
  | inr k =>
    obtain ⟨h, h6, h1, _⟩ := hS
    rw [if_neg (by omega), ok364, ok364]
    refine hq _ ⟨MTX_of h (by simp (disch := omega) only [stm_neq]) (by simp (disch := omega) only [stm_ne]), by simp (disch := omega) only [stm_neq]; exact h6, ?_, ?_, ha⟩ ⟨fun q hq => ?_, fun j hj => ?_⟩
    · simp (disch := omega) only [stm_neq, stm_hit]
    · simp (disch := omega) only [stm_hit]
    · simp (disch := omega) only [stm_ne]
    · simp (disch := omega) only [stm_neq]
theorem r_misplaced (hS : MSt B z s Y) (hq : ∀ Y', MSt B z (match s with | .inl e => .inl e | .inr k => .inl (ftE B z k 2)) Y' → FM7 Y Y' → Q 0 SHX R Y') : Mw (d + 1) 163 [vr 364] SHX R Y 0 0 Q := by
  have hS' := hS
  refine Mw_of mok163 rfl fun _ _ => b_X12_misplaced_0 ?_
  rw [ok364]
  cases s with
  | inl e =>
    by_cases h8 : Y 364 8 = 1
    · rw [if_pos h8, ok364, ok364]
      exact r_fails (d := d) hS (by decide) hq
    · rw [if_neg h8, ok364, ok364]
      exact r_fails (d := d) hS (by decide) hq
  | inr k =>
    obtain ⟨_, _, _, _, m8, m6, _⟩ := hS'
    rw [m8]
    by_cases h8 : tkd B z k = 0
    · rw [if_pos (km_0.2 h8), ok364, ok364, m6]
      refine r_fails (d := d) hS (by decide) fun Y' h f => hq Y' ?_ f
      have e : ftE B z k 2 = (1, tpl B z k) := by unfold ftE; rw [if_pos h8]
      show MSt B z (.inl (ftE B z k 2)) Y'
      rw [e]; exact h
    · rw [if_neg fun q => h8 (km_0.1 q), ok364, ok364, m6]
      refine r_fails (d := d) hS (by decide) fun Y' h f => hq Y' ?_ f
      have e : ftE B z k 2 = (2, tpl B z k) := by unfold ftE; rw [if_neg h8]
      show MSt B z (.inl (ftE B z k 2)) Y'
      rw [e]; exact h
theorem r_goOn (hR : RM R) (hS : MSt B z (.inr k) Y) (hk : tkd B z k ≠ 0) (hq : ∀ Y', MSt B z (.inr (k + 1)) Y' → FM7 Y Y' → Q 0 SHX R Y') : Mw (d + 1) 160 [vr 364] SHX R Y 0 0 Q := by
  obtain ⟨hT, h6, h4, h5, hM⟩ := hS
  refine m_goOn (k := k + 1) hR hT (hM.2.2.1 hk) fun X' hX hF => hq X' ⟨MTX_5 hT hF, ?_, ?_, ?_, hX⟩ (FM7_5 hF)
  · rw [hX.2.1]
    have := tok_rng (B := B) hT.2.1.1 (k + 1)
    have := pos_rng (B := B) hT.2.1.1 (k + 1)
    omega
  · rw [hF.2 4 (by omega)]; exact h4
  · rw [hF.2 5 (by omega)]; exact h5
theorem r_must (hR : RM R) (hS : MSt B z s Y) (hk : ∀ k, s = .inr k → c = 1 → tkd B z k ≠ 0) (hc : c = 0 ∨ c = 1) (hq : ∀ Y', MSt B z (muP B z s c) Y' → FM7 Y Y' → Q 0 SHX R Y') : Mw (d + 2) 164 [vr 364, vi c] SHX R Y 0 0 Q := by
  refine Mw_of mok164 rfl fun _ _ => b_X12_must_0 ?_
  rw [ok364]
  refine r_isGood (d := d + 1) hS (fun e he => ?_) fun k he => ?_
  · rw [if_pos rfl]
    subst he
    exact fun _ => hq Y hS FM7_self
  · rw [if_neg (by decide)]
    subst he
    intro _
    rcases hc with rfl | rfl
    · rw [if_pos rfl, ok364]
      refine r_misplaced (d := d) hS fun Y' h f => hq Y' ?_ f
      have e : muP B z (.inr k) 0 = .inl (ftE B z k 2) := by
        show (if (0 : Int) = 1 then (Sum.inr (k + 1) : SNK) else .inl (ftE B z k 2)) = _
        rw [if_neg (by decide)]
      rw [e]; exact h
    · rw [if_neg (by decide), ok364]
      refine r_goOn (d := d) hR hS (hk k rfl rfl) fun Y' h f => hq Y' ?_ f
      have e : muP B z (.inr k) 1 = .inr (k + 1) := by
        show (if (1 : Int) = 1 then (Sum.inr (k + 1) : SNK) else .inl (ftE B z k 2)) = _
        rw [if_pos rfl]
      rw [e]; exact h
theorem km_3 : km x = 3 ↔ x = 2 := by
  unfold km
  by_cases h0 : x = 0
  · rw [if_pos h0]; omega
  rw [if_neg h0]
  by_cases h1 : x = 1
  · rw [if_pos h1]; omega
  rw [if_neg h1]
  by_cases h2 : x = 2
  · rw [if_pos h2]; omega
  rw [if_neg h2]
  by_cases h3 : x = 3
  · rw [if_pos h3]; omega
  rw [if_neg h3]; omega
theorem km_e (hx : 0 ≤ x ∧ x ≤ 5) (hy : 0 ≤ v ∧ v ≤ 5) : km x = km v ↔ x = v := by
  unfold km
  have h1 : x = 0 ∨ x = 1 ∨ x = 2 ∨ x = 3 ∨ x = 4 ∨ x = 5 := by omega
  have h2 : v = 0 ∨ v = 1 ∨ v = 2 ∨ v = 3 ∨ v = 4 ∨ v = 5 := by omega
  rcases h1 with rfl | rfl | rfl | rfl | rfl | rfl <;> rcases h2 with rfl | rfl | rfl | rfl | rfl | rfl <;> decide
theorem km_is (hS : MSt B z (.inr k) Y) (hv : 0 ≤ v ∧ v ≤ 5) : Y 364 8 = km v ↔ tkd B z k = v := by
  obtain ⟨hT, _, _, _, m8, _⟩ := hS
  rw [m8]
  exact km_e (tok_rng hT.2.1.1 k).2.2.2 hv
theorem kw_ne : ∀ i j : Fin 18, i ≠ j → kwL.getD i.val 0 ≠ kwL.getD j.val 0 := by decide
theorem r_isWord (hS : MSt B z s Y) (hj : j < 18) (hw : w = cvw (kwL.getD j 0)) (hq : ∀ v, (v = 0 ∨ v = 1) → (∀ k, s = .inr k → (v = 1 ↔ tkd B z k = 2 ∧ tvl B z k = (j : Int))) → Q v SHX R Y) : Mw d 162 [vr 364, vl w] SHX R Y 0 0 Q := by
  refine Mw_of mok162 rfl fun _ _ => b_X12_isWord_0 ?_
  rw [ok364]
  cases s with
  | inl e =>
    have n : ∀ k : Nat, (Sum.inl e : SNK) ≠ .inr k := fun k h => nomatch h
    have q0 := hq 0 (Or.inl rfl) fun k h => absurd h (n k)
    have q1 := hq 1 (Or.inr rfl) fun k h => absurd h (n k)
    by_cases h8 : Y 364 8 = 3
    · rw [if_pos h8, ok364]
      by_cases h9 : lcmp (Y 364 10) w = 0
      · rw [if_pos h9]; exact q1
      · rw [if_neg h9]; exact q0
    · rw [if_neg h8]; exact q0
  | inr k =>
    have e8 : Y 364 8 = 3 ↔ tkd B z k = 2 := km_is hS (v := 2) (by decide)
    obtain ⟨_, _, _, _, _, _, _, m10, _⟩ := hS
    by_cases h8 : tkd B z k = 2
    · rw [if_pos (e8.2 h8), ok364, m10 (Or.inl h8)]
      obtain ⟨i, i1, i2⟩ := tok_kw h8
      have et : twd B z k = kwL.getD i 0 := by
        unfold twd
        rw [if_pos h8, i2]; rfl
      rw [et, hw]
      by_cases hij : i = j
      · subst hij
        rw [if_pos (lcmp_0.2 rfl)]
        exact hq 1 (Or.inr rfl) fun k' h => by cases h; exact ⟨fun _ => ⟨h8, i2⟩, fun _ => rfl⟩
      · rw [if_neg fun q => ?_]
        · exact hq 0 (Or.inl rfl) fun k' h => by cases h; exact ⟨fun q => absurd q (by decide), fun q => absurd q.2 (by omega)⟩
        · have := (cv_inj (VWd_kw ⟨i, i1⟩) (VWd_kw ⟨j, hj⟩)).1 (lcmp_0.1 q)
          exact kw_ne ⟨i, i1⟩ ⟨j, hj⟩ (fun q => hij (by cases q; rfl)) this
    · rw [if_neg fun q => h8 (e8.1 q)]
      exact hq 0 (Or.inl rfl) fun k' h => by cases h; exact ⟨fun q => absurd q (by decide), fun q => absurd q.1 h8⟩
theorem r_isSign (hR : RM R) (hS : MSt B z s Y) (hq : ∀ v, (v = 0 ∨ v = 1) → (∀ k, s = .inr k → (v = 1 ↔ tkd B z k = 5 ∧ tvl B z k = c)) → Q v SHX R Y) : Mw (d + 1) 161 [vr 364, vi c] SHX R Y 0 0 Q := by
  have hS' := hS
  obtain ⟨hT, h6, _⟩ := hS'
  refine Mw_of mok161 rfl fun _ _ => b_X12_isSignHere_0 ?_
  rw [ok364]
  cases s with
  | inl e =>
    have n : ∀ k : Nat, (Sum.inl e : SNK) ≠ .inr k := fun k h => nomatch h
    have q0 := hq 0 (Or.inl rfl) fun k h => absurd h (n k)
    have q1 := hq 1 (Or.inr rfl) fun k h => absurd h (n k)
    by_cases h8 : Y 364 8 = 5
    · rw [if_pos h8, ok364, ok364]
      refine m_sign (d := d) hR hT h6 ?_
      by_cases h9 : bS B z (Y 364 6) = c
      · rw [if_pos h9]; exact q1
      · rw [if_neg h9]; exact q0
    · rw [if_neg h8]; exact q0
  | inr k =>
    have e8 : Y 364 8 = 5 ↔ tkd B z k = 5 := km_is hS (v := 5) (by decide)
    obtain ⟨_, _, _, _, _, m6, _⟩ := hS
    by_cases h8 : tkd B z k = 5
    · obtain ⟨t1, t2, t3⟩ := tok_sgn h8
      rw [if_pos (e8.2 h8), ok364, ok364]
      refine m_sign (d := d) hR hT h6 ?_
      have eb : bS B z (Y 364 6) = tvl B z k := by
        rw [m6, t1]
        exact if_pos t3
      rw [eb]
      by_cases h9 : tvl B z k = c
      · rw [if_pos h9]
        exact hq 1 (Or.inr rfl) fun k' h => by cases h; exact ⟨fun _ => ⟨h8, h9⟩, fun _ => rfl⟩
      · rw [if_neg h9]
        exact hq 0 (Or.inl rfl) fun k' h => by cases h; exact ⟨fun q => absurd q (by decide), fun q => absurd q.2 h9⟩
    · rw [if_neg fun q => h8 (e8.1 q)]
      exact hq 0 (Or.inl rfl) fun k' h => by cases h; exact ⟨fun q => absurd q (by decide), fun q => absurd q.1 h8⟩
theorem mu_W (h : ∀ k, s = .inr k → (v = 1 ↔ tkd B z k = 2 ∧ tvl B z k = x)) : muP B z s v = muW B z s x := by
  cases s with
  | inl e => rfl
  | inr k =>
    have h := h k rfl
    show (if v = 1 then _ else _) = (if tkd B z k = 2 ∧ tvl B z k = x then _ else _)
    by_cases hv : v = 1
    · rw [if_pos hv, if_pos (h.1 hv)]
    · rw [if_neg hv, if_neg fun q => hv (h.2 q)]
theorem mu_S (h : ∀ k, s = .inr k → (v = 1 ↔ tkd B z k = 5 ∧ tvl B z k = x)) : muP B z s v = muS B z s x := by
  cases s with
  | inl e => rfl
  | inr k =>
    have h := h k rfl
    show (if v = 1 then _ else _) = (if tkd B z k = 5 ∧ tvl B z k = x then _ else _)
    by_cases hv : v = 1
    · rw [if_pos hv, if_pos (h.1 hv)]
    · rw [if_neg hv, if_neg fun q => hv (h.2 q)]
theorem r_mustW (hR : RM R) (hS : MSt B z s Y) (hv : v = 0 ∨ v = 1) (h : ∀ k, s = .inr k → (v = 1 ↔ tkd B z k = 2 ∧ tvl B z k = x)) (hq : ∀ Y', MSt B z (muW B z s x) Y' → FM7 Y Y' → Q 0 SHX R Y') : Mw (d + 2) 164 [vr 364, vi v] SHX R Y 0 0 Q :=
  r_must hR hS (fun k hk h1 => by have := (h k hk).1 h1; omega) hv fun Y' g f => hq Y' (by rw [← mu_W h]; exact g) f
theorem r_mustS (hR : RM R) (hS : MSt B z s Y) (hv : v = 0 ∨ v = 1) (h : ∀ k, s = .inr k → (v = 1 ↔ tkd B z k = 5 ∧ tvl B z k = x)) (hq : ∀ Y', MSt B z (muS B z s x) Y' → FM7 Y Y' → Q 0 SHX R Y') : Mw (d + 2) 164 [vr 364, vi v] SHX R Y 0 0 Q :=
  r_must hR hS (fun k hk h1 => by have := (h k hk).1 h1; omega) hv fun Y' g f => hq Y' (by rw [← mu_S h]; exact g) f
theorem r_numeral (hR : RM R) (hS : MSt B z s Y) (hq : ∀ v Y', MSt B z (nuP B z s lo hi) Y' → FM7 Y Y' → (∀ k k', s = .inr k → nuP B z s lo hi = .inr k' → v = tvl B z k) → Q v SHX R Y') : Mw (d + 2) 165 [vr 364, vi lo, vi hi] SHX R Y 0 0 Q := by
  have fin : ∀ (v : Int) (s' : SNK) (W : MEM), MSt B z s' W → s' = nuP B z s lo hi → FM7 Y W → (∀ k k', s = .inr k → s' = .inr k' → v = tvl B z k) → Go (d + 2) 165 Q 35 [vr 364, vi lo, vn, vi v] [] SHX R W 0 0 := fun v s' W h e f g => by
    refine b2_X12_numeral_35 ?_
    rw [ok364]
    refine r_isGood (d := d + 1) h (fun e' he => ?_) fun k' he => ?_
    · rw [if_pos rfl]
      exact fun _ => hq lo W (by rw [← e]; exact h) f fun k k' _ q => by rw [← e, he] at q; exact nomatch q
    · rw [if_neg (by decide)]
      exact fun _ => hq v W (by rw [← e]; exact h) f fun k k' q1 q2 => g k k' q1 (by rw [e]; exact q2)
  refine Mw_of mok165 rfl fun _ _ => b2_X12_numeral_0 ?_
  rw [ok364]
  cases s with
  | inl e =>
    refine r_isGood (d := d + 1) hS (fun e' he => ?_) fun k' he => nomatch he
    rw [if_pos rfl]
    exact fun _ => hq lo Y hS FM7_self fun k k' q _ => nomatch q
  | inr k =>
    refine r_isGood (d := d + 1) hS (fun e' he => nomatch he) fun k' he => ?_
    have e8 : Y 364 8 = 4 ↔ tkd B z k = 4 := km_is hS (v := 4) (by decide)
    rw [if_neg (by decide), ok364]
    intro _
    -- from the first fault on
    have bad : ∀ (e : Int × Int) (W : MEM), MSt B z (.inl e) W → nuP B z (.inr k) lo hi = .inl e → FM7 Y W → Go (d + 2) 165 Q 27 [vr 364, vi lo, vn, vn] [] SHX R W 0 0 := fun e W h he f => by
      refine b2_X12_numeral_27 ?_
      rw [ok364, ok364]
      refine r_isGood (d := d + 1) h (fun e' _ => ?_) fun k' he => nomatch he
      rw [if_pos rfl]
      exact fun _ => fin _ _ W h he.symm f fun _ _ _ q => nomatch q
    have en : nuP B z (.inr k) lo hi = if tkd B z k = 4 then (if tvl B z k < lo ∨ hi < tvl B z k then .inl (ftE B z k 4) else .inr (k + 1)) else .inl (ftE B z k 2) := rfl
    by_cases h4 : tkd B z k = 4
    · rw [if_pos h4] at en
      rw [if_pos (e8.2 h4)]
      have hS' := hS
      obtain ⟨_, _, _, _, _, m6, _, _, m9⟩ := hS'
      have m9 := m9 h4
      refine b2_X12_numeral_11 ?_
      rw [ok364]
      refine r_isGood (d := d + 1) hS (fun e' he => nomatch he) fun k' he => ?_
      rw [if_neg (by decide), ok364, m9]
      intro _
      have e4 : ftE B z k 4 = (4, tpl B z k) := by unfold ftE; rw [if_neg (by omega)]
      by_cases hl : tvl B z k < lo
      · rw [if_pos hl, ok364, ok364, m6]
        rw [if_pos (Or.inl hl)] at en
        exact r_fails (d := d + 1) hS (by decide) fun W h f => bad _ W h (by rw [en, e4]) f
      · rw [if_neg hl, ok364]
        by_cases hh : hi < tvl B z k
        · rw [if_pos hh, ok364, ok364, m6]
          rw [if_pos (Or.inr hh)] at en
          exact r_fails (d := d + 1) hS (by decide) fun W h f => bad _ W h (by rw [en, e4]) f
        · rw [if_neg hh]
          rw [if_neg (by omega)] at en
          refine b2_X12_numeral_27 ?_
          rw [ok364, ok364, m9]
          refine r_isGood (d := d + 1) hS (fun e' he => nomatch he) fun k' he => ?_
          rw [if_neg (by decide), ok364]
          intro _
          exact r_goOn (d := d) hR hS (by omega) fun W h f => fin _ _ W h en.symm f fun k1 k2 q _ => by cases q; rfl
    · rw [if_neg h4] at en
      rw [if_neg fun q => h4 (e8.1 q), ok364]
      refine r_misplaced (d := d) hS fun W h f => ?_
      refine b2_X12_numeral_11 ?_
      rw [ok364]
      refine r_isGood (d := d + 1) h (fun e' _ => ?_) fun k' he => nomatch he
      rw [if_pos rfl]
      exact fun _ => bad _ W h en f
theorem r_after (hR : RM R) (hS : MSt B z s Y) (hj : j < 18) (hw : w = cvw (kwL.getD j 0)) (hq : ∀ v Y', MSt B z (nuP B z (muW B z s (j : Int)) lo hi) Y' → FM7 Y Y' → (∀ k k', muW B z s (j : Int) = .inr k → nuP B z (muW B z s (j : Int)) lo hi = .inr k' → v = tvl B z k) → Q v SHX R Y') : Mw (d + 3) 166 [vr 364, vl w, vi lo, vi hi] SHX R Y 0 0 Q := by
  refine Mw_of mok166 rfl fun _ _ => b_X12_after_0 ?_
  rw [ok364]
  refine r_isWord (d := d + 2) hS hj hw fun v hv hi => ?_
  intro _
  rw [ok364]
  refine r_mustW (d := d) hR hS hv hi fun Y1 h1 f1 => ?_
  rw [ok364]
  exact r_numeral (d := d) hR h1 fun v Y2 h2 f2 hv => hq v Y2 h2 (FM7_tr f1 f2) hv
end
