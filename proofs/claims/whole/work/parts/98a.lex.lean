/-! THE LEXER, as numbers -/
def bkB (c : Int) : Bool := decide (c = 32 ∨ c = 10)
def ltB (c : Int) : Bool := decide (97 ≤ c ∧ c ≤ 122)
def dgB (c : Int) : Bool := decide (48 ≤ c ∧ c ≤ 57)
def sgB (c : Int) : Bool := decide (c = 59 ∨ c = 40 ∨ c = 41 ∨ c = 60 ∨ c = 62 ∨ c = 61 ∨ c = 43 ∨ c = 45 ∨ c = 42 ∨ c = 47 ∨ c = 37)
def rnF (p : Int → Bool) (B : Int → Int) (z : Int) : Nat → Int → Int
  | 0, e => e
  | n + 1, e => if e < z ∧ p (B e) = true then rnF p B z n (e + 1) else e
/-- the end of a run -/
def rn (p : Int → Bool) (B : Int → Int) (z e : Int) : Int := rnF p B z (z - e).toNat e
def e32 (B : Int → Int) (a : Int) : Nat → Int
  | 0 => 0
  | n + 1 => e32 B a n * 32 + (B (a + (n : Int)) - 96)
def e56 (B : Int → Int) (a : Int) : Nat → Int
  | 0 => 0
  | n + 1 => e56 B a n * 256 + B (a + (n : Int))
def nmF (B : Int → Int) (a : Int) : Nat → Int
  | 0 => 0
  | n + 1 => nmF B a n * 10 + (B (a + (n : Int)) - 48)
def cvF : Nat → Int → Int
  | 0, _ => 0
  | n + 1, x => if x = 0 then 0 else cvF n (x / 32) * 256 + (x % 32 + 96)
def dvF : Nat → Int → Int
  | 0, _ => 0
  | n + 1, y => if y = 0 then 0 else dvF n (y / 256) * 32 + (y % 256 - 96)
abbrev cvw (x : Int) : Int := cvF 8 x
def VWd (x : Int) : Prop := dvF 8 (cvF 8 x) = x
def kwI (x : Int) : Int := idxOf x kwL 0
abbrev TKN : Type := Int × Int × Int × Int
/-- the token that begins at a: kind, place, value, end -/
def tk1 (B : Int → Int) (z a : Int) : TKN :=
  if z ≤ a then (1, z, 0, z)
  else if ltB (B a) = true then
    (if 8 < rn ltB B z a - a then (0, a, 0, z)
     else if kwI (e32 B a (rn ltB B z a - a).toNat) < 0 then (3, a, e32 B a (rn ltB B z a - a).toNat, rn ltB B z a)
     else (2, a, kwI (e32 B a (rn ltB B z a - a).toNat), rn ltB B z a))
  else if dgB (B a) = true then
    (if (rn dgB B z a < z ∧ ltB (B (rn dgB B z a)) = true) ∨ 4 < rn dgB B z a - a then (0, a, 0, z)
     else (4, a, nmF B a (rn dgB B z a - a).toNat, rn dgB B z a))
  else if sgB (B a) = true then (5, a, B a, a + 1)
  else (0, a, 0, z)
def tk (B : Int → Int) (z e : Int) : TKN := tk1 B z (rn bkB B z e)
def pos (B : Int → Int) (z : Int) : Nat → Int
  | 0 => 0
  | k + 1 => (tk B z (pos B z k)).2.2.2
def tok (B : Int → Int) (z : Int) (k : Nat) : TKN := tk B z (pos B z k)
section
variable {p : Int → Bool} {B : Int → Int} {z e a x y : Int}
theorem ltB_iff {c : Int} : ltB c = true ↔ 97 ≤ c ∧ c ≤ 122 := decide_eq_true_iff
theorem dgB_iff {c : Int} : dgB c = true ↔ 48 ≤ c ∧ c ≤ 57 := decide_eq_true_iff
theorem bkB_iff {c : Int} : bkB c = true ↔ c = 32 ∨ c = 10 := decide_eq_true_iff
theorem sgB_iff {c : Int} : sgB c = true ↔ c = 59 ∨ c = 40 ∨ c = 41 ∨ c = 60 ∨ c = 62 ∨ c = 61 ∨ c = 43 ∨ c = 45 ∨ c = 42 ∨ c = 47 ∨ c = 37 := decide_eq_true_iff
theorem rn_step (h : e < z) (hp : p (B e) = true) : rn p B z e = rn p B z (e + 1) := by
  unfold rn
  rw [show (z - e).toNat = (z - (e + 1)).toNat + 1 by omega]
  show (if e < z ∧ p (B e) = true then rnF p B z (z - (e + 1)).toNat (e + 1) else e) = _
  rw [if_pos ⟨h, hp⟩]
theorem rn_stop (h : ¬ (e < z ∧ p (B e) = true)) : rn p B z e = e := by
  unfold rn
  by_cases hz : e < z
  · rw [show (z - e).toNat = (z - (e + 1)).toNat + 1 by omega]
    show (if e < z ∧ p (B e) = true then rnF p B z (z - (e + 1)).toNat (e + 1) else e) = _
    rw [if_neg h]
  · rw [show (z - e).toNat = 0 by omega]
    rfl
theorem rn_spec : ∀ (n : Nat) (e : Int), (z - e).toNat = n → e ≤ rn p B z e ∧ (e ≤ z → rn p B z e ≤ z) ∧ (∀ i, e ≤ i → i < rn p B z e → p (B i) = true) ∧ ¬ (rn p B z e < z ∧ p (B (rn p B z e)) = true)
  | 0, e, hn => by
    have h : rn p B z e = e := rn_stop (by omega)
    rw [h]
    exact ⟨Int.le_refl _, id, fun i i0 i1 => by omega, by omega⟩
  | n + 1, e, hn => by
    by_cases hp : p (B e) = true
    · have ih := rn_spec n (e + 1) (by omega)
      rw [rn_step (by omega) hp]
      obtain ⟨h1, h2, h3, h4⟩ := ih
      refine ⟨by omega, fun _ => h2 (by omega), fun i i0 i1 => ?_, h4⟩
      by_cases hi : i = e
      · rw [hi]; exact hp
      · exact h3 i (by omega) i1
    · have h : rn p B z e = e := rn_stop fun z => hp z.2
      rw [h]
      exact ⟨Int.le_refl _, id, fun i i0 i1 => by omega, fun z => hp z.2⟩
theorem rn_ge : e ≤ rn p B z e := (rn_spec _ e rfl).1
theorem rn_le (h : e ≤ z) : rn p B z e ≤ z := (rn_spec _ e rfl).2.1 h
theorem rn_in : ∀ i, e ≤ i → i < rn p B z e → p (B i) = true := (rn_spec _ e rfl).2.2.1
theorem rn_end : ¬ (rn p B z e < z ∧ p (B (rn p B z e)) = true) := (rn_spec _ e rfl).2.2.2
theorem rn_gt (h : e < z) (hp : p (B e) = true) : e + 1 ≤ rn p B z e := by
  rw [rn_step h hp]
  exact rn_ge
/-- the run is what it is -/
theorem rn_is {j : Int} : ∀ (n : Nat) (e : Int), (j - e).toNat = n → e ≤ j → (∀ i, e ≤ i → i < j → i < z ∧ p (B i) = true) → ¬ (j < z ∧ p (B j) = true) → rn p B z e = j
  | 0, e, hn, h0, _, h2 => by
    have : e = j := by omega
    subst this
    exact rn_stop h2
  | n + 1, e, hn, h0, h1, h2 => by
    have h := h1 e (Int.le_refl _) (by omega)
    rw [rn_step h.1 h.2]
    exact rn_is n (e + 1) (by omega) (by omega) (fun i i0 i1 => h1 i (by omega) i1) h2
/-- letters alone -/
def LTR (B : Int → Int) (a : Int) (n : Nat) : Prop := ∀ i, a ≤ i → i < a + (n : Int) → 97 ≤ B i ∧ B i ≤ 122
def q5 : Nat → Int
  | 0 => 0
  | n + 1 => q5 n * 32 + 26
def s5 : Nat → Int
  | 0 => 0
  | n + 1 => s5 n * 32 + 1
def q8 : Nat → Int
  | 0 => 0
  | n + 1 => q8 n * 256 + 122
theorem e32_b : ∀ n : Nat, LTR B a n → s5 n ≤ e32 B a n ∧ e32 B a n ≤ q5 n ∧ 0 ≤ s5 n
  | 0, _ => ⟨Int.le_refl _, Int.le_refl _, Int.le_refl _⟩
  | n + 1, h => by
    have ih := e32_b n fun i i0 i1 => h i i0 (by omega)
    have := h (a + (n : Int)) (by omega) (by omega)
    show s5 n * 32 + 1 ≤ e32 B a n * 32 + (B (a + (n : Int)) - 96) ∧ e32 B a n * 32 + (B (a + (n : Int)) - 96) ≤ q5 n * 32 + 26 ∧ 0 ≤ s5 n * 32 + 1
    omega
theorem e56_b : ∀ n : Nat, LTR B a n → 0 ≤ e56 B a n ∧ e56 B a n ≤ q8 n
  | 0, _ => ⟨Int.le_refl _, Int.le_refl _⟩
  | n + 1, h => by
    have ih := e56_b n fun i i0 i1 => h i i0 (by omega)
    have := h (a + (n : Int)) (by omega) (by omega)
    show 0 ≤ e56 B a n * 256 + B (a + (n : Int)) ∧ e56 B a n * 256 + B (a + (n : Int)) ≤ q8 n * 256 + 122
    omega
theorem q5_8 : ∀ n : Nat, n ≤ 8 → 0 ≤ q5 n ∧ q5 n ≤ 1099511627776
  | 0, _ => by decide
  | 1, _ => by decide
  | 2, _ => by decide
  | 3, _ => by decide
  | 4, _ => by decide
  | 5, _ => by decide
  | 6, _ => by decide
  | 7, _ => by decide
  | 8, _ => by decide
  | n + 9, h => by omega
theorem q8_7 : ∀ n : Nat, n ≤ 7 → 0 ≤ q8 n ∧ q8 n ≤ 36028797018963967
  | 0, _ => by decide
  | 1, _ => by decide
  | 2, _ => by decide
  | 3, _ => by decide
  | 4, _ => by decide
  | 5, _ => by decide
  | 6, _ => by decide
  | 7, _ => by decide
  | n + 8, h => by omega
theorem cv_e32 : ∀ (k n : Nat), n ≤ k → LTR B a n → cvF k (e32 B a n) = e56 B a n
  | 0, 0, _, _ => rfl
  | 0, n + 1, h, _ => by omega
  | k + 1, 0, _, _ => if_pos rfl
  | k + 1, n + 1, h, hl => by
    have hl' : LTR B a n := fun i i0 i1 => hl i i0 (by omega)
    have b := e32_b n hl'
    have c := hl (a + (n : Int)) (by omega) (by omega)
    have ih := cv_e32 k n (by omega) hl'
    obtain ⟨w, hw⟩ : ∃ w, w = e32 B a n := ⟨_, rfl⟩
    show (if e32 B a n * 32 + (B (a + (n : Int)) - 96) = 0 then 0 else cvF k ((e32 B a n * 32 + (B (a + (n : Int)) - 96)) / 32) * 256 + ((e32 B a n * 32 + (B (a + (n : Int)) - 96)) % 32 + 96)) = e56 B a n * 256 + B (a + (n : Int))
    rw [← hw] at b ih ⊢
    rw [if_neg (by omega), show (w * 32 + (B (a + (n : Int)) - 96)) / 32 = w by omega, ih]
    omega
theorem dv_e56 : ∀ (k n : Nat), n ≤ k → LTR B a n → dvF k (e56 B a n) = e32 B a n
  | 0, 0, _, _ => rfl
  | 0, n + 1, h, _ => by omega
  | k + 1, 0, _, _ => if_pos rfl
  | k + 1, n + 1, h, hl => by
    have hl' : LTR B a n := fun i i0 i1 => hl i i0 (by omega)
    have b := e56_b n hl'
    have c := hl (a + (n : Int)) (by omega) (by omega)
    have ih := dv_e56 k n (by omega) hl'
    obtain ⟨w, hw⟩ : ∃ w, w = e56 B a n := ⟨_, rfl⟩
    show (if e56 B a n * 256 + B (a + (n : Int)) = 0 then 0 else dvF k ((e56 B a n * 256 + B (a + (n : Int))) / 256) * 32 + ((e56 B a n * 256 + B (a + (n : Int))) % 256 - 96)) = e32 B a n * 32 + (B (a + (n : Int)) - 96)
    rw [← hw] at b ih ⊢
    rw [if_neg (by omega), show (w * 256 + B (a + (n : Int))) / 256 = w by omega, ih]
    omega
theorem VWd_e {n : Nat} (hn : n ≤ 8) (h : LTR B a n) : VWd (e32 B a n) := by
  unfold VWd
  rw [cv_e32 8 n hn h, dv_e56 8 n hn h]
theorem cv_inj (h : VWd x) (g : VWd y) : cvw x = cvw y ↔ x = y := by
  constructor
  · intro e
    rw [← h, ← g]
    exact congrArg (dvF 8) e
  · exact fun e => congrArg cvw e
theorem VWd_kw : ∀ i : Fin 18, VWd (kwL.getD i.val 0) := by
  intro i
  unfold VWd
  revert i
  decide
theorem idx_no : ∀ (l : List Int) (i : Int), 0 ≤ i → idxOf x l i < 0 → x ∉ l
  | [], _, _, _ => by simp
  | y :: t, i, h0, h => by
    unfold idxOf at h
    by_cases e : x = y
    · rw [if_pos e] at h; omega
    · rw [if_neg e] at h
      have := idx_no t (i + 1) (by omega) h
      simp [e, this]
theorem idx_at : ∀ (l : List Int) (i : Int), 0 ≤ i → 0 ≤ idxOf x l i → ∃ j : Nat, j < l.length ∧ idxOf x l i = i + (j : Int) ∧ l.getD j 0 = x ∧ ∀ u : Nat, u < j → l.getD u 0 ≠ x
  | [], _, _, h => absurd h (by show ¬ (0 : Int) ≤ -1; decide)
  | y :: t, i, h0, h => by
    unfold idxOf at h ⊢
    by_cases e : x = y
    · rw [if_pos e]
      exact ⟨0, Nat.succ_pos _, by omega, e.symm, fun u hu => by omega⟩
    · rw [if_neg e] at h ⊢
      obtain ⟨j, j1, j2, j3, j4⟩ := idx_at t (i + 1) (by omega) h
      refine ⟨j + 1, Nat.succ_lt_succ j1, by omega, j3, fun u hu => ?_⟩
      match u, hu with
      | 0, _ => exact fun z => e z.symm
      | u + 1, hu => exact j4 u (by omega)
theorem kwI_no (h : kwI x < 0) : ∀ i : Nat, i < 18 → kwL.getD i 0 ≠ x := fun i hi e => idx_no kwL 0 (Int.le_refl _) h (by
  have : kwL.getD i 0 = kwL[i]'hi := by rw [List.getD_eq_getElem?_getD, List.getElem?_eq_getElem (show i < kwL.length from hi)]; rfl
  rw [← e, this]
  exact List.getElem_mem _)
theorem kwI_at (h : ¬ kwI x < 0) : ∃ j : Nat, j < 18 ∧ kwI x = (j : Int) ∧ kwL.getD j 0 = x ∧ ∀ u : Nat, u < j → kwL.getD u 0 ≠ x := by
  obtain ⟨j, j1, j2, j3, j4⟩ := idx_at (x := x) kwL 0 (Int.le_refl _) (by unfold kwI at h; omega)
  exact ⟨j, j1, by unfold kwI; omega, j3, j4⟩
theorem nmF_b : ∀ n : Nat, (∀ i, a ≤ i → i < a + (n : Int) → 48 ≤ B i ∧ B i ≤ 57) → 0 ≤ nmF B a n
  | 0, _ => Int.le_refl _
  | n + 1, h => by
    have ih := nmF_b n fun i i0 i1 => h i i0 (by omega)
    have := h (a + (n : Int)) (by omega) (by omega)
    show 0 ≤ nmF B a n * 10 + (B (a + (n : Int)) - 48)
    omega
theorem nm_4 {n : Nat} (hn : n ≤ 4) (h : ∀ i, a ≤ i → i < a + (n : Int) → 48 ≤ B i ∧ B i ≤ 57) : 0 ≤ nmF B a n ∧ nmF B a n ≤ 9999 := by
  have g : ∀ k : Nat, k < n → 48 ≤ B (a + (k : Int)) ∧ B (a + (k : Int)) ≤ 57 := fun k hk => h _ (by omega) (by omega)
  match n, hn, g with
  | 0, _, _ =>
    show (0 : Int) ≤ 0 ∧ (0 : Int) ≤ 9999
    decide
  | 1, _, g =>
    have g0 := g 0 (by decide)
    show 0 ≤ 0 * 10 + (B (a + ((0 : Nat) : Int)) - 48) ∧ 0 * 10 + (B (a + ((0 : Nat) : Int)) - 48) ≤ 9999
    omega
  | 2, _, g =>
    have g0 := g 0 (by decide)
    have g1 := g 1 (by decide)
    show 0 ≤ (0 * 10 + (B (a + ((0 : Nat) : Int)) - 48)) * 10 + (B (a + ((1 : Nat) : Int)) - 48) ∧ (0 * 10 + (B (a + ((0 : Nat) : Int)) - 48)) * 10 + (B (a + ((1 : Nat) : Int)) - 48) ≤ 9999
    omega
  | 3, _, g =>
    have g0 := g 0 (by decide)
    have g1 := g 1 (by decide)
    have g2 := g 2 (by decide)
    show 0 ≤ ((0 * 10 + (B (a + ((0 : Nat) : Int)) - 48)) * 10 + (B (a + ((1 : Nat) : Int)) - 48)) * 10 + (B (a + ((2 : Nat) : Int)) - 48) ∧ ((0 * 10 + (B (a + ((0 : Nat) : Int)) - 48)) * 10 + (B (a + ((1 : Nat) : Int)) - 48)) * 10 + (B (a + ((2 : Nat) : Int)) - 48) ≤ 9999
    omega
  | 4, _, g =>
    have g0 := g 0 (by decide)
    have g1 := g 1 (by decide)
    have g2 := g 2 (by decide)
    have g3 := g 3 (by decide)
    show 0 ≤ (((0 * 10 + (B (a + ((0 : Nat) : Int)) - 48)) * 10 + (B (a + ((1 : Nat) : Int)) - 48)) * 10 + (B (a + ((2 : Nat) : Int)) - 48)) * 10 + (B (a + ((3 : Nat) : Int)) - 48) ∧ (((0 * 10 + (B (a + ((0 : Nat) : Int)) - 48)) * 10 + (B (a + ((1 : Nat) : Int)) - 48)) * 10 + (B (a + ((2 : Nat) : Int)) - 48)) * 10 + (B (a + ((3 : Nat) : Int)) - 48) ≤ 9999
    omega
  | n + 5, hn, _ => omega
end
