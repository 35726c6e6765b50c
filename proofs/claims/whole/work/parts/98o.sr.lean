/-! SHIFT AND REDUCE, pure: the same formulas -/
abbrev SKK : Type := List (Int × Int)
def topW : SKK → Int
  | [] => 8
  | p :: _ => p.1
def cmpd : SKK → Bool
  | [] => false
  | p :: S => if p.1 = 5 ∨ p.1 = 6 then cmpd S else decide (p.1 = 4)
def rdG : SKK → NTW → NTW
  | [], G => G
  | p :: S, G => rdG S (emG G p.2)
def rdW : SKK → Int → Int
  | [], w => w
  | p :: S, w => rdW S (if p.1 = 3 then w - 1 else w)
def popK (r : Int) : SKK → Int → NTW → SKK × Int × NTW
  | [], w, G => ([], w, G)
  | p :: S, w, G => if p.1 ≤ 6 ∧ r ≤ p.1 then popK r S (if p.1 = 3 then w - 1 else w) (emG G p.2) else (p :: S, w, G)
def rkT (kd v : Int) : Int := if opB 1 kd v = true then 2 else if opB 0 kd v = true then 1 else if opB 2 kd v = true then 4 else if opB 3 kd v = true then 5 else if opB 4 kd v = true then 6 else 0
def rkL (l : Int) : Int := if l = 0 then 1 else if l = 1 then 2 else if l = 2 then 4 else if l = 3 then 5 else if l = 4 then 6 else 7
def rlL (l : Int) : Int := if l = 2 then 3 else rkL l
def isNT (kd v : Int) : Prop := kd = 2 ∧ v = 17
abbrev PST : Type := Bool → Nat → SKK → Int → NTW → Prop
section
variable (B : Int → Int) (z : Int) (Φ : RSP → Prop) (P : PST)
/-- a unit is wanted -/
def srU (k : Nat) (S : SKK) (w : Int) (G : NTW) : Prop :=
  if (topW S ≤ 3 ∨ 7 ≤ topW S) ∧ tkd B z k = 2 ∧ tvl B z k = 17 then (if w = 7 then Φ (flt B z k 2) else P true (k + 1) ((3, 20017) :: S) (w + 1) G)
  else if tkd B z k = 5 ∧ tvl B z k = 40 then (if (G 0 8 = 30 ∨ G 0 4 = 90) ∨ w = 7 then Φ (flt B z k 2) else P true (k + 1) ((7, 20017) :: S) (w + 1) (unG G))
  else if tkd B z k = 4 then (if G 0 8 = 30 ∨ G 0 4 = 90 then Φ (flt B z k 2) else P false (k + 1) S w (emG (unG G) (tvl B z k)))
  else if tkd B z k = 3 then (if G 0 8 = 30 ∨ G 0 4 = 90 then Φ (flt B z k 2) else if stH G (tvl B z k) < 0 then Φ (flt B z k 5) else P false (k + 1) S w (emG (unG G) (10000 + stH G (tvl B z k))))
  else Φ (flt B z k 2)
/-- behind a unit -/
def srE (k : Nat) (r : SKK × Int × NTW) : Prop :=
  if 0 < rkT (tkd B z k) (tvl B z k) then P true (k + 1) ((rkT (tkd B z k) (tvl B z k), 20000 + tvl B z k) :: r.1) r.2.1 r.2.2
  else match r.1 with
    | [] => True
    | p :: S => if p.1 = 7 then (if tkd B z k = 5 ∧ tvl B z k = 41 then P false (k + 1) S (r.2.1 - 1) r.2.2 else Φ (flt B z k 2)) else Φ (.inr (k, r.2.2))
def srB (k : Nat) (S : SKK) (w : Int) (G : NTW) : Prop :=
  if opB 2 (tkd B z k) (tvl B z k) = true ∧ cmpd S = true then Φ (flt B z k 2)
  else srE B z Φ P k (popK (rkT (tkd B z k) (tvl B z k)) S w G)
/-- what may stand behind a formula of a level -/
def NOP (l : Int) (k : Nat) (A : SKK) : Prop := (∀ l', l ≤ l' → l' ≤ 4 → l' ≠ 2 → ¬ opB l' (tkd B z k) (tvl B z k) = true) ∧ (l ≤ 2 → opB 2 (tkd B z k) (tvl B z k) = true → cmpd A = true)
def CK (l : Int) (S : SKK) (dep : Int) (r : RSP) : Prop := match r with
  | .inl e => Φ (.inl e)
  | .inr s => ∀ (A : SKK) (w : Int) (G : NTW), rdG A G = s.2 → rdW A w = dep → (∀ p ∈ A, rlL l ≤ p.1 ∧ p.1 ≤ 6) → NOP B z l s.1 A → P false s.1 (A ++ S) w G
end
section
variable {B : Int → Int} {z : Int} {Φ : RSP → Prop} {P : PST}
theorem lp_le {f : Nat → NTW → RSP} {l : Int} (hf : ∀ k G k' G', f k G = .inr (k', G') → k + 1 ≤ k') : ∀ (m k : Nat) (G : NTW) (k' : Nat) (G' : NTW), lpP B z f l m k G = .inr (k', G') → k ≤ k'
  | 0, k, G, k', G', h => by cases h; exact Nat.le_refl _
  | m + 1, k, G, k', G', h => by
    unfold lpP at h
    by_cases ho : opB l (tkd B z k) (tvl B z k) = true
    · rw [if_pos ho] at h
      obtain ⟨k1, G1, h1, h2⟩ := bnd_inr h
      have a := hf _ _ _ _ h1
      have b := lp_le hf m k1 _ k' G' h2
      omega
    · rw [if_neg ho] at h; cases h; exact Nat.le_refl _
theorem fm_le : ∀ (n : Nat) (l dep : Int) (k : Nat) (G : NTW) (k' : Nat) (G' : NTW), fmP B z n l dep k G = .inr (k', G') → k + 1 ≤ k'
  | 0, l, dep, k, G, k', G', h => absurd h flt_no
  | n + 1, l, dep, k, G, k', G', h => by
    unfold fmP at h
    by_cases h5 : 5 ≤ l
    · rw [if_pos h5] at h
      unfold unP at h
      by_cases c1 : tkd B z k = 5 ∧ tvl B z k = 40
      · rw [if_pos c1] at h
        by_cases c2 : (G 0 8 = 30 ∨ G 0 4 = 90) ∨ 6 < dep
        · rw [if_pos c2] at h; exact absurd h flt_no
        · rw [if_neg c2] at h
          obtain ⟨k1, G1, h1, h2⟩ := bnd_inr h
          obtain ⟨_, h3⟩ := pSg_inr h2
          have a := fm_le n _ _ _ _ _ _ h1
          cases h3
          omega
      · rw [if_neg c1] at h
        by_cases c2 : tkd B z k = 4
        · rw [if_pos c2] at h
          by_cases c3 : G 0 8 = 30 ∨ G 0 4 = 90
          · rw [if_pos c3] at h; exact absurd h flt_no
          · rw [if_neg c3] at h; cases h; exact Nat.le_refl _
        · rw [if_neg c2] at h
          by_cases c4 : tkd B z k = 3
          · rw [if_pos c4] at h
            by_cases c3 : G 0 8 = 30 ∨ G 0 4 = 90
            · rw [if_pos c3] at h; exact absurd h flt_no
            · rw [if_neg c3] at h
              by_cases c5 : stH G (tvl B z k) < 0
              · rw [if_pos c5] at h; exact absurd h flt_no
              · rw [if_neg c5] at h; cases h; exact Nat.le_refl _
          · rw [if_neg c4] at h; exact absurd h flt_no
    · rw [if_neg h5] at h
      by_cases c1 : l = 2 ∧ (tkd B z k = 2 ∧ tvl B z k = 17)
      · rw [if_pos c1] at h
        by_cases c2 : 6 < dep
        · rw [if_pos c2] at h; exact absurd h flt_no
        · rw [if_neg c2] at h
          obtain ⟨k1, G1, h1, h2⟩ := bnd_inr h
          have a := fm_le n _ _ _ _ _ _ h1
          cases h2
          omega
      · rw [if_neg c1] at h
        obtain ⟨k1, G1, h1, h2⟩ := bnd_inr h
        have a := fm_le n _ _ _ _ _ _ h1
        have b := lp_le (fun k G k' G' => fm_le n (l + 1) dep k G k' G') _ _ _ _ _ h2
        omega
theorem cmpd_app {A S : SKK} : cmpd A = true → cmpd (A ++ S) = true := by
  induction A with
  | nil => intro h; exact absurd h (by decide)
  | cons p A ih =>
    intro h
    show (if p.1 = 5 ∨ p.1 = 6 then cmpd (A ++ S) else decide (p.1 = 4)) = true
    have h' : (if p.1 = 5 ∨ p.1 = 6 then cmpd A else decide (p.1 = 4)) = true := h
    by_cases hp : p.1 = 5 ∨ p.1 = 6
    · rw [if_pos hp] at h' ⊢; exact ih h'
    · rw [if_neg hp] at h' ⊢; exact h'
theorem cmpd_skip {A S : SKK} (h : ∀ p ∈ A, 5 ≤ p.1 ∧ p.1 ≤ 6) : cmpd (A ++ S) = cmpd S := by
  induction A with
  | nil => rfl
  | cons p A ih =>
    have hp := h p (List.mem_cons_self ..)
    show (if p.1 = 5 ∨ p.1 = 6 then cmpd (A ++ S) else decide (p.1 = 4)) = _
    rw [if_pos (by omega)]
    exact ih fun q hq => h q (List.mem_cons_of_mem _ hq)
theorem cmpd_top {S : SKK} (h : topW S < 4 ∨ 7 ≤ topW S) : cmpd S = false := by
  cases S with
  | nil => rfl
  | cons p S =>
    have h' : p.1 < 4 ∨ 7 ≤ p.1 := h
    show (if p.1 = 5 ∨ p.1 = 6 then cmpd S else decide (p.1 = 4)) = false
    rw [if_neg (by omega)]
    exact decide_eq_false (by omega)
theorem pop_rd {r : Int} {S : SKK} (hS : topW S < r ∨ 7 ≤ topW S) : ∀ (A : SKK) (w : Int) (G : NTW), (∀ p ∈ A, r ≤ p.1 ∧ p.1 ≤ 6) → popK r (A ++ S) w G = (S, rdW A w, rdG A G)
  | [], w, G, _ => by
    cases S with
    | nil => rfl
    | cons p S =>
      have h' : p.1 < r ∨ 7 ≤ p.1 := hS
      show (if p.1 ≤ 6 ∧ r ≤ p.1 then popK r S (if p.1 = 3 then w - 1 else w) (emG G p.2) else (p :: S, w, G)) = _
      rw [if_neg (by omega)]
      rfl
  | p :: A, w, G, h => by
    have hp := h p (List.mem_cons_self ..)
    show (if p.1 ≤ 6 ∧ r ≤ p.1 then popK r (A ++ S) (if p.1 = 3 then w - 1 else w) (emG G p.2) else (p :: (A ++ S), w, G)) = _
    rw [if_pos (by omega)]
    exact pop_rd hS A _ _ fun q hq => h q (List.mem_cons_of_mem _ hq)
theorem rdG_app {A : SKK} {q : Int × Int} : ∀ {G : NTW}, rdG (A ++ [q]) G = emG (rdG A G) q.2 := by
  induction A with
  | nil => intro G; rfl
  | cons p A ih => intro G; exact ih
theorem rdW_app {A : SKK} {q : Int × Int} : ∀ {w : Int}, rdW (A ++ [q]) w = if q.1 = 3 then rdW A w - 1 else rdW A w := by
  induction A with
  | nil => intro w; rfl
  | cons p A ih => intro w; exact ih
end
