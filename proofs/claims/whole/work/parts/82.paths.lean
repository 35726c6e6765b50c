/-! PATHS: counted from either end -/
def dl (p : Prop) [Decidable p] : Int := if p then 1 else 0
def Bf (N : NTW) : Nat → Int → Int → Int → Int
  | 0, b, s, t => if b = 0 ∧ s = t then 1 else 0
  | k + 1, b, s, t => (if b = 0 ∧ s = t then 1 else 0) + sm (fun w => if N 6 w = s ∧ N 8 w ≤ b then Bf N k (b - N 8 w) (N 7 w) t else 0) 0 (N 0 2).toNat
def Ff (N : NTW) : Nat → Int → Int → Int → Int
  | 0, b, s, t => if b = 0 ∧ s = t then 1 else 0
  | k + 1, b, s, t => (if b = 0 ∧ s = t then 1 else 0) + sm (fun w => if N 7 w = t ∧ N 8 w ≤ b then Ff N k (b - N 8 w) s (N 6 w) else 0) 0 (N 0 2).toNat
def mn9 (x : Int) : Int := if 1000000000 < x then 1000000000 else x
theorem mn9_add {x y : Int} (hx : 0 ≤ x) (hy : 0 ≤ y) : mn9 (mn9 x + mn9 y) = mn9 (x + y) := by
  unfold mn9
  repeat' split
  all_goals omega
theorem mn9_b {x : Int} (hx : 0 ≤ x) : 0 ≤ mn9 x ∧ mn9 x ≤ 1000000000 ∧ (0 < mn9 x ↔ 0 < x) := by
  unfold mn9
  split <;> omega
section
variable {N : NTW}
theorem Bf_nn : ∀ (k : Nat) (b s t : Int), 0 ≤ Bf N k b s t
  | 0, b, s, t => by unfold Bf; split <;> decide
  | k + 1, b, s, t => by
    unfold Bf
    have h1 : (0 : Int) ≤ (if b = 0 ∧ s = t then 1 else 0) := by split <;> decide
    have h2 := sm_nn (f := fun w => if N 6 w = s ∧ N 8 w ≤ b then Bf N k (b - N 8 w) (N 7 w) t else 0) (a := 0) (N 0 2).toNat fun w _ _ => by
      show (0 : Int) ≤ if N 6 w = s ∧ N 8 w ≤ b then Bf N k (b - N 8 w) (N 7 w) t else 0
      split
      · exact Bf_nn k _ _ _
      · decide
    omega
theorem Ff_nn : ∀ (k : Nat) (b s t : Int), 0 ≤ Ff N k b s t
  | 0, b, s, t => by unfold Ff; split <;> decide
  | k + 1, b, s, t => by
    unfold Ff
    have h1 : (0 : Int) ≤ (if b = 0 ∧ s = t then 1 else 0) := by split <;> decide
    have h2 := sm_nn (f := fun w => if N 7 w = t ∧ N 8 w ≤ b then Ff N k (b - N 8 w) s (N 6 w) else 0) (a := 0) (N 0 2).toNat fun w _ _ => by
      show (0 : Int) ≤ if N 7 w = t ∧ N 8 w ≤ b then Ff N k (b - N 8 w) s (N 6 w) else 0
      split
      · exact Ff_nn k _ _ _
      · decide
    omega
theorem Bf_fuel (hW : WN N) : ∀ (k : Nat) (b s t : Int), b ≤ (k : Int) → Bf N k b s t = Bf N (k + 1) b s t
  | 0, b, s, t, h => by
    show _ = (if b = 0 ∧ s = t then 1 else 0) + sm (fun w => if N 6 w = s ∧ N 8 w ≤ b then Bf N 0 (b - N 8 w) (N 7 w) t else 0) 0 (N 0 2).toNat
    rw [sm_0 (f := fun w => if N 6 w = s ∧ N 8 w ≤ b then Bf N 0 (b - N 8 w) (N 7 w) t else 0) _ fun w w0 w1 => by
      have := wn_wb hW w w0 (by omega)
      exact if_neg (by omega)]
    show (if b = 0 ∧ s = t then (1 : Int) else 0) = _
    omega
  | k + 1, b, s, t, h => by
    show (if b = 0 ∧ s = t then 1 else 0) + sm (fun w => if N 6 w = s ∧ N 8 w ≤ b then Bf N k (b - N 8 w) (N 7 w) t else 0) 0 (N 0 2).toNat = (if b = 0 ∧ s = t then 1 else 0) + sm (fun w => if N 6 w = s ∧ N 8 w ≤ b then Bf N (k + 1) (b - N 8 w) (N 7 w) t else 0) 0 (N 0 2).toNat
    congr 1
    refine sm_congr _ fun w w0 w1 => ?_
    have := wn_wb hW w w0 (by omega)
    show (if N 6 w = s ∧ N 8 w ≤ b then Bf N k (b - N 8 w) (N 7 w) t else 0) = if N 6 w = s ∧ N 8 w ≤ b then Bf N (k + 1) (b - N 8 w) (N 7 w) t else 0
    split
    · exact Bf_fuel hW k _ _ _ (by omega)
    · rfl
theorem Ff_fuel (hW : WN N) : ∀ (k : Nat) (b s t : Int), b ≤ (k : Int) → Ff N k b s t = Ff N (k + 1) b s t
  | 0, b, s, t, h => by
    show _ = (if b = 0 ∧ s = t then 1 else 0) + sm (fun w => if N 7 w = t ∧ N 8 w ≤ b then Ff N 0 (b - N 8 w) s (N 6 w) else 0) 0 (N 0 2).toNat
    rw [sm_0 (f := fun w => if N 7 w = t ∧ N 8 w ≤ b then Ff N 0 (b - N 8 w) s (N 6 w) else 0) _ fun w w0 w1 => by
      have := wn_wb hW w w0 (by omega)
      exact if_neg (by omega)]
    show (if b = 0 ∧ s = t then (1 : Int) else 0) = _
    omega
  | k + 1, b, s, t, h => by
    show (if b = 0 ∧ s = t then 1 else 0) + sm (fun w => if N 7 w = t ∧ N 8 w ≤ b then Ff N k (b - N 8 w) s (N 6 w) else 0) 0 (N 0 2).toNat = (if b = 0 ∧ s = t then 1 else 0) + sm (fun w => if N 7 w = t ∧ N 8 w ≤ b then Ff N (k + 1) (b - N 8 w) s (N 6 w) else 0) 0 (N 0 2).toNat
    congr 1
    refine sm_congr _ fun w w0 w1 => ?_
    have := wn_wb hW w w0 (by omega)
    show (if N 7 w = t ∧ N 8 w ≤ b then Ff N k (b - N 8 w) s (N 6 w) else 0) = if N 7 w = t ∧ N 8 w ≤ b then Ff N (k + 1) (b - N 8 w) s (N 6 w) else 0
    split
    · exact Ff_fuel hW k _ _ _ (by omega)
    · rfl
/-- counted by the first way, counted by the last -/
theorem BF2 {k : Nat} (hW : WN N) (hB : ∀ b s t, Bf N k b s t = Ff N k b s t) (hB1 : ∀ b s t, Bf N (k + 1) b s t = Ff N (k + 1) b s t) (b s t : Int) : Bf N (k + 2) b s t = Ff N (k + 2) b s t := by
  show (if b = 0 ∧ s = t then 1 else 0) + sm (fun w => if N 6 w = s ∧ N 8 w ≤ b then Bf N (k + 1) (b - N 8 w) (N 7 w) t else 0) 0 (N 0 2).toNat = (if b = 0 ∧ s = t then 1 else 0) + sm (fun w => if N 7 w = t ∧ N 8 w ≤ b then Ff N (k + 1) (b - N 8 w) s (N 6 w) else 0) 0 (N 0 2).toNat
  congr 1
  have hpos : ∀ w : Int, 0 ≤ w ∧ w < 0 + ((N 0 2).toNat : Int) → 1 ≤ N 8 w := fun w hw => (wn_wb hW w hw.1 (by omega)).1
  have e1 : sm (fun w => if N 6 w = s ∧ N 8 w ≤ b then Bf N (k + 1) (b - N 8 w) (N 7 w) t else 0) 0 (N 0 2).toNat = sm (fun w => (if N 6 w = s ∧ N 7 w = t ∧ N 8 w = b then 1 else 0) + sm (fun v => if N 6 w = s ∧ N 7 v = t ∧ N 8 w ≤ b ∧ N 8 v ≤ b - N 8 w then Ff N k (b - N 8 w - N 8 v) (N 7 w) (N 6 v) else 0) 0 (N 0 2).toNat) 0 (N 0 2).toNat := by
    refine sm_congr _ fun w _ _ => ?_
    show (if N 6 w = s ∧ N 8 w ≤ b then Bf N (k + 1) (b - N 8 w) (N 7 w) t else 0) = (if N 6 w = s ∧ N 7 w = t ∧ N 8 w = b then 1 else 0) + sm (fun v => if N 6 w = s ∧ N 7 v = t ∧ N 8 w ≤ b ∧ N 8 v ≤ b - N 8 w then Ff N k (b - N 8 w - N 8 v) (N 7 w) (N 6 v) else 0) 0 (N 0 2).toNat
    by_cases h : N 6 w = s ∧ N 8 w ≤ b
    · rw [if_pos h, hB1]
      show (if b - N 8 w = 0 ∧ N 7 w = t then 1 else 0) + sm (fun v => if N 7 v = t ∧ N 8 v ≤ b - N 8 w then Ff N k (b - N 8 w - N 8 v) (N 7 w) (N 6 v) else 0) 0 (N 0 2).toNat = _
      congr 1
      · by_cases h2 : b - N 8 w = 0 ∧ N 7 w = t
        · rw [if_pos h2, if_pos ⟨h.1, h2.2, by omega⟩]
        · rw [if_neg h2, if_neg fun z => h2 ⟨by omega, z.2.1⟩]
      · refine sm_congr _ fun v _ _ => ?_
        show (if N 7 v = t ∧ N 8 v ≤ b - N 8 w then _ else _) = if N 6 w = s ∧ N 7 v = t ∧ N 8 w ≤ b ∧ N 8 v ≤ b - N 8 w then _ else _
        by_cases h3 : N 7 v = t ∧ N 8 v ≤ b - N 8 w
        · rw [if_pos h3, if_pos ⟨h.1, h3.1, h.2, h3.2⟩]
        · rw [if_neg h3, if_neg fun z => h3 ⟨z.2.1, z.2.2.2⟩]
    · rw [if_neg h, if_neg fun z => h ⟨z.1, by omega⟩, sm_0 _ fun v _ _ => if_neg fun z => h ⟨z.1, z.2.2.1⟩]
      rfl
  have e2 : sm (fun v => if N 7 v = t ∧ N 8 v ≤ b then Ff N (k + 1) (b - N 8 v) s (N 6 v) else 0) 0 (N 0 2).toNat = sm (fun v => (if N 6 v = s ∧ N 7 v = t ∧ N 8 v = b then 1 else 0) + sm (fun w => if N 6 w = s ∧ N 7 v = t ∧ N 8 w ≤ b ∧ N 8 v ≤ b - N 8 w then Ff N k (b - N 8 w - N 8 v) (N 7 w) (N 6 v) else 0) 0 (N 0 2).toNat) 0 (N 0 2).toNat := by
    refine sm_congr _ fun v v0 v1 => ?_
    show (if N 7 v = t ∧ N 8 v ≤ b then Ff N (k + 1) (b - N 8 v) s (N 6 v) else 0) = (if N 6 v = s ∧ N 7 v = t ∧ N 8 v = b then 1 else 0) + sm (fun w => if N 6 w = s ∧ N 7 v = t ∧ N 8 w ≤ b ∧ N 8 v ≤ b - N 8 w then Ff N k (b - N 8 w - N 8 v) (N 7 w) (N 6 v) else 0) 0 (N 0 2).toNat
    by_cases h : N 7 v = t ∧ N 8 v ≤ b
    · rw [if_pos h, ← hB1]
      show (if b - N 8 v = 0 ∧ s = N 6 v then 1 else 0) + sm (fun w => if N 6 w = s ∧ N 8 w ≤ b - N 8 v then Bf N k (b - N 8 v - N 8 w) (N 7 w) (N 6 v) else 0) 0 (N 0 2).toNat = _
      congr 1
      · by_cases h2 : b - N 8 v = 0 ∧ s = N 6 v
        · rw [if_pos h2, if_pos ⟨h2.2.symm, h.1, by omega⟩]
        · rw [if_neg h2, if_neg fun z => h2 ⟨by omega, z.1.symm⟩]
      · refine sm_congr _ fun w w0 w1 => ?_
        show (if N 6 w = s ∧ N 8 w ≤ b - N 8 v then Bf N k (b - N 8 v - N 8 w) (N 7 w) (N 6 v) else 0) = if N 6 w = s ∧ N 7 v = t ∧ N 8 w ≤ b ∧ N 8 v ≤ b - N 8 w then _ else _
        rw [hB, show b - N 8 v - N 8 w = b - N 8 w - N 8 v by omega]
        by_cases h3 : N 6 w = s ∧ N 8 w ≤ b - N 8 v
        · by_cases h4 : N 8 w ≤ b
          · rw [if_pos h3, if_pos ⟨h3.1, h.1, h4, by omega⟩]
          · exact absurd (hpos v ⟨v0, v1⟩) (by omega)
        · rw [if_neg h3, if_neg fun z => h3 ⟨z.1, by omega⟩]
    · rw [if_neg h, if_neg fun z => h ⟨z.2.1, by omega⟩, sm_0 _ fun w w0 w1 => if_neg fun z => h ⟨z.2.1, by have := hpos w ⟨w0, w1⟩; omega⟩]
      rfl
  rw [e1, e2, sm_addf, sm_addf, sm_swap]
end
