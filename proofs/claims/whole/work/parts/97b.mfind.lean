/-! MEND, as numbers: the first ways found -/
def NMd (U : Int → Prop) (P : NTW → Prop) : Nat → Int → NTW → Prop
  | 0, _, N => ¬ P N
  | k + 1, f, N => ∀ w b, f ≤ w → w < N 0 2 → U w → 1 ≤ b → b ≤ 9 → b ≠ N 8 w → NMd U P k (w + 1) (chN N w b)
def MF (U : Int → Prop) (P : NTW → Prop) : Nat → Int → NTW → List Int → Prop
  | 0, _, N, l => P N ∧ l = []
  | k + 1, f, N, l => ∃ w b l', l = (10 * w + b) :: l' ∧ f ≤ w ∧ w < N 0 2 ∧ U w ∧ 1 ≤ b ∧ b ≤ 9 ∧ b ≠ N 8 w ∧ MF U P k (w + 1) (chN N w b) l' ∧ ∀ w' b', f ≤ w' → w' < N 0 2 → U w' → 1 ≤ b' → b' ≤ 9 → b' ≠ N 8 w' → (w' < w ∨ (w' = w ∧ b' < b)) → NMd U P k (w' + 1) (chN N w' b')
def TT : Int → Prop := fun _ => True
section
variable {U : Int → Prop} {P : NTW → Prop}
theorem MF_len : ∀ (k : Nat) (f : Int) (N : NTW) (l : List Int), MF U P k f N l → l.length = k
  | 0, _, _, l, h => by rw [h.2]; rfl
  | k + 1, f, N, l, ⟨w, b, l', h1, _, _, _, _, _, _, h2, _⟩ => by
    rw [h1, List.length_cons, MF_len k _ _ _ h2]
theorem MF_no : ∀ (k : Nat) (f : Int) (N : NTW) (l : List Int), MF U P k f N l → ¬ NMd U P k f N
  | 0, _, _, _, h, g => g h.1
  | k + 1, f, N, l, ⟨w, b, l', h1, h2, h3, h4, h5, h6, h7, h8, _⟩, g => MF_no k _ _ _ h8 (g w b h2 h3 h4 h5 h6 h7)
theorem MF_one : ∀ (k : Nat) (f : Int) (N : NTW) (l m : List Int), MF U P k f N l → MF U P k f N m → l = m
  | 0, _, _, _, _, h, g => h.2.trans g.2.symm
  | k + 1, f, N, l, m, ⟨w, b, l', h1, h2, h3, h4, h5, h6, h7, h8, h9⟩, ⟨v, a, m', g1, g2, g3, g4, g5, g6, g7, g8, g9⟩ => by
    by_cases e : w = v ∧ b = a
    · obtain ⟨rfl, rfl⟩ := e
      rw [h1, g1, MF_one k _ _ _ _ h8 g8]
    · by_cases lt : w < v ∨ (w = v ∧ b < a)
      · exact absurd (g9 w b h2 h3 h4 h5 h6 h7 lt) (MF_no k _ _ _ h8)
      · exact absurd (h9 v a g2 g3 g4 g5 g6 g7 (by omega)) (MF_no k _ _ _ g8)
theorem chN_comm {N : NTW} {w v a b : Int} (h : w ≠ v) : chN (chN N w a) v b = chN (chN N v b) w a := by
  funext i
  unfold chN
  by_cases hi : i = 8
  · rw [if_pos hi, if_pos hi, if_pos rfl, if_pos rfl]
    exact upf_comm h
  · rw [if_neg hi, if_neg hi, if_neg hi, if_neg hi]
theorem chN_0 {N : NTW} {w b : Int} : chN N w b 0 = N 0 := SN_ch 0 (by decide)
theorem chN_8n {N : NTW} {w b v : Int} (h : v ≠ w) : chN N w b 8 v = N 8 v := by rw [chN_8, upf_ne h]
/-- useless ways never mend where nothing is mended -/
theorem NMd_1 {f : Int} {N : NTW} (hu : ∀ w b, f ≤ w → w < N 0 2 → ¬ U w → 1 ≤ b → b ≤ 9 → (P (chN N w b) ↔ P N)) (h0 : ¬ P N) (h : NMd U P 1 f N) : NMd TT P 1 f N := fun w b w0 w1 _ b1 b9 hb => by
  by_cases hU : U w
  · exact h w b w0 w1 hU b1 b9 hb
  · exact fun z => h0 ((hu w b w0 w1 hU b1 b9).1 z)
theorem MF_1 {f : Int} {N : NTW} {l : List Int} (hu : ∀ w b, f ≤ w → w < N 0 2 → ¬ U w → 1 ≤ b → b ≤ 9 → (P (chN N w b) ↔ P N)) (h0 : ¬ P N) (h : MF U P 1 f N l) : MF TT P 1 f N l := by
  obtain ⟨w, b, l', h1, h2, h3, h4, h5, h6, h7, h8, h9⟩ := h
  refine ⟨w, b, l', h1, h2, h3, trivial, h5, h6, h7, h8, fun v a v0 v1 _ a1 a9 ha lt => ?_⟩
  by_cases hU : U v
  · exact h9 v a v0 v1 hU a1 a9 ha lt
  · exact fun z => h0 ((hu v a v0 v1 hU a1 a9).1 z)
theorem two_no {N : NTW} (hu : ∀ (N' : NTW) w b, (N' = N ∨ ∃ v a, 0 ≤ v ∧ v < N 0 2 ∧ 1 ≤ a ∧ a ≤ 9 ∧ N' = chN N v a) → 0 ≤ w → w < N 0 2 → ¬ U w → 1 ≤ b → b ≤ 9 → (P (chN N' w b) ↔ P N')) (h1 : NMd TT P 1 0 N) {w b : Int} (w0 : 0 ≤ w) (w1 : w < N 0 2) (hU : ¬ U w) (b1 : 1 ≤ b) (b9 : b ≤ 9) : NMd TT P 1 (w + 1) (chN N w b) := fun v a v0 v1 _ a1 a9 ha => by
  rw [chN_0] at v1
  rw [chN_8n (by omega)] at ha
  show ¬ P (chN (chN N w b) v a)
  rw [chN_comm (by omega)]
  intro z
  exact h1 v a (by omega) v1 trivial a1 a9 ha ((hu (chN N v a) w b (Or.inr ⟨v, a, by omega, v1, a1, a9, rfl⟩) w0 w1 hU b1 b9).1 z)
theorem NMd_2 {N : NTW} (hu : ∀ (N' : NTW) w b, (N' = N ∨ ∃ v a, 0 ≤ v ∧ v < N 0 2 ∧ 1 ≤ a ∧ a ≤ 9 ∧ N' = chN N v a) → 0 ≤ w → w < N 0 2 → ¬ U w → 1 ≤ b → b ≤ 9 → (P (chN N' w b) ↔ P N')) (h1 : NMd TT P 1 0 N) (h : NMd U P 2 0 N) : NMd TT P 2 0 N := fun w b w0 w1 _ b1 b9 hb => by
  by_cases hU : U w
  · exact NMd_1 (fun v a v0 v1 hv a1 a9 => hu _ v a (Or.inr ⟨w, b, w0, w1, b1, b9, rfl⟩) (by omega) (by rw [chN_0] at v1; exact v1) hv a1 a9) (h1 w b w0 w1 trivial b1 b9 hb) (h w b w0 w1 hU b1 b9 hb)
  · exact two_no hu h1 w0 w1 hU b1 b9
theorem MF_2 {N : NTW} {l : List Int} (hu : ∀ (N' : NTW) w b, (N' = N ∨ ∃ v a, 0 ≤ v ∧ v < N 0 2 ∧ 1 ≤ a ∧ a ≤ 9 ∧ N' = chN N v a) → 0 ≤ w → w < N 0 2 → ¬ U w → 1 ≤ b → b ≤ 9 → (P (chN N' w b) ↔ P N')) (h1 : NMd TT P 1 0 N) (h : MF U P 2 0 N l) : MF TT P 2 0 N l := by
  obtain ⟨w, b, l', k1, k2, k3, k4, k5, k6, k7, k8, k9⟩ := h
  have one : ∀ v a, 0 ≤ v → v < N 0 2 → 1 ≤ a → a ≤ 9 → ∀ w' b', v + 1 ≤ w' → w' < chN N v a 0 2 → ¬ U w' → 1 ≤ b' → b' ≤ 9 → (P (chN (chN N v a) w' b') ↔ P (chN N v a)) := fun v a v0 v1 a1 a9 w' b' z0 z1 hv c1 c9 => hu _ w' b' (Or.inr ⟨v, a, v0, v1, a1, a9, rfl⟩) (by omega) (by rw [chN_0] at z1; exact z1) hv c1 c9
  refine ⟨w, b, l', k1, k2, k3, trivial, k5, k6, k7, MF_1 (one w b k2 k3 k5 k6) (h1 w b k2 k3 trivial k5 k6 k7) k8, fun v a v0 v1 _ a1 a9 ha lt => ?_⟩
  by_cases hU : U v
  · exact NMd_1 (one v a v0 v1 a1 a9) (h1 v a v0 v1 trivial a1 a9 ha) (k9 v a v0 v1 hU a1 a9 ha lt)
  · exact two_no hu h1 v0 v1 hU a1 a9
end
