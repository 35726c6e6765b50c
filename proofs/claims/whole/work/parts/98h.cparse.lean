/-! THE PARSER, the class: its small methods -/
def p33 (X : MEM) (v : Int) : Prop := X 33 6 = v ∧ X 33 0 = 0 ∧ X 33 1 = -1
theorem p33_of {X X' : MEM} {v : Int} (h : p33 X v) (e : ∀ j, (j = 0 ∨ j = 1 ∨ j = 6) → X' 33 j = X 33 j) : p33 X' v := by
  unfold p33 at h ⊢
  rw [e 6 (by omega), e 0 (by omega), e 1 (by omega)]
  exact h
/-- the net under way in the class's memory -/
def CNG (X : MEM) (n : Int) (G : NTW) : Prop :=
  (X n 0 = G 0 0 ∧ X n 5 = G 0 1 ∧ X n 7 = G 0 2 ∧ X n 11 = G 0 3 ∧ X n 17 = G 0 4 ∧ X n 18 = G 0 5 ∧ p33 X (G 0 6) ∧ X n 15 = G 0 7)
  ∧ (∀ t, 0 ≤ t → t < G 0 0 → X (n + 1) t = G 1 t ∧ X (n + 2) t = G 2 t ∧ X (n + 3) t = G 3 t ∧ X (n + 4) t = G 4 t ∧ X 34 t = G 10 t)
  ∧ (∀ s, 0 ≤ s → s < G 0 1 → X (n + 5) s = G 5 s)
  ∧ (∀ w, 0 ≤ w → w < G 0 2 → X (n + 6) w = G 6 w ∧ X (n + 7) w = G 7 w ∧ X (n + 8) w = G 8 w)
  ∧ (∀ c, 0 ≤ c → c < G 0 3 → X (n + 9) c = G 9 c ∧ X (n + 10) c = G 13 c ∧ X 35 c = G 11 c)
  ∧ (∀ i, 0 ≤ i → i < G 0 7 → X (n + 11) i = G 12 i)
def BG (G : NTW) : Prop := (0 ≤ G 0 0 ∧ G 0 0 ≤ 10) ∧ (0 ≤ G 0 1 ∧ G 0 1 ≤ 3) ∧ (∀ s, 0 ≤ s → s < G 0 1 → 0 ≤ G 5 s ∧ G 5 s < G 0 0) ∧ (0 ≤ G 0 4 ∧ G 0 4 ≤ 90) ∧ 0 ≤ G 0 7
def FPC (n : Int) (X X' : MEM) : Prop := (∀ q, q ≠ 27 → q ≠ 33 → ¬ (n ≤ q ∧ q ≤ n + 11) → X' q = X q) ∧ ∀ j, j < 7 ∨ 10 < j → X' 27 j = X 27 j
def flM (X : MEM) (B : Int → Int) (z : Int) (k : Nat) (w : Int) : MEM := stm (stm X 33 0 (if tkd B z k = 0 then 1 else w)) 33 1 (tpl B z k)
theorem fnd_congr {f g : Int → Int} {x : Int} : ∀ (n : Nat) (i : Int), (∀ j, i ≤ j → j < i + (n : Int) → f j = g j) → fnd f x n i = fnd g x n i
  | 0, _, _ => rfl
  | n + 1, i, h => by
    unfold fnd
    rw [h i (Int.le_refl _) (by omega), fnd_congr n (i + 1) fun j j0 j1 => h j (by omega) (by omega)]
theorem FPC_self {n : Int} {X : MEM} : FPC n X X := ⟨fun _ _ _ _ => rfl, fun _ _ => rfl⟩
theorem FPC_tr {n : Int} {X Y W : MEM} (h : FPC n X Y) (g : FPC n Y W) : FPC n X W := ⟨fun q q1 q2 q3 => (g.1 q q1 q2 q3).trans (h.1 q q1 q2 q3), fun j hj => (g.2 j hj).trans (h.2 j hj)⟩
theorem FPC_FT {n : Int} {X Y : MEM} (h : FT X Y) : FPC n X Y := ⟨fun q q1 _ _ => h.1 q q1, h.2⟩
theorem FPC_33 {n : Int} {X : MEM} {j v : Int} : FPC n X (stm X 33 j v) := ⟨fun q _ q2 _ => stm_ne q2, fun j hj => stm_neq (by omega)⟩
theorem FPC_fl {n : Int} {X : MEM} {B : Int → Int} {z : Int} {k : Nat} {w : Int} : FPC n X (flM X B z k w) := FPC_tr FPC_33 FPC_33
theorem fl_0 {X : MEM} {B : Int → Int} {z : Int} {k : Nat} {w : Int} : flM X B z k w 33 0 = (if tkd B z k = 0 then 1 else w) ∧ flM X B z k w 33 1 = tpl B z k := by
  unfold flM
  exact ⟨by rw [stm_neq (by omega), stm_hit], stm_hit _ _ _ _⟩
theorem CNG_of {X X' : MEM} {n : Int} {G : NTW} (h : CNG X n G) (e : ∀ q, n ≤ q → q ≤ n + 11 → X' q = X q) (e6 : ∀ j, (j = 0 ∨ j = 1 ∨ j = 6) → X' 33 j = X 33 j) (e4 : X' 34 = X 34) (e5 : X' 35 = X 35) : CNG X' n G := by
  unfold CNG at h ⊢
  rw [e4, e5, e n (by omega) (by omega), e (n + 1) (by omega) (by omega), e (n + 2) (by omega) (by omega), e (n + 3) (by omega) (by omega), e (n + 4) (by omega) (by omega), e (n + 5) (by omega) (by omega), e (n + 6) (by omega) (by omega), e (n + 7) (by omega) (by omega), e (n + 8) (by omega) (by omega), e (n + 9) (by omega) (by omega), e (n + 10) (by omega) (by omega), e (n + 11) (by omega) (by omega)]
  exact ⟨⟨h.1.1, h.1.2.1, h.1.2.2.1, h.1.2.2.2.1, h.1.2.2.2.2.1, h.1.2.2.2.2.2.1, p33_of h.1.2.2.2.2.2.2.1 e6, h.1.2.2.2.2.2.2.2⟩, h.2⟩
theorem CNG_FT {X X' : MEM} {n : Int} {G : NTW} (h : CNG X n G) (f : FT X X') (n1 : n = 1 ∨ n = 14) : CNG X' n G := CNG_of h (fun q _ _ => f.1 q (by omega)) (fun j _ => by rw [f.1 _ (by decide)]) (f.1 _ (by decide)) (f.1 _ (by decide))
/-- a code comes -/
theorem CNG_em {X : MEM} {n x : Int} {G : NTW} (h : CNG X n G) (n1 : n = 1 ∨ n = 14) : CNG (stm (stm X (n + 11) (G 0 7) x) n 15 (G 0 7 + 1)) n (emG G x) := by
  obtain ⟨⟨a0, a1, a2, a3, a4, a5, a6, a7⟩, bT, bS, bW, bC, bK⟩ := h
  have e : ∀ i j, ¬ (i = 0 ∧ j = 7) → i ≠ 12 → emG G x i j = G i j := fun i j h1 h2 => emG_ne h1 (by omega)
  refine ⟨⟨?_, ?_, ?_, ?_, ?_, ?_, ?_, ?_⟩, fun t t0 t1 => ?_, fun s s0 s1 => ?_, fun w w0 w1 => ?_, fun c c0 c1 => ?_, fun i i0 i1 => ?_⟩
  · rw [e 0 0 (by omega) (by decide), stm_neq (by omega), stm_neq (by omega)]; exact a0
  · rw [e 0 1 (by omega) (by decide), stm_neq (by omega), stm_neq (by omega)]; exact a1
  · rw [e 0 2 (by omega) (by decide), stm_neq (by omega), stm_neq (by omega)]; exact a2
  · rw [e 0 3 (by omega) (by decide), stm_neq (by omega), stm_neq (by omega)]; exact a3
  · rw [e 0 4 (by omega) (by decide), stm_neq (by omega), stm_neq (by omega)]; exact a4
  · rw [e 0 5 (by omega) (by decide), stm_neq (by omega), stm_neq (by omega)]; exact a5
  · rw [e 0 6 (by omega) (by decide)]; exact p33_of a6 fun j hj => by rw [stm_neq (by omega), stm_neq (by omega)]
  · rw [emG_7, stm_hit]
  · rw [e 0 0 (by omega) (by decide)] at t1
    have := bT t t0 t1
    rw [e 1 t (by omega) (by decide), e 2 t (by omega) (by decide), e 3 t (by omega) (by decide), e 4 t (by omega) (by decide), e 10 t (by omega) (by decide)]
    simp (disch := omega) only [stm_neq]
    exact this
  · rw [e 0 1 (by omega) (by decide)] at s1
    have := bS s s0 s1
    rw [e 5 s (by omega) (by decide)]
    simp (disch := omega) only [stm_neq]
    exact this
  · rw [e 0 2 (by omega) (by decide)] at w1
    have := bW w w0 w1
    rw [e 6 w (by omega) (by decide), e 7 w (by omega) (by decide), e 8 w (by omega) (by decide)]
    simp (disch := omega) only [stm_neq]
    exact this
  · rw [e 0 3 (by omega) (by decide)] at c1
    have := bC c c0 c1
    rw [e 9 c (by omega) (by decide), e 13 c (by omega) (by decide), e 11 c (by omega) (by decide)]
    simp (disch := omega) only [stm_neq]
    exact this
  · rw [emG_7] at i1
    by_cases hi : i = G 0 7
    · rw [hi, emG_12, stm_neq (by omega), stm_hit]
    · rw [emG_ne (by omega) (by omega), stm_neq (by omega), stm_neq (by omega)]
      exact bK i i0 (by omega)
/-- a unit comes -/
theorem CNG_un {X : MEM} {n : Int} {G : NTW} (h : CNG X n G) (n1 : n = 1 ∨ n = 14) : CNG (stm (stm X 33 8 (G 0 8 + 1)) n 17 (G 0 4 + 1)) n (unG G) := by
  obtain ⟨⟨a0, a1, a2, a3, a4, a5, a6, a7⟩, bT, bS, bW, bC, bK⟩ := h
  have e : ∀ i j, ¬ (i = 0 ∧ j = 4) → ¬ (i = 0 ∧ j = 8) → unG G i j = G i j := fun i j h1 h2 => unG_ne h1 h2
  refine ⟨⟨?_, ?_, ?_, ?_, ?_, ?_, ?_, ?_⟩, fun t t0 t1 => ?_, fun s s0 s1 => ?_, fun w w0 w1 => ?_, fun c c0 c1 => ?_, fun i i0 i1 => ?_⟩
  · rw [e 0 0 (by omega) (by omega), stm_neq (by omega), stm_neq (by omega)]; exact a0
  · rw [e 0 1 (by omega) (by omega), stm_neq (by omega), stm_neq (by omega)]; exact a1
  · rw [e 0 2 (by omega) (by omega), stm_neq (by omega), stm_neq (by omega)]; exact a2
  · rw [e 0 3 (by omega) (by omega), stm_neq (by omega), stm_neq (by omega)]; exact a3
  · rw [unG_4, stm_hit]
  · rw [e 0 5 (by omega) (by omega), stm_neq (by omega), stm_neq (by omega)]; exact a5
  · rw [e 0 6 (by omega) (by omega)]; exact p33_of a6 fun j hj => by rw [stm_neq (by omega), stm_neq (by omega)]
  · rw [e 0 7 (by omega) (by omega), stm_neq (by omega), stm_neq (by omega)]; exact a7
  · rw [e 0 0 (by omega) (by omega)] at t1
    have := bT t t0 t1
    rw [e 1 t (by omega) (by omega), e 2 t (by omega) (by omega), e 3 t (by omega) (by omega), e 4 t (by omega) (by omega), e 10 t (by omega) (by omega)]
    simp (disch := omega) only [stm_neq]
    exact this
  · rw [e 0 1 (by omega) (by omega)] at s1
    have := bS s s0 s1
    rw [e 5 s (by omega) (by omega)]
    simp (disch := omega) only [stm_neq]
    exact this
  · rw [e 0 2 (by omega) (by omega)] at w1
    have := bW w w0 w1
    rw [e 6 w (by omega) (by omega), e 7 w (by omega) (by omega), e 8 w (by omega) (by omega)]
    simp (disch := omega) only [stm_neq]
    exact this
  · rw [e 0 3 (by omega) (by omega)] at c1
    have := bC c c0 c1
    rw [e 9 c (by omega) (by omega), e 13 c (by omega) (by omega), e 11 c (by omega) (by omega)]
    simp (disch := omega) only [stm_neq]
    exact this
  · rw [e 0 7 (by omega) (by omega)] at i1
    rw [e 12 i (by omega) (by omega), stm_neq (by omega), stm_neq (by omega)]
    exact bK i i0 i1
section
variable {d : Nat} {R X M : MEM} {B : Int → Int} {z n x y v w : Int} {K k : Nat} {G : NTW} {Q : RES}
theorem c_fail (hc : RC R) (hT : CT X B z K k) (hq : Q 0 SHX R (flM X B z k w)) : Mw d 35 [vr 33, vi w] SHX R X 0 0 Q := by
  have e8 := hT.2.2.1
  have e9 := hT.2.2.2.1
  refine Mw_of mok35 rfl fun _ _ => b_X5_fail_0 ?_
  unfold flM at hq
  rw [ok33, rc33_2 hc, ok27, e8]
  have e9' : ∀ u, stm X 33 0 u 27 9 = tpl B z k := fun u => by rw [stm_neq (by omega)]; exact e9
  by_cases h0 : tkd B z k = 0
  · rw [if_pos h0] at hq ⊢
    rw [ok33, ok33, ok27, ok33, e9']
    exact hq
  · rw [if_neg h0] at hq ⊢
    rw [ok33, ok33, ok27, ok33, e9']
    exact hq
theorem c_findR {ρ : Int} {m len : Nat} (hc : RC R) (hT : CT X B z K k) (hρ : shk SHX ρ = (101, len)) (hl : len ≤ 1000) (hm : m ≤ len) (hq : Q (fnd (X ρ) (tvl B z k) m 0) SHX R X) : Mw d 45 [vr 33, vr ρ, vi (m : Int)] SHX R X 0 0 Q := by
  refine Mw_of mok45 rfl fun _ _ => b_X5_find_0 ?_
  have hbud : (Nat.ble 100 (shk SHX ρ).1 && Nat.ble (shk SHX ρ).1 105 && Nat.ble (shk SHX ρ).2 100000) = true := by
    rw [hρ]
    simp only [Bool.and_eq_true, Nat.ble_eq]
    omega
  have key : ∀ (r i : Nat), i + r = m → fnd (X ρ) (tvl B z k) r (i : Int) = fnd (X ρ) (tvl B z k) m 0 → Go d 45 Q 2 [vr 33, vr ρ, vi (m : Int), vi (i : Int)] [] SHX R X 0 0 := by
    intro r
    induction r with
    | zero =>
      intro i hi he
      refine b_X5_find_2 ?_
      rw [if_neg (by omega)]
      rw [← he] at hq
      exact hq
    | succ r ih =>
      intro i hi he
      refine b_X5_find_2 ?_
      rw [if_pos (by omega), bud_iff]
      refine ⟨hbud, ?_⟩
      rw [hρ, if_pos (show (i : Int) < Int.ofNat len by show (i : Int) < (len : Int); omega), ak_mk (kd := 101) hρ, ok33, rc33_2 hc, ok27, hT.2.2.2.2]
      refine ⟨by omega, by omega, ?_⟩
      have e : fnd (X ρ) (tvl B z k) (r + 1) (i : Int) = if X ρ (i : Int) = tvl B z k then (i : Int) else fnd (X ρ) (tvl B z k) r ((i : Int) + 1) := rfl
      by_cases h : X ρ (i : Int) = tvl B z k
      · rw [if_pos h] at e
        rw [← he, e] at hq
        rw [if_pos (lcmp_0.2 h)]
        exact hq
      · rw [if_neg h] at e
        rw [if_neg fun q => h (lcmp_0.1 q), iadd_of (by omega) (by omega), show (i : Int) + 1 = ((i + 1 : Nat) : Int) by omega]
        refine ih (i + 1) (by omega) ?_
        rw [← he, e]
        congr 1
  exact key m 0 (by omega) rfl
theorem c_towerHere (hc : RC R) (hP : R 33 5 = n) (hN : NR R n) (hT : CT X B z K k) (hG : CNG X n G) (hB : BG G) (hq : Q (twH G (tvl B z k)) SHX R X) : Mw (d + 1) 46 [vr 33] SHX R X 0 0 Q := by
  obtain ⟨b0, b1, bs, _⟩ := hB
  have e0 : X n 0 = ((G 0 0).toNat : Int) := by rw [hG.1.1]; omega
  refine Mw_of mok46 rfl fun _ _ => b_X5_towerHere_0 ?_
  rw [ok33, ok33, hP, okN hN, ok33, rc33_3 hc, e0]
  refine c_findR (d := d) hc hT fs34 (by decide) (by omega) ?_
  have : fnd (X 34) (tvl B z k) (G 0 0).toNat 0 = twH G (tvl B z k) := fnd_congr _ _ fun j j0 j1 => (hG.2.1 j j0 (by omega)).2.2.2.2
  rw [this]
  exact hq
theorem c_startHere (hc : RC R) (hP : R 33 5 = n) (hN : NR R n) (hT : CT X B z K k) (hG : CNG X n G) (hB : BG G) (hq : Q (stH G (tvl B z k)) SHX R X) : Mw d 47 [vr 33] SHX R X 0 0 Q := by
  obtain ⟨b0, b1, bs, _⟩ := hB
  have e1 : X n 5 = G 0 1 := hG.1.2.1
  refine Mw_of mok47 rfl fun _ _ => b_X5_startHere_0 ?_
  have key : ∀ (r i : Nat), (i : Int) + (r : Int) = G 0 1 → fnd (fun s => G 10 (G 5 s)) (tvl B z k) r (i : Int) = stH G (tvl B z k) → Go d 47 Q 2 [vr 33, vi (i : Int)] [] SHX R X 0 0 := by
    intro r
    induction r with
    | zero =>
      intro i hi he
      refine b_X5_startHere_2 ?_
      rw [ok33, hP, okN hN, e1, if_neg (by omega)]
      rw [← he] at hq
      exact hq
    | succ r ih =>
      intro i hi he
      have st := bs i (by omega) (by omega)
      have es : X (n + 5) (i : Int) = G 5 (i : Int) := hG.2.2.1 i (by omega) (by omega)
      have en : X 34 (G 5 (i : Int)) = G 10 (G 5 (i : Int)) := (hG.2.1 _ st.1 st.2).2.2.2.2
      refine b_X5_startHere_2 ?_
      simp only [ok33, hP, okN hN, e1, rc33_3 hc, nr6 hN, aN5 hN, ak34, rc33_2 hc, ok27, hT.2.2.2.2, es, en]
      rw [if_pos (by omega)]
      refine ⟨by omega, by omega, st.1, by omega, ?_⟩
      have e : fnd (fun s => G 10 (G 5 s)) (tvl B z k) (r + 1) (i : Int) = if G 10 (G 5 (i : Int)) = tvl B z k then (i : Int) else fnd (fun s => G 10 (G 5 s)) (tvl B z k) r ((i : Int) + 1) := rfl
      by_cases h : G 10 (G 5 (i : Int)) = tvl B z k
      · rw [if_pos h] at e
        rw [← he, e] at hq
        rw [if_pos (lcmp_0.2 h)]
        exact hq
      · rw [if_neg h] at e
        rw [if_neg fun q => h (lcmp_0.1 q), iadd_of (by omega) (by omega), show (i : Int) + 1 = ((i + 1 : Nat) : Int) by omega]
        refine ih (i + 1) (by omega) ?_
        rw [← he, e]
        congr 1
  exact key (G 0 1).toNat 0 (by omega) rfl
theorem c_isTowerHere (hc : RC R) (hT : CT X B z K k) (hq2 : tkd B z k ≠ 3 → Q 0 SHX R (flM X B z k 2)) (hq5 : tkd B z k = 3 → v = -1 → Q 0 SHX R (flM X B z k 5)) (hq1 : tkd B z k = 3 → v ≠ -1 → Q 1 SHX R X) : Mw (d + 1) 48 [vr 33, vi v] SHX R X 0 0 Q := by
  refine Mw_of mok48 rfl fun _ _ => b_X5_isTowerHere_0 ?_
  rw [ok33, rc33_2 hc, ok27, hT.2.2.1]
  by_cases h3 : tkd B z k = 3
  · rw [if_pos h3]
    by_cases hv : v = -1
    · rw [if_pos hv, ok33]
      refine c_fail (d := d) hc hT fun _ => ?_
      rw [if_pos rfl]
      exact hq5 h3 hv
    · rw [if_neg hv]
      exact hq1 h3 hv
  · rw [if_neg h3, ok33]
    exact c_fail (d := d) hc hT fun _ => hq2 h3
theorem c_takeWord (hc : RC R) (hT : CT X B z K k) (hq0 : ¬ (tkd B z k = 2 ∧ tvl B z k = w) → Q 0 SHX R (flM X B z k 2)) (hq1 : tkd B z k = 2 ∧ tvl B z k = w → ∀ X', CT X' B z K (k + 1) → FT X X' → Q 1 SHX R X') : Mw (d + 1) 49 [vr 33, vi w] SHX R X 0 0 Q := by
  refine Mw_of mok49 rfl fun _ _ => b_X5_takeWord_0 ?_
  rw [ok33, rc33_2 hc, ok27]
  refine c_isKeyword (d := d) hT (fun h _ => ?_) fun h _ => ?_
  · rw [if_neg (by decide), ok33, rc33_2 hc, ok27]
    exact c_step (d := d) hc hT fun X' h1 h2 => hq1 h X' h1 h2
  · rw [if_pos rfl, ok33]
    exact c_fail (d := d) hc hT fun _ => hq0 h
theorem c_takeSign (hc : RC R) (hT : CT X B z K k) (hq0 : ¬ (tkd B z k = 5 ∧ tvl B z k = w) → Q 0 SHX R (flM X B z k 2)) (hq1 : tkd B z k = 5 ∧ tvl B z k = w → ∀ X', CT X' B z K (k + 1) → FT X X' → Q 1 SHX R X') : Mw (d + 1) 50 [vr 33, vi w] SHX R X 0 0 Q := by
  refine Mw_of mok50 rfl fun _ _ => b_X5_takeSign_0 ?_
  rw [ok33, rc33_2 hc, ok27]
  refine c_isSign (d := d) hT (fun h _ => ?_) fun h _ => ?_
  · rw [if_neg (by decide), ok33, rc33_2 hc, ok27]
    exact c_step (d := d) hc hT fun X' h1 h2 => hq1 h X' h1 h2
  · rw [if_pos rfl, ok33]
    exact c_fail (d := d) hc hT fun _ => hq0 h
theorem CT_33 {j : Int} (hT : CT X B z K k) : CT (stm X 33 j v) B z K k := CT_of hT (fun j => stm_neq (by omega)) (stm_ne (by decide)) (stm_ne (by decide)) (stm_ne (by decide))
theorem c_takeNumber {lo hi : Int} (hc : RC R) (hT : CT X B z K k) (hq2 : tkd B z k ≠ 4 → Q 0 SHX R (flM X B z k 2)) (hq4 : tkd B z k = 4 → (tvl B z k < lo ∨ hi < tvl B z k) → Q 0 SHX R (flM (stm X 33 7 (tvl B z k)) B z k 4)) (hq1 : tkd B z k = 4 → ¬ (tvl B z k < lo ∨ hi < tvl B z k) → ∀ X', CT X' B z K (k + 1) → FT (stm X 33 7 (tvl B z k)) X' → Q 1 SHX R X') : Mw (d + 1) 51 [vr 33, vi lo, vi hi] SHX R X 0 0 Q := by
  refine Mw_of mok51 rfl fun _ _ => b_X5_takeNumber_0 ?_
  rw [ok33, rc33_2 hc, ok27, hT.2.2.1]
  by_cases h4 : tkd B z k = 4
  · have nb := tok_num h4
    have ev : w32 (X 27 10) = tvl B z k := by rw [hT.2.2.2.2]; exact w32_of (by omega) (by omega)
    rw [if_pos h4, ok33, ok27, ok33, ok33, ev, stm_hit]
    by_cases hlo : tvl B z k < lo
    · rw [if_pos hlo, ok33]
      exact c_fail (d := d) hc (CT_33 hT) fun _ => hq4 h4 (Or.inl hlo)
    · rw [if_neg hlo, ok33]
      by_cases hhi : hi < tvl B z k
      · rw [if_pos hhi, ok33]
        exact c_fail (d := d) hc (CT_33 hT) fun _ => hq4 h4 (Or.inr hhi)
      · rw [if_neg hhi, ok33, ok27]
        exact c_step (d := d) hc (CT_33 hT) fun X' h1 h2 => hq1 h4 (by omega) X' h1 h2
  · rw [if_neg h4, ok33]
    exact c_fail (d := d) hc hT fun _ => hq2 h4
theorem c_emit (hN : NR R n) (hG : CNG X n G) (h0 : 0 ≤ G 0 7) (h1 : G 0 7 < 1600) (hq : Q 0 SHX R (stm (stm X (n + 11) (G 0 7) x) n 15 (G 0 7 + 1))) : Mw d 28 [vr n, vi x] SHX R X 0 0 Q := by
  have e7 : X n 15 = G 0 7 := hG.1.2.2.2.2.2.2.2
  refine Mw_of mok28 rfl fun _ _ => b_X4_emit_0 ?_
  have e7' : stm X (n + 11) (G 0 7) x n 15 = G 0 7 := by rw [stm_neq (by omega)]; exact e7
  simp only [okN hN, e7, nr14 hN, aN11 hN, e7']
  rw [if_pos h1, iadd_of (by omega) (by omega)]
  exact ⟨h0, by omega, hq⟩
theorem c_isOperator {l : Int} (hc : RC R) (hT : CT X B z K k) (hl : 0 ≤ l ∧ l ≤ 4) (hq1 : opB l (tkd B z k) (tvl B z k) = true → Q 1 SHX R X) (hq0 : ¬ opB l (tkd B z k) (tvl B z k) = true → Q 0 SHX R X) : Mw (d + 1) 43 [vr 33, vi l] SHX R X 0 0 Q := by
  refine Mw_of mok43 rfl fun _ _ => b_X5_isOperator_0 ?_
  unfold opB at hq1 hq0
  by_cases l0 : l = 0
  · rw [if_pos l0] at hq1 hq0 ⊢
    rw [ok33, rc33_2 hc, ok27]
    exact c_isKeyword (d := d) hT (fun h _ => hq1 (decide_eq_true h)) fun h _ => hq0 fun q => h (of_decide_eq_true q)
  · rw [if_neg l0] at hq1 hq0 ⊢
    by_cases l1 : l = 1
    · rw [if_pos l1] at hq1 hq0 ⊢
      rw [ok33, rc33_2 hc, ok27]
      exact c_isKeyword (d := d) hT (fun h _ => hq1 (decide_eq_true h)) fun h _ => hq0 fun q => h (of_decide_eq_true q)
    · rw [if_neg l1] at hq1 hq0 ⊢
      by_cases l2 : l = 2
      · rw [if_pos l2] at hq1 hq0 ⊢
        rw [ok33, rc33_2 hc, ok27]
        refine c_isSign (d := d) hT (fun h _ => ?_) fun h _ => ?_
        · rw [if_neg (by decide)]; exact hq1 (decide_eq_true ⟨h.1, Or.inl h.2⟩)
        · rw [if_pos rfl, ok33, rc33_2 hc, ok27]
          refine c_isSign (d := d) hT (fun h2 _ => ?_) fun h2 _ => ?_
          · rw [if_neg (by decide)]; exact hq1 (decide_eq_true ⟨h2.1, Or.inr (Or.inl h2.2)⟩)
          · rw [if_pos rfl, ok33, rc33_2 hc, ok27]
            refine c_isSign (d := d) hT (fun h3 _ => ?_) fun h3 _ => ?_
            · rw [if_neg (by decide)]; exact hq1 (decide_eq_true ⟨h3.1, Or.inr (Or.inr h3.2)⟩)
            · rw [if_pos rfl]; exact hq0 fun q => by have := of_decide_eq_true q; omega
      · rw [if_neg l2] at hq1 hq0 ⊢
        by_cases l3 : l = 3
        · rw [if_pos l3] at hq1 hq0 ⊢
          rw [ok33, rc33_2 hc, ok27]
          refine c_isSign (d := d) hT (fun h _ => ?_) fun h _ => ?_
          · rw [if_neg (by decide)]; exact hq1 (decide_eq_true ⟨h.1, Or.inl h.2⟩)
          · rw [if_pos rfl, ok33, rc33_2 hc, ok27]
            refine c_isSign (d := d) hT (fun h2 _ => ?_) fun h2 _ => ?_
            · rw [if_neg (by decide)]; exact hq1 (decide_eq_true ⟨h2.1, Or.inr h2.2⟩)
            · rw [if_pos rfl]; exact hq0 fun q => by have := of_decide_eq_true q; omega
        · rw [if_neg l3] at hq1 hq0 ⊢
          rw [ok33, rc33_2 hc, ok27]
          refine c_isSign (d := d) hT (fun h _ => ?_) fun h _ => ?_
          · rw [if_neg (by decide)]; exact hq1 (decide_eq_true ⟨h.1, Or.inl h.2⟩)
          · rw [if_pos rfl, ok33, rc33_2 hc, ok27]
            refine c_isSign (d := d) hT (fun h2 _ => ?_) fun h2 _ => ?_
            · rw [if_neg (by decide)]; exact hq1 (decide_eq_true ⟨h2.1, Or.inr (Or.inl h2.2)⟩)
            · rw [if_pos rfl, ok33, rc33_2 hc, ok27]
              refine c_isSign (d := d) hT (fun h3 _ => ?_) fun h3 _ => ?_
              · rw [if_neg (by decide)]; exact hq1 (decide_eq_true ⟨h3.1, Or.inr (Or.inr h3.2)⟩)
              · rw [if_pos rfl]; exact hq0 fun q => by have := of_decide_eq_true q; omega
end
