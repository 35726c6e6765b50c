/-! MEND, the class -/
def AR (M : MEM) (b c m y : Int) (N : NTW) : Prop := ∀ v, 0 ≤ v → v < rwsN N m → ¬ bad N M b c m y v
/-- what a search for mending ways keeps -/
def KX (n r : Int) (M X : MEM) : Prop := (∀ q, q ≠ 341 → q ≠ n + 12 → q ≠ n + 8 → (q < 262 ∨ 267 ≤ q) → q ≠ 338 → q ≠ 339 → q ≠ 340 → X q = M q) ∧ (∀ j, j ≠ 8 → X 340 j = M 340 j) ∧ 0 ≤ X 340 8 ∧ X 340 8 < r
/-- what a search finds -/
def FND (P : NTW → Prop) (N : NTW) (r : Int) (l : List Int) : Prop := (r = 0 ∧ l = [] ∧ P N) ∨ (r = 1 ∧ ¬ P N ∧ MF TT P 1 0 N l) ∨ (r = 2 ∧ ¬ P N ∧ NMd TT P 1 0 N ∧ MF TT P 2 0 N l) ∨ (r = -1 ∧ l = [] ∧ ¬ P N ∧ NMd TT P 1 0 N ∧ NMd TT P 2 0 N)
section
variable {N N' : NTW} {P : NTW → Prop}
theorem FND_one {r r' : Int} {l l' : List Int} (h : FND P N r l) (g : FND P N r' l') : r = r' ∧ l = l' := by
  rcases h with ⟨h1, h2, h3⟩ | ⟨h1, h2, h3⟩ | ⟨h1, h2, h3, h4⟩ | ⟨h1, h2, h3, h4, h5⟩ <;> rcases g with ⟨g1, g2, g3⟩ | ⟨g1, g2, g3⟩ | ⟨g1, g2, g3, g4⟩ | ⟨g1, g2, g3, g4, g5⟩
  · exact ⟨h1.trans g1.symm, h2.trans g2.symm⟩
  · exact absurd h3 g2
  · exact absurd h3 g2
  · exact absurd h3 g3
  · exact absurd g3 h2
  · exact ⟨h1.trans g1.symm, MF_one _ _ _ _ _ h3 g3⟩
  · exact absurd g3 (MF_no _ _ _ _ h3)
  · exact absurd g4 (MF_no _ _ _ _ h3)
  · exact absurd g3 h2
  · exact absurd h3 (MF_no _ _ _ _ g3)
  · exact ⟨h1.trans g1.symm, MF_one _ _ _ _ _ h4 g4⟩
  · exact absurd g5 (MF_no _ _ _ _ h4)
  · exact absurd g3 h3
  · exact absurd h4 (MF_no _ _ _ _ g3)
  · exact absurd h5 (MF_no _ _ _ _ g4)
  · exact ⟨h1.trans g1.symm, h2.trans g2.symm⟩
theorem FND_len {r : Int} {l : List Int} (h : FND P N r l) : (l.length : Int) = (if r < 0 then 0 else r) ∧ l.length ≤ 2 := by
  rcases h with ⟨h1, h2, h3⟩ | ⟨h1, h2, h3⟩ | ⟨h1, h2, h3, h4⟩ | ⟨h1, h2, h3, h4, h5⟩
  · subst h1 h2; decide
  · rw [MF_len _ _ _ _ h3, h1]; decide
  · rw [MF_len _ _ _ _ h4, h1]; decide
  · subst h1 h2; decide
theorem EW_net (hs : SN N N') : EW N' = EW N := by
  funext t i
  unfold EW
  rw [hs 0 (by decide), hs 6 (by decide), hs 7 (by decide)]
theorem walk_net (hs : SN N N') : ∀ n : Nat, walk N' n = walk N n
  | 0 => by
    funext t i
    show EW N' t i = EW N t i
    rw [EW_net hs]
  | n + 1 => by
    funext t i
    show (∃ j, EW N' t j ∧ walk N' n j i) = ∃ j, EW N t j ∧ walk N n j i
    rw [EW_net hs, walk_net hs n]
theorem RCH_net (hs : SN N N') : RCH N' = RCH N := by
  funext t i
  unfold RCH
  simp only [walk_net hs]
theorem UFW_net (hs : SN N N') : UFW N' = UFW N := by
  funext t w
  unfold UFW
  rw [RCH_net hs, hs 0 (by decide), hs 5 (by decide), hs 6 (by decide), hs 7 (by decide)]
theorem lay_net' (hs : SN N N') {m v : Int} : lay N' m v = lay N m v := by
  unfold lay
  rw [hs 0 (by decide)]
theorem rwsN_net (hs : SN N N') {m : Int} : rwsN N' m = rwsN N m := by
  unfold rwsN
  rw [hs 0 (by decide)]
theorem ASK_net (hs : SN N N') {c m y : Int} {M : MEM} (h : ASK N c m y M) : ASK N' c m y M := by
  unfold ASK at h ⊢
  rw [rwsN_net hs, UFW_net hs, hs 0 (by decide), hs 9 (by decide)]
  exact h
theorem CDE_net (hs : SN N N') {M : MEM} {b n : Int} (h : CDE M b n N) : CDE M b n N' := by
  unfold CDE at h ⊢
  rw [hs 0 (by decide)]
  exact h
theorem NC_net (hs : SN N N') {M X : MEM} {n : Int} (h : NC M n N) (e : ∀ q, n ≤ q → q ≤ n + 9 → q ≠ n + 8 → X q = M q) (e8 : ∀ w, 0 ≤ w → w < N 0 2 → X (n + 8) w = N' 8 w) : NC X n N' := by
  obtain ⟨a1, a2, a3, a4, a5, a6, b1, b2, b3, b4, b5, b6, b7, b8, b9⟩ := h
  unfold NC
  rw [hs 0 (by decide), hs 1 (by decide), hs 2 (by decide), hs 3 (by decide), hs 4 (by decide), hs 5 (by decide), hs 6 (by decide), hs 7 (by decide), hs 9 (by decide)]
  rw [e n (by omega) (by omega) (by omega), e (n + 1) (by omega) (by omega) (by omega), e (n + 2) (by omega) (by omega) (by omega), e (n + 3) (by omega) (by omega) (by omega), e (n + 4) (by omega) (by omega) (by omega), e (n + 5) (by omega) (by omega) (by omega), e (n + 6) (by omega) (by omega) (by omega), e (n + 7) (by omega) (by omega) (by omega), e (n + 9) (by omega) (by omega) (by omega)]
  exact ⟨a1, a2, a3, a4, a5, a6, b1, b2, b3, b4, b5, b6, b7, e8, b9⟩
theorem AR_useless {M : MEM} {b c m y : Int} {N0 : NTW} (hW0 : WN N0) (hW : WN N) (hs0 : SN N0 N) {w x : Int} (w0 : 0 ≤ w) (hu : ¬ UFW N0 (N0 9 c) w) (x1 : 1 ≤ x) (x9 : x ≤ 9) (c0 : 0 ≤ c) (c1 : c < N0 0 3) : AR M b c m y (chN N w x) ↔ AR M b c m y N := by
  have cd := wn_cd hW0 c c0 c1
  have e9 : chN N w x 9 = N 9 := SN_ch 9 (by decide)
  have e9' : N 9 = N0 9 := hs0 9 (by decide)
  unfold AR bad
  simp only [rwsN_net SN_ch, lay_net' SN_ch, e9]
  have er : ∀ row, rk (chN N w x) row y (N 9 c) = rk N row y (N 9 c) := fun row => rk_useless hW0 hW (WN_ch hW x1 x9) hs0 SN_ch (fun w' h => chN_8n h) w0 (by rw [e9']; exact hu) (by rw [e9']; exact cd.1) (by rw [e9']; exact cd.2.1)
  simp only [er]
theorem KX_stm {n r q i v : Int} {M X : MEM} (h : KX n r M X) (hn : n ≤ 14) (hq : q = n + 8 ∨ q = 338 ∨ q = 339) : KX n r M (stm X q i v) := by
  obtain ⟨h1, h2, h3⟩ := h
  refine ⟨fun q' q1 q2 q3 q4 q5 q6 q7 => by rw [stm_ne (by omega), h1 q' q1 q2 q3 q4 q5 q6 q7], fun j hj => by rw [stm_neq (by omega), h2 j hj], ?_⟩
  rw [stm_neq (by omega)]
  exact h3
end
section
variable {d : Nat} {R M M1 X : MEM} {b n x y z t m c : Int} {N N0 : NTW} {Q : RES}
theorem c_mend0 {f : Int} (hc : RC R) (hN : NR R n) (n1 : n = 1 ∨ n = 14) (hW0 : WN N0) (hC1 : NC M1 n N0) (hE : CDE M1 b n N0) (c0 : 0 ≤ c) (c1 : c < N0 0 3) (m0 : 0 ≤ m) (m1 : m ≤ 99) (y0 : 0 ≤ y) (y1 : y ≤ 200) (hA : ASK N0 c m y M1) (hs : SN N0 N) (hW : WN N) (hK : KX n (rwsN N0 m) M1 X) (h8 : ∀ w, 0 ≤ w → w < N0 0 2 → X (n + 8) w = N 8 w) (hq1 : ∀ X', AR M1 b c m y N → KX n (rwsN N0 m) M1 X' → X' (n + 8) = X (n + 8) → X' 338 = X 338 → X' 339 = X 339 → Q 1 SHX R X') (hq0 : ∀ X', ¬ AR M1 b c m y N → KX n (rwsN N0 m) M1 X' → X' (n + 8) = X (n + 8) → X' 338 = X 338 → X' 339 = X 339 → Q 0 SHX R X') : Mw (d + 5) 19 [vr 340, vr n, vi f, vi 0] SHX R X 0 0 Q := by
  obtain ⟨k1, k2, k3, k4⟩ := hK
  have hS := wn_S hW0
  have rb := rwsN_b (N := N0) (m := m) hS.2 m0 m1
  have er := rwsN_net hs (m := m)
  have hCX : NC X n N := NC_net hs hC1 (fun q q0 q1 q8 => k1 q (by omega) (by omega) q8 (by omega) (by omega) (by omega) (by omega)) h8
  have hEX : CDE X b n N := CDE_net hs (CDE_of hE (k1 _ (by omega) (by omega) (by omega) (by omega) (by omega) (by omega) (by omega)) (k1 _ (by omega) (by omega) (by omega) (by omega) (by omega) (by omega) (by omega)) (k1 _ (by omega) (by omega) (by omega) (by omega) (by omega) (by omega) (by omega)) (k1 _ (by omega) (by omega) (by omega) (by omega) (by omega) (by omega) (by omega)) (k1 _ (by omega) (by omega) (by omega) (by omega) (by omega) (by omega) (by omega)) (k1 _ (by omega) (by omega) (by omega) (by omega) (by omega) (by omega) (by omega)))
  have hAX : ASK N c m y X := by
    refine ASK_net hs ?_
    obtain ⟨a1, a2, a3, a4, a5, a6, a7⟩ := hA
    refine ⟨?_, ?_, ?_, ?_, ⟨k3, k4⟩, ?_, ?_⟩
    · rw [k2 _ (by decide)]; exact a1
    · rw [k2 _ (by decide)]; exact a2
    · rw [k2 _ (by decide)]; exact a3
    · rw [k2 _ (by decide)]; exact a4
    · rw [k2 _ (by decide)]; exact a6
    · rw [k2 _ (by decide)]; exact a7
  have bd : ∀ v, bad N X b c m y v ↔ bad N M1 b c m y v := fun v => bad_of (k1 _ (by omega) (by omega) (by omega) (by omega) (by omega) (by omega) (by omega)) (k1 _ (by omega) (by omega) (by omega) (by omega) (by omega) (by omega) (by omega)) (k1 _ (by omega) (by omega) (by omega) (by omega) (by omega) (by omega) (by omega)) (k1 _ (by omega) (by omega) (by omega) (by omega) (by omega) (by omega) (by omega))
  have e0 : N 0 = N0 0 := hs 0 (by decide)
  have a4 : X 340 7 = rwsN N m := hAX.2.2.2.1
  refine Mw_of mok19 rfl fun _ _ => b_X2_mendFrom_0 ?_
  rw [if_neg (by decide), ok340, ok340, ok340, a4]
  have kx : ∀ X', (∀ q, q ≠ 341 → q ≠ n + 12 → (q < 262 ∨ 267 ≤ q) → X' q = X q) → ∀ s, 0 ≤ s → s < rwsN N0 m → KX n (rwsN N0 m) M1 (stm X' 340 8 s) := fun X' g s s0 s1 => by
    refine ⟨fun q q1 q2 q3 q4 q5 q6 q7 => by rw [stm_ne q7, g q q1 q2 q4, k1 q q1 q2 q3 q4 q5 q6 q7], fun j hj => by rw [stm_neq (by omega), g _ (by omega) (by omega) (by omega), k2 j hj], ?_⟩
    rw [stm_hit]
    exact ⟨s0, s1⟩
  refine c_wrongFrom (d := d) hc hN hCX hW (by omega) hEX c0 (by rw [e0]; exact c1) m0 m1 y0 y1 hAX hAX.2.2.2.2.1.1 hAX.2.2.2.2.1.2 (by rw [er]; omega) (Int.le_refl _) (fun X' i g i0 i1 _ hb _ => ?_) fun X' g hno => ?_
  · have w0 : 0 ≤ wrp (rwsN N m) (X 340 8 + i) ∧ wrp (rwsN N m) (X 340 8 + i) < rwsN N m := by
      unfold wrp
      rw [er] at i1 ⊢
      split <;> omega
    rw [if_neg (by omega), ok340, if_pos rfl, if_neg (by omega)]
    exact hq0 _ (fun z => z _ w0.1 w0.2 ((bd _).1 hb)) (kx X' g _ w0.1 (by rw [← er]; exact w0.2)) (by rw [stm_ne (by omega), g _ (by omega) (by omega) (by omega)]) (by rw [stm_ne (by decide), g _ (by omega) (by omega) (by omega)]) (by rw [stm_ne (by decide), g _ (by omega) (by omega) (by omega)])
  · have e8 : X' 340 8 = X 340 8 := by rw [g _ (by omega) (by omega) (by omega)]
    rw [if_pos rfl, ok340, ok340, if_pos rfl, if_pos rfl, e8]
    refine hq1 _ (fun v v0 v1 hb => ?_) (kx X' g _ k3 k4) (by rw [stm_ne (by omega), g _ (by omega) (by omega) (by omega)]) (by rw [stm_ne (by decide), g _ (by omega) (by omega) (by omega)]) (by rw [stm_ne (by decide), g _ (by omega) (by omega) (by omega)])
    rw [er] at v1 hno
    by_cases hlt : v < X 340 8
    · have h := hno (v - X 340 8 + rwsN N0 m) (by omega) (by omega)
      unfold wrp at h
      rw [if_neg (by omega), show X 340 8 + (v - X 340 8 + rwsN N0 m) - rwsN N0 m = v by omega] at h
      exact h ((bd _).2 hb)
    · have h := hno (v - X 340 8) (by omega) (by omega)
      unfold wrp at h
      rw [if_pos (by omega), show X 340 8 + (v - X 340 8) = v by omega] at h
      exact h ((bd _).2 hb)
theorem c_mendFrom (hc : RC R) (hN : NR R n) (n1 : n = 1 ∨ n = 14) (hW0 : WN N0) (hC1 : NC M1 n N0) (hE : CDE M1 b n N0) (c0 : 0 ≤ c) (c1 : c < N0 0 3) (m0 : 0 ≤ m) (m1 : m ≤ 99) (y0 : 0 ≤ y) (y1 : y ≤ 200) (hA : ASK N0 c m y M1) : ∀ (k : Nat) (f l0 : Int) (N : NTW) (X : MEM) (Q : RES), SN N0 N → WN N → KX n (rwsN N0 m) M1 X → (∀ w, 0 ≤ w → w < N0 0 2 → X (n + 8) w = N 8 w) → X 338 1 = l0 → 0 ≤ l0 → l0 + (k : Int) ≤ 8 → k ≤ 2 → 0 ≤ f → f ≤ N0 0 2 → (∀ X' l, MF (UFW N0 (N0 9 c)) (AR M1 b c m y) k f N l → KX n (rwsN N0 m) M1 X' → X' (n + 8) = X (n + 8) → X' 338 1 = l0 + (l.length : Int) → (∀ i, i < l0 → X' 339 i = X 339 i) → (∀ i : Nat, i < l.length → X' 339 (l0 + (i : Int)) = l.getD i 0) → Q 1 SHX R X') → (∀ X', NMd (UFW N0 (N0 9 c)) (AR M1 b c m y) k f N → KX n (rwsN N0 m) M1 X' → X' (n + 8) = X (n + 8) → X' 338 1 = l0 → (∀ i, i < l0 → X' 339 i = X 339 i) → Q 0 SHX R X') → Mw (d + 5 + k) 19 [vr 340, vr n, vi f, vi (k : Int)] SHX R X 0 0 Q
  | 0, f, l0, N, X, Q, hs, hW, hK, h8, hl, l00, l8, _, f0, fW, hq1, hq0 => c_mend0 (d := d) hc hN n1 hW0 hC1 hE c0 c1 m0 m1 y0 y1 hA hs hW hK h8 (fun X' h kx e8 e38 e39 => hq1 X' [] ⟨h, rfl⟩ kx e8 (by rw [e38, hl]; simp) (fun i _ => by rw [e39]) fun i hi => absurd hi (Nat.not_lt_zero i)) fun X' h kx e8 e38 e39 => hq0 X' h kx e8 (by rw [e38, hl]) fun i _ => by rw [e39]
  | k + 1, f, l0, N, X, Q, hs, hW, hK, h8, hl, l00, l8, k2, f0, fW, hq1, hq0 => by
    have hw := wn_W hW0
    have e0 : N 0 = N0 0 := hs 0 (by decide)
    obtain ⟨a1, a2, a3, a4, a5, a6, a7⟩ := hA
    refine Mw_of mok19 rfl fun _ _ => b_X2_mendFrom_0 ?_
    rw [if_pos (by omega), if_neg (by omega)]
    have key : ∀ w, f ≤ w → w ≤ N0 0 2 → ∀ Y, KX n (rwsN N0 m) M1 Y → Y (n + 8) = X (n + 8) → Y 338 1 = l0 → (∀ i, i < l0 → Y 339 i = X 339 i) → (∀ v a, f ≤ v → v < w → UFW N0 (N0 9 c) v → 1 ≤ a → a ≤ 9 → a ≠ N 8 v → NMd (UFW N0 (N0 9 c)) (AR M1 b c m y) k (v + 1) (chN N v a)) → Go (d + 5 + (k + 1)) 19 Q 33 [vr 340, vr n, vn, vi ((k + 1 : Nat) : Int), vi w, vn, vn, vn, vn] [] SHX R Y 0 0 := by
      refine upfrom (fun Y kY y8 y38 y39 hh => ?_) fun w fw w1 ih Y kY y8 y38 y39 hh => ?_
      · have eW : Y n 7 = N0 0 2 := by rw [kY.1 n (by omega) (by omega) (by omega) (by omega) (by omega) (by omega) (by omega)]; exact nc_W hC1
        refine b_X2_mendFrom_33 ?_
        rw [okN hN, eW, if_neg (by omega)]
        exact hq0 Y (fun v a v0 v1 hU b1 b9 hb => hh v a v0 (by rw [e0] at v1; exact v1) hU b1 b9 hb) kY y8 y38 y39
      · have eW : Y n 7 = N0 0 2 := by rw [kY.1 n (by omega) (by omega) (by omega) (by omega) (by omega) (by omega) (by omega)]; exact nc_W hC1
        have ew : Y (n + 8) w = N 8 w := by rw [y8]; exact h8 w (by omega) w1
        have wb := wn_wb hW w (by omega) (by rw [e0]; exact w1)
        have e9 : Y 340 9 = M1 340 9 := kY.2.1 9 (by decide)
        have ht := hb_test (x := M1 340 9) (t := w) a6 (by omega) (by omega)
        have bk : ∀ Z, KX n (rwsN N0 m) M1 Z → (∀ j, j ≠ w → Z (n + 8) j = X (n + 8) j) → KX n (rwsN N0 m) M1 (stm Z (n + 8) w (N 8 w)) ∧ stm Z (n + 8) w (N 8 w) (n + 8) = X (n + 8) := fun Z kZ z8 => by
          refine ⟨KX_stm kZ (by omega) (Or.inl rfl), funext fun j => ?_⟩
          by_cases hj : j = w
          · rw [hj, stm_hit]; exact (h8 w (by omega) w1).symm
          · rw [stm_neq (by omega)]; exact z8 j hj
        refine b_X2_mendFrom_33 ?_
        rw [okN hN, eW, if_pos w1, ok340, e9, okN hN, nr10 hN, aN8 hN, ew]
        by_cases hU : UFW N0 (N0 9 c) w
        · rw [if_pos (ht.2 ((a7 w (by omega) w1).2 hU))]
          refine ⟨by omega, by omega, ?_⟩
          have fnd : ∀ a, 1 ≤ a → a ≤ 9 → a ≠ N 8 w → ∀ l', MF (UFW N0 (N0 9 c)) (AR M1 b c m y) k (w + 1) (chN N w a) l' → (∀ a', 1 ≤ a' → a' < a → a' ≠ N 8 w → NMd (UFW N0 (N0 9 c)) (AR M1 b c m y) k (w + 1) (chN N w a')) → ∀ Z, KX n (rwsN N0 m) M1 Z → (∀ j, j ≠ w → Z (n + 8) j = X (n + 8) j) → Z 338 1 = l0 + 1 + (l'.length : Int) → (∀ i, i < l0 → Z 339 i = X 339 i) → Z 339 l0 = 10 * w + a → (∀ i : Nat, i < l'.length → Z 339 (l0 + 1 + (i : Int)) = l'.getD i 0) → Go (d + 5 + (k + 1)) 19 Q 58 [vr 340, vr n, vn, vi ((k + 1 : Nat) : Int), vi w, vi 1, vi (N 8 w), vi 1, vi (a + 1)] [] SHX R Z 0 0 := by
            intro a b1 b9 hb l' hmf hlo Z kZ z8 z38 z39 zl zr
            obtain ⟨k8, e8⟩ := bk Z kZ z8
            have fin : Q 1 SHX R (stm Z (n + 8) w (N 8 w)) := by
              refine hq1 _ ((10 * w + a) :: l') ⟨w, a, l', rfl, fw, by rw [e0]; exact w1, hU, b1, b9, hb, hmf, fun v a' v0 v1 hUv c1 c9 hc' lt => ?_⟩ k8 e8 ?_ (fun i hi => ?_) fun i hi => ?_
              · rcases lt with lt | ⟨rfl, lt⟩
                · exact hh v a' v0 lt hUv c1 c9 hc'
                · exact hlo a' c1 lt hc'
              · rw [stm_neq (by omega), z38, List.length_cons]; omega
              · rw [stm_neq (by omega)]; exact z39 i hi
              · rw [stm_neq (by omega)]
                match i, hi with
                | 0, _ => rw [show l0 + ((0 : Nat) : Int) = l0 by omega, zl]; rfl
                | i + 1, hi =>
                  rw [show l0 + ((i + 1 : Nat) : Int) = l0 + 1 + (i : Int) by omega, zr i (by simpa using hi)]
                  rfl
            refine b_X2_mendFrom_58 ?_
            rw [okN hN, nr10 hN, aN8 hN, if_neg (show ¬ (1 : Int) = 0 by decide), if_neg (show ¬ (1 : Int) = 0 by decide)]
            split
            · exact ⟨by omega, by omega, fin⟩
            · exact ⟨by omega, by omega, fin⟩
          have L58 : ∀ a, 1 ≤ a → a ≤ 10 → ∀ Z, KX n (rwsN N0 m) M1 Z → (∀ j, j ≠ w → Z (n + 8) j = X (n + 8) j) → Z 338 1 = l0 → (∀ i, i < l0 → Z 339 i = X 339 i) → (∀ a', 1 ≤ a' → a' < a → a' ≠ N 8 w → NMd (UFW N0 (N0 9 c)) (AR M1 b c m y) k (w + 1) (chN N w a')) → Go (d + 5 + (k + 1)) 19 Q 58 [vr 340, vr n, vn, vi ((k + 1 : Nat) : Int), vi w, vi 1, vi (N 8 w), vi 0, vi a] [] SHX R Z 0 0 := by
            refine upfrom (fun Z kZ z8 z38 z39 hlo => ?_) fun a g1 g9 iha Z kZ z8 z38 z39 hlo => ?_
            · obtain ⟨k8, e8⟩ := bk Z kZ z8
              refine b_X2_mendFrom_58 ?_
              rw [if_pos (by decide), okN hN, nr10 hN, aN8 hN, if_pos rfl, iadd_of (x := w) (by omega) (by omega)]
              refine ⟨by omega, by omega, ih _ k8 e8 (by rw [stm_neq (by omega)]; exact z38) (fun i hi => by rw [stm_neq (by omega)]; exact z39 i hi) fun v a v0 v1 hUv b1 b9 hb => ?_⟩
              by_cases hvw : v = w
              · subst hvw; exact hlo a b1 (by omega) hb
              · exact hh v a v0 (by omega) hUv b1 b9 hb
            · refine b_X2_mendFrom_58 ?_
              rw [if_neg (by omega), if_neg (by decide), if_pos rfl, okN hN, nr10 hN, aN8 hN, ok340, rc340_2 hc, ok338, imul_of (by omega) (by omega), iadd_of (x := 10 * w) (by omega) (by omega), iadd_of (x := a) (by omega) (by omega)]
              refine ⟨by omega, by omega, c_lput (d := d + 5 + k) (k := l0) hc (by rw [stm_neq (by omega)]; exact z38) l00 (by omega) ?_⟩
              have kP : KX n (rwsN N0 m) M1 (stm (stm (stm Z (n + 8) w a) 339 l0 (10 * w + a)) 338 1 (l0 + 1)) := KX_stm (KX_stm (KX_stm kZ (by omega) (Or.inl rfl)) (by omega) (Or.inr (Or.inr rfl))) (by omega) (Or.inr (Or.inl rfl))
              have p8 : ∀ j, stm (stm (stm Z (n + 8) w a) 339 l0 (10 * w + a)) 338 1 (l0 + 1) (n + 8) j = if j = w then a else X (n + 8) j := fun j => by
                rw [stm_neq (by omega), stm_neq (by omega)]
                by_cases hj : j = w
                · rw [if_pos hj, hj, stm_hit]
                · rw [if_neg hj, stm_neq (by omega)]; exact z8 j hj
              have p39 : ∀ i, i < l0 → stm (stm (stm Z (n + 8) w a) 339 l0 (10 * w + a)) 338 1 (l0 + 1) 339 i = X 339 i := fun i hi => by rw [stm_neq (by omega), stm_neq (by omega), stm_neq (by omega)]; exact z39 i hi
              by_cases haw : a = N 8 w
              · rw [if_pos haw, ok340, rc340_2 hc, ok338, ok338, stm_hit, isub_of (by omega) (by omega)]
                refine iha _ (KX_stm kP (by omega) (Or.inr (Or.inl rfl))) (fun j hj => by rw [stm_neq (by omega), p8 j, if_neg hj]) (by rw [stm_hit]; omega) (fun i hi => by rw [stm_neq (by omega)]; exact p39 i hi) fun a' c1 c9 hc' => ?_
                exact hlo a' c1 (by omega) hc'
              · rw [if_neg haw, ok340, iadd_of (by omega) (by omega), isub_of (by omega) (by omega), show ((k + 1 : Nat) : Int) - 1 = (k : Int) by omega]
                have hWc := WN_ch (w := w) hW g1 (show a ≤ 9 by omega)
                refine c_mendFrom hc hN n1 hW0 hC1 hE c0 c1 m0 m1 y0 y1 ⟨a1, a2, a3, a4, a5, a6, a7⟩ k (w + 1) (l0 + 1) (chN N w a) _ _ (SN_tr hs SN_ch) hWc kP (fun v v0 v1 => ?_) (stm_hit _ _ _ _) (by omega) (by omega) (by omega) (by omega) (by omega) (fun Z' l' hmf kZ' z8' z38' z39' zr' _ => ?_) fun Z' hno kZ' z8' z38' z39' _ => ?_
                · rw [p8 v, chN_8]
                  by_cases hv : v = w
                  · rw [if_pos hv, upf_eq hv]
                  · rw [if_neg hv, upf_ne hv]; exact h8 v v0 v1
                · have hlen := MF_len _ _ _ _ hmf
                  rw [if_neg (by decide), ok340, rc340_2 hc, ok338, ok338, z38', isub_of (by omega) (by omega)]
                  refine fnd a g1 (by omega) haw l' hmf hlo _ (KX_stm kZ' (by omega) (Or.inr (Or.inl rfl))) (fun j hj => by rw [stm_neq (by omega), z8', p8 j, if_neg hj]) (by rw [stm_hit]; omega) (fun i hi => by rw [stm_neq (by omega), z39' i (by omega)]; exact p39 i hi) ?_ fun i hi => by rw [stm_neq (by omega)]; exact zr' i hi
                  rw [stm_neq (by omega), z39' l0 (by omega), stm_neq (by omega), stm_hit]
                · rw [if_pos rfl, ok340, rc340_2 hc, ok338, ok338, z38', isub_of (by omega) (by omega)]
                  refine iha _ (KX_stm kZ' (by omega) (Or.inr (Or.inl rfl))) (fun j hj => by rw [stm_neq (by omega), z8', p8 j, if_neg hj]) (by rw [stm_hit]; omega) (fun i hi => by rw [stm_neq (by omega), z39' i (by omega)]; exact p39 i hi) fun a' c1' c9 hc' => ?_
                  by_cases haa : a' = a
                  · rw [haa]; exact hno
                  · exact hlo a' c1' (by omega) hc'
          exact L58 1 (by decide) (by decide) Y kY (fun j _ => by rw [y8]) y38 y39 fun a' c1 c9 => by omega
        · have hno : ¬ iand (ishr (M1 340 9) w) 1 = 1 := fun z => hU ((a7 w (by omega) w1).1 (ht.1 z))
          rw [if_neg hno, okN hN, aN8 hN]
          obtain ⟨k8, e8⟩ := bk Y kY fun j _ => by rw [y8]
          refine ⟨by omega, by omega, b_X2_mendFrom_58 ?_⟩
          rw [if_neg (by decide), if_pos rfl, okN hN, nr10 hN, aN8 hN, if_pos rfl, iadd_of (by omega) (by omega)]
          refine ⟨by omega, by omega, ih _ k8 e8 (by rw [stm_neq (by omega)]; exact y38) (fun i hi => by rw [stm_neq (by omega)]; exact y39 i hi) fun v a v0 v1 hUv b1 b9 hb => ?_⟩
          by_cases hvw : v = w
          · rw [hvw] at hUv; exact absurd hUv hU
          · exact hh v a v0 (by omega) hUv b1 b9 hb
    exact key f (Int.le_refl _) fW X hK rfl hl (fun _ _ => rfl) fun v a v0 v1 => by omega
theorem c_fewest (hc : RC R) (hN : NR R n) (n1 : n = 1 ∨ n = 14) (hW0 : WN N0) (hC1 : NC M1 n N0) (hE : CDE M1 b n N0) (c0 : 0 ≤ c) (c1 : c < N0 0 3) (m0 : 0 ≤ m) (m1 : m ≤ 99) (y0 : 0 ≤ y) (y1 : y ≤ 200) (hA : ASK N0 c m y M1) (hl : M1 338 1 = 0) (hq : ∀ X' r l, FND (AR M1 b c m y) N0 r l → KX n (rwsN N0 m) M1 X' → X' (n + 8) = M1 (n + 8) → X' 338 1 = (l.length : Int) → (∀ i : Nat, i < l.length → X' 339 (i : Int) = l.getD i 0) → Q r SHX R X') : Mw (d + 8) 18 [vr 340, vr n] SHX R M1 0 0 Q := by
  have k0 : KX n (rwsN N0 m) M1 M1 := ⟨fun _ _ _ _ _ _ _ _ => rfl, fun _ _ => rfl, hA.2.2.2.2.1⟩
  have hu : ∀ (N' : NTW) w x, (N' = N0 ∨ ∃ v a, 0 ≤ v ∧ v < N0 0 2 ∧ 1 ≤ a ∧ a ≤ 9 ∧ N' = chN N0 v a) → 0 ≤ w → w < N0 0 2 → ¬ UFW N0 (N0 9 c) w → 1 ≤ x → x ≤ 9 → (AR M1 b c m y (chN N' w x) ↔ AR M1 b c m y N') := fun N' w x hN' w0 w1 hU x1 x9 => by
    rcases hN' with rfl | ⟨v, a, v0, v1, b1, b9, rfl⟩
    · exact AR_useless hW0 hW0 SN_refl w0 hU x1 x9 c0 c1
    · exact AR_useless hW0 (WN_ch hW0 b1 b9) SN_ch w0 hU x1 x9 c0 c1
  have lvl : ∀ (k : Nat) (X : MEM) (Q2 : RES), k ≤ 2 → KX n (rwsN N0 m) M1 X → X (n + 8) = M1 (n + 8) → X 338 1 = 0 → (∀ X' l, MF (UFW N0 (N0 9 c)) (AR M1 b c m y) k 0 N0 l → KX n (rwsN N0 m) M1 X' → X' (n + 8) = M1 (n + 8) → X' 338 1 = (l.length : Int) → (∀ i : Nat, i < l.length → X' 339 (i : Int) = l.getD i 0) → Q2 1 SHX R X') → (∀ X', NMd (UFW N0 (N0 9 c)) (AR M1 b c m y) k 0 N0 → KX n (rwsN N0 m) M1 X' → X' (n + 8) = M1 (n + 8) → X' 338 1 = 0 → Q2 0 SHX R X') → Mw (d + 7) 19 [vr 340, vr n, vi 0, vi (k : Int)] SHX R X 0 0 Q2 := fun k X Q2 k2 kX x8 x38 h1 h0 => by
    have := c_mendFrom (d := d + (2 - k)) hc hN n1 hW0 hC1 hE c0 c1 m0 m1 y0 y1 hA k 0 0 N0 X Q2 SN_refl hW0 kX (fun w w0 w1 => by rw [x8]; exact nc8 hC1 w w0 w1) x38 (Int.le_refl _) (by omega) k2 (Int.le_refl _) (wn_W hW0).1 (fun X' l h kx e8 e38 _ er => h1 X' l h kx (e8.trans x8) (by rw [e38]; omega) fun i hi => by rw [← er i hi, show 0 + (i : Int) = (i : Int) by omega]) fun X' h kx e8 e38 _ => h0 X' h kx (e8.trans x8) e38
    rwa [show d + (2 - k) + 5 + k = d + 7 by omega] at this
  refine Mw_of mok18 rfl fun _ _ => b_X2_fewestToMend_0 (b_X2_fewestToMend_2 ?_)
  rw [if_neg (by decide), ok340]
  refine lvl 0 M1 _ (by decide) k0 rfl hl (fun X' l h kx e8 e38 er _ => ?_) fun X' h kx e8 e38 _ => ?_
  · rw [if_neg (by decide)]
    exact hq X' 0 l (Or.inl ⟨rfl, h.2, h.1⟩) kx e8 e38 er
  · rw [if_pos rfl, iadd_of (by decide) (by decide)]
    refine b_X2_fewestToMend_2 ?_
    rw [if_neg (by decide), ok340]
    have h0 : ¬ AR M1 b c m y N0 := h
    have hu1 : ∀ w x, 0 ≤ w → w < N0 0 2 → ¬ UFW N0 (N0 9 c) w → 1 ≤ x → x ≤ 9 → (AR M1 b c m y (chN N0 w x) ↔ AR M1 b c m y N0) := fun w x => hu N0 w x (Or.inl rfl)
    refine lvl 1 X' _ (by decide) kx e8 e38 (fun X2 l h kx e8 e38 er _ => ?_) fun X2 h kx e8 e38 _ => ?_
    · rw [if_neg (by decide)]
      exact hq X2 1 l (Or.inr (Or.inl ⟨rfl, h0, MF_1 hu1 h0 h⟩)) kx e8 e38 er
    · rw [if_pos rfl, iadd_of (by decide) (by decide)]
      refine b_X2_fewestToMend_2 ?_
      rw [if_neg (by decide), ok340]
      have h1 := NMd_1 hu1 h0 h
      refine lvl 2 X2 _ (by decide) kx e8 e38 (fun X3 l h kx e8 e38 er _ => ?_) fun X3 h kx e8 e38 _ => ?_
      · rw [if_neg (by decide)]
        exact hq X3 2 l (Or.inr (Or.inr (Or.inl ⟨rfl, h0, h1, MF_2 hu h1 h⟩))) kx e8 e38 er
      · rw [if_pos rfl, iadd_of (by decide) (by decide)]
        refine b_X2_fewestToMend_2 ?_
        rw [if_pos (by decide)]
        exact hq X3 (-1) [] (Or.inr (Or.inr (Or.inr ⟨rfl, rfl, h0, h1, NMd_2 hu h1 h⟩))) kx e8 (by rw [e38]; rfl) fun i hi => absurd hi (Nat.not_lt_zero i)
end
