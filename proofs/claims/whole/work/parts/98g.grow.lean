/-! WHAT A FORMULA ADDS -/
def cdX (x n : Int) : Prop := (0 ≤ x ∧ x ≤ 9999) ∨ (10000 ≤ x ∧ x < 10000 + n) ∨ x = 20017 ∨ x = 20016 ∨ x = 20015 ∨ x = 20060 ∨ x = 20062 ∨ x = 20061 ∨ x = 20043 ∨ x = 20045 ∨ x = 20042 ∨ x = 20047 ∨ x = 20037
def htX (x h h' : Int) : Prop := if x < 20000 then h' = h + 1 else if x = 20017 then 1 ≤ h ∧ h' = h else 2 ≤ h ∧ h' = h - 1
def HTP (g : Int → Int) (a b h0 h1 lo hi : Int) : Prop := ∃ H : Int → Int, H a = h0 ∧ H b = h1 ∧ (lo ≤ h1 ∧ h1 ≤ hi) ∧ ∀ i, a ≤ i → i < b → htX (g i) (H i) (H (i + 1)) ∧ lo ≤ H i ∧ H i ≤ hi
theorem HTP_app {g : Int → Int} {a b c h0 h1 h2 lo hi : Int} (ab : a ≤ b) (bc : b ≤ c) (h : HTP g a b h0 h1 lo hi) (k : HTP g b c h1 h2 lo hi) : HTP g a c h0 h2 lo hi := by
  obtain ⟨H, e0, e1, e2, e3⟩ := h
  obtain ⟨K, f0, f1, f2, f3⟩ := k
  refine ⟨fun i => if i < b then H i else K i, ?_, ?_, f2, fun i i0 i1 => ?_⟩
  · by_cases hab : a < b
    · show (if a < b then H a else K a) = h0
      rw [if_pos hab]; exact e0
    · have : a = b := by omega
      subst this
      show (if a < a then H a else K a) = h0
      rw [if_neg (by omega), f0, ← e1, e0]
  · show (if c < b then H c else K c) = h2
    rw [if_neg (by omega)]; exact f1
  · show htX (g i) (if i < b then H i else K i) (if i + 1 < b then H (i + 1) else K (i + 1)) ∧ lo ≤ (if i < b then H i else K i) ∧ (if i < b then H i else K i) ≤ hi
    by_cases hib : i < b
    · rw [if_pos hib]
      by_cases hib2 : i + 1 < b
      · rw [if_pos hib2]; exact e3 i i0 hib
      · have : i + 1 = b := by omega
        rw [if_neg hib2, this, f0, ← e1, ← this]; exact e3 i i0 hib
    · rw [if_neg hib, if_neg (by omega)]; exact f3 i (by omega) i1
theorem HTP_one {g : Int → Int} {a h0 h1 lo hi : Int} (h : htX (g a) h0 h1) (l0 : lo ≤ h0 ∧ h0 ≤ hi) (l1 : lo ≤ h1 ∧ h1 ≤ hi) : HTP g a (a + 1) h0 h1 lo hi := by
  refine ⟨fun i => if i = a then h0 else h1, if_pos rfl, ?_, l1, fun i i0 i1 => ?_⟩
  · show (if a + 1 = a then h0 else h1) = h1
    rw [if_neg (by omega)]
  · have : i = a := by omega
    subst this
    show htX (g i) (if i = i then h0 else h1) (if i + 1 = i then h0 else h1) ∧ lo ≤ (if i = i then h0 else h1) ∧ (if i = i then h0 else h1) ≤ hi
    rw [if_pos rfl, if_neg (by omega)]
    exact ⟨h, l0⟩
theorem HTP_mono {g : Int → Int} {a b h0 h1 lo hi lo' hi' : Int} (h : HTP g a b h0 h1 lo hi) (l : lo' ≤ lo) (r : hi ≤ hi') : HTP g a b h0 h1 lo' hi' := by
  obtain ⟨H, e0, e1, e2, e3⟩ := h
  exact ⟨H, e0, e1, ⟨by omega, by omega⟩, fun i i0 i1 => ⟨(e3 i i0 i1).1, by have := (e3 i i0 i1).2; omega, by have := (e3 i i0 i1).2; omega⟩⟩
theorem HTP_congr {g g' : Int → Int} {a b h0 h1 lo hi : Int} (h : HTP g a b h0 h1 lo hi) (e : ∀ i, a ≤ i → i < b → g' i = g i) : HTP g' a b h0 h1 lo hi := by
  obtain ⟨H, e0, e1, e2, e3⟩ := h
  exact ⟨H, e0, e1, e2, fun i i0 i1 => by rw [e i i0 i1]; exact e3 i i0 i1⟩
section
variable (B : Int → Int) (z : Int)
def GR (k : Nat) (G : NTW) (k' : Nat) (G' : NTW) : Prop :=
  (k + 1 ≤ k' ∧ ∀ i : Nat, k ≤ i → i < k' → tkd B z i ≠ 1)
  ∧ (G 0 7 ≤ G' 0 7 ∧ G' 0 7 - G 0 7 ≤ (k' : Int) - (k : Int))
  ∧ (G' 0 4 - G 0 4 = G' 0 8 - G 0 8 ∧ G 0 4 + 1 ≤ G' 0 4 ∧ (G 0 4 ≤ 90 → G' 0 4 ≤ 90) ∧ (G 0 8 ≤ 30 → G' 0 8 ≤ 30))
  ∧ (∀ i j, ¬ (i = 0 ∧ (j = 4 ∨ j = 7 ∨ j = 8)) → ¬ (i = 12 ∧ G 0 7 ≤ j) → G' i j = G i j)
  ∧ (∀ i, G 0 7 ≤ i → i < G' 0 7 → cdX (G' 12 i) (G 0 1))
  ∧ (∀ h, 0 ≤ h → HTP (G' 12) (G 0 7) (G' 0 7) h (h + 1) h (h + (G' 0 4 - G 0 4)))
end
section
variable {B : Int → Int} {z : Int} {G G1 G2 : NTW} {k k1 k2 m : Nat} {x l dep : Int}
theorem emG_7 : emG G x 0 7 = G 0 7 + 1 := stm_hit _ _ _ _
theorem emG_12 : emG G x 12 (G 0 7) = x := by
  unfold emG
  rw [stm_neq (by omega), stm_hit]
theorem emG_ne {i j : Int} (h1 : ¬ (i = 0 ∧ j = 7)) (h2 : ¬ (i = 12 ∧ j = G 0 7)) : emG G x i j = G i j := by
  unfold emG
  rw [stm_neq h1, stm_neq h2]
theorem unG_8 : unG G 0 8 = G 0 8 + 1 := by
  unfold unG
  rw [stm_neq (by omega), stm_hit]
theorem unG_4 : unG G 0 4 = G 0 4 + 1 := by
  unfold unG
  rw [stm_hit]
theorem unG_ne {i j : Int} (h1 : ¬ (i = 0 ∧ j = 4)) (h2 : ¬ (i = 0 ∧ j = 8)) : unG G i j = G i j := by
  unfold unG
  rw [stm_neq h1, stm_neq h2]
theorem fnd_b {f : Int → Int} : ∀ (n : Nat) (i : Int), 0 ≤ i → fnd f x n i = -1 ∨ (i ≤ fnd f x n i ∧ fnd f x n i < i + (n : Int) ∧ f (fnd f x n i) = x)
  | 0, i, _ => Or.inl rfl
  | n + 1, i, h0 => by
    unfold fnd
    by_cases h : f i = x
    · rw [if_pos h]; exact Or.inr ⟨Int.le_refl _, by omega, h⟩
    · rw [if_neg h]
      rcases fnd_b (f := f) n (i + 1) (by omega) with e | e
      · exact Or.inl e
      · exact Or.inr ⟨by omega, by omega, e.2.2⟩
theorem GR_unit (hk : tkd B z k ≠ 1) (h0 : ¬ (G 0 8 = 30 ∨ G 0 4 = 90)) (hx : (0 ≤ x ∧ x ≤ 9999) ∨ (10000 ≤ x ∧ x < 10000 + G 0 1 ∧ x < 20000)) : GR B z k G (k + 1) (emG (unG G) x) := by
  have e7 : unG G 0 7 = G 0 7 := unG_ne (by omega) (by omega)
  have a4 : emG (unG G) x 0 4 = G 0 4 + 1 := by rw [emG_ne (by omega) (by omega), unG_4]
  have a8 : emG (unG G) x 0 8 = G 0 8 + 1 := by rw [emG_ne (by omega) (by omega), unG_8]
  have a7 : emG (unG G) x 0 7 = G 0 7 + 1 := by rw [emG_7, e7]
  have a12 : emG (unG G) x 12 (G 0 7) = x := by rw [← e7]; exact emG_12
  refine ⟨⟨Nat.le_refl _, fun i i0 i1 => by rw [show i = k by omega]; exact hk⟩, ⟨by omega, by omega⟩, ⟨by omega, by omega, fun _ => by omega, fun _ => by omega⟩, fun i j h1 h2 => ?_, fun i i0 i1 => ?_, fun h h0 => ?_⟩
  · rw [emG_ne (by omega) (by rw [e7]; omega), unG_ne (by omega) (by omega)]
  · rw [show i = G 0 7 by omega, a12]
    unfold cdX
    omega
  · rw [a7, a4]
    refine HTP_one ?_ ⟨by omega, by omega⟩ ⟨by omega, by omega⟩
    rw [a12]
    unfold htX
    rw [if_pos (by omega)]
/-- behind a sign of its own (a bracket, not) -/
theorem GR_br (hk : tkd B z k ≠ 1) (hk1 : tkd B z k1 ≠ 1) (h0 : ¬ (G 0 8 = 30 ∨ G 0 4 = 90)) (h : GR B z (k + 1) (unG G) k1 G1) : GR B z k G (k1 + 1) G1 := by
  obtain ⟨⟨a1, a2⟩, ⟨b1, b2⟩, ⟨c1, c2, c3, c4⟩, d1, e1, f1⟩ := h
  have e7 : unG G 0 7 = G 0 7 := unG_ne (by omega) (by omega)
  have e01 : unG G 0 1 = G 0 1 := unG_ne (by omega) (by omega)
  rw [e7] at b1 b2 d1 e1 f1
  rw [e01] at e1
  rw [unG_4] at c1 c2 c3 f1
  rw [unG_8] at c1 c4
  refine ⟨⟨by omega, fun i i0 i1 => ?_⟩, ⟨b1, by omega⟩, ⟨by omega, by omega, fun q => c3 (by omega), fun q => c4 (by omega)⟩, fun i j g1 g2 => ?_, e1, fun h h0 => HTP_mono (f1 h h0) (Int.le_refl _) (by omega)⟩
  · by_cases hik : i = k
    · rw [hik]; exact hk
    · by_cases hik1 : i = k1
      · rw [hik1]; exact hk1
      · exact a2 i (by omega) (by omega)
  · rw [d1 i j g1 g2, unG_ne (by omega) (by omega)]
theorem GR_not (hk : tkd B z k ≠ 1) (h : GR B z (k + 1) G k1 G1) : GR B z k G k1 (emG G1 20017) := by
  obtain ⟨⟨a1, a2⟩, ⟨b1, b2⟩, ⟨c1, c2, c3, c4⟩, d1, e1, f1⟩ := h
  have a4 : emG G1 20017 0 4 = G1 0 4 := emG_ne (by omega) (by omega)
  have a8 : emG G1 20017 0 8 = G1 0 8 := emG_ne (by omega) (by omega)
  refine ⟨⟨by omega, fun i i0 i1 => ?_⟩, ⟨by rw [emG_7]; omega, by rw [emG_7]; omega⟩, ⟨by omega, by omega, fun q => by rw [a4]; exact c3 q, fun q => by rw [a8]; exact c4 q⟩, fun i j g1 g2 => ?_, fun i i0 i1 => ?_, fun h h0 => ?_⟩
  · by_cases hik : i = k
    · rw [hik]; exact hk
    · exact a2 i (by omega) (by omega)
  · rw [emG_ne (by omega) (by omega), d1 i j g1 g2]
  · rw [emG_7] at i1
    by_cases hi : i = G1 0 7
    · rw [hi, emG_12]; unfold cdX; omega
    · rw [emG_ne (by omega) (by omega)]
      exact e1 i i0 (by omega)
  · rw [emG_7, a4]
    refine HTP_app b1 (by omega) (HTP_congr (f1 h h0) fun i i0 i1 => emG_ne (by omega) (by omega)) (HTP_one ?_ ⟨by omega, by omega⟩ ⟨by omega, by omega⟩)
    rw [emG_12]
    unfold htX
    rw [if_neg (by decide), if_pos rfl]
    exact ⟨by omega, rfl⟩
theorem GR_op (hk : tkd B z k1 ≠ 1) (hx : cdX x 0 ∧ 20000 ≤ x ∧ x ≠ 20017) (h : GR B z k G k1 G1) (g : GR B z (k1 + 1) G1 k2 G2) : GR B z k G k2 (emG G2 x) := by
  obtain ⟨⟨a1, a2⟩, ⟨b1, b2⟩, ⟨c1, c2, c3, c4⟩, d1, e1, f1⟩ := h
  obtain ⟨⟨p1, p2⟩, ⟨q1, q2⟩, ⟨r1, r2, r3, r4⟩, s1, t1, u1⟩ := g
  have a4 : emG G2 x 0 4 = G2 0 4 := emG_ne (by omega) (by omega)
  have a8 : emG G2 x 0 8 = G2 0 8 := emG_ne (by omega) (by omega)
  have e01 : G1 0 1 = G 0 1 := d1 0 1 (by omega) (by omega)
  refine ⟨⟨by omega, fun i i0 i1 => ?_⟩, ⟨by rw [emG_7]; omega, by rw [emG_7]; omega⟩, ⟨by omega, by omega, fun q => by rw [a4]; exact r3 (c3 q), fun q => by rw [a8]; exact r4 (c4 q)⟩, fun i j g1 g2 => ?_, fun i i0 i1 => ?_, fun h h0 => ?_⟩
  · by_cases hik : i < k1
    · exact a2 i i0 hik
    · by_cases hik1 : i = k1
      · rw [hik1]; exact hk
      · exact p2 i (by omega) i1
  · rw [emG_ne (by omega) (by omega), s1 i j g1 (by omega), d1 i j g1 g2]
  · rw [emG_7] at i1
    by_cases hi : i = G2 0 7
    · rw [hi, emG_12]
      have := hx.1
      unfold cdX at this ⊢
      omega
    · rw [emG_ne (by omega) (by omega)]
      by_cases hi1 : i < G1 0 7
      · rw [s1 12 i (by omega) (by omega)]
        exact e1 i i0 hi1
      · rw [← e01]
        exact t1 i (by omega) (by omega)
  · rw [emG_7, a4]
    have l1 := HTP_mono (hi' := h + (G2 0 4 - G 0 4)) (f1 h h0) (Int.le_refl _) (by omega)
    have l2 := HTP_mono (lo' := h) (hi' := h + (G2 0 4 - G 0 4)) (u1 (h + 1) (by omega)) (by omega) (by omega)
    refine HTP_app b1 (by omega) (HTP_congr l1 fun i i0 i1 => ?_) (HTP_app q1 (by omega) (HTP_congr l2 fun i i0 i1 => emG_ne (by omega) (by omega)) (HTP_one ?_ ⟨by omega, by omega⟩ ⟨by omega, by omega⟩))
    · rw [emG_ne (by omega) (by omega), s1 12 i (by omega) (by omega)]
    · rw [emG_12]
      unfold htX
      rw [if_neg (by omega), if_neg hx.2.2]
      omega
theorem opB_code {kd v : Int} (h : opB l kd v = true) : kd ≠ 1 ∧ (cdX (20000 + v) 0 ∧ 20000 ≤ 20000 + v ∧ 20000 + v ≠ 20017) := by
  unfold opB at h
  unfold cdX
  repeat' split at h
  all_goals
    have := of_decide_eq_true h
    omega
theorem bnd_inr {r : RSP} {f : Nat → NTW → RSP} {s : Nat × NTW} (h : bnd r f = .inr s) : ∃ k1 G1, r = .inr (k1, G1) ∧ f k1 G1 = .inr s := by
  unfold bnd at h
  match r, h with
  | .inr s1, h => exact ⟨s1.1, s1.2, rfl, h⟩
theorem flt_no {w : Int} {s : Nat × NTW} : flt B z k w ≠ .inr s := by
  unfold flt
  exact fun h => by cases h
theorem GR_lp {f : Nat → NTW → RSP} (hf : ∀ k G k' G', G 0 1 ≤ 3 → f k G = .inr (k', G') → GR B z k G k' G') {k0 : Nat} {G0 : NTW} (hS : G0 0 1 ≤ 3) : ∀ (m k : Nat) (G : NTW) (k' : Nat) (G' : NTW), GR B z k0 G0 k G → lpP B z f l m k G = .inr (k', G') → GR B z k0 G0 k' G'
  | 0, k, G, k', G', h, e => by
    have e : Sum.inr (k, G) = (Sum.inr (k', G') : RSP) := e
    cases e
    exact h
  | m + 1, k, G, k', G', h, e => by
    unfold lpP at e
    by_cases ho : opB l (tkd B z k) (tvl B z k) = true
    · rw [if_pos ho] at e
      obtain ⟨k1, G1, e1, e2⟩ := bnd_inr e
      obtain ⟨o1, o2⟩ := opB_code ho
      have e01 : G 0 1 = G0 0 1 := h.2.2.2.1 0 1 (by omega) (by omega)
      exact GR_lp hf hS m k1 _ k' G' (GR_op o1 o2 h (hf _ _ _ _ (by rw [e01]; exact hS) e1)) e2
    · rw [if_neg ho] at e
      cases e
      exact h
theorem GR_fm : ∀ (n : Nat) (l dep : Int) (k : Nat) (G : NTW) (k' : Nat) (G' : NTW), G 0 1 ≤ 3 → fmP B z n l dep k G = .inr (k', G') → GR B z k G k' G'
  | 0, l, dep, k, G, k', G', hS, e => absurd e flt_no
  | n + 1, l, dep, k, G, k', G', hS, e => by
    unfold fmP at e
    by_cases h5 : 5 ≤ l
    · rw [if_pos h5] at e
      unfold unP at e
      by_cases hb : tkd B z k = 5 ∧ tvl B z k = 40
      · rw [if_pos hb] at e
        by_cases hf : (G 0 8 = 30 ∨ G 0 4 = 90) ∨ 6 < dep
        · rw [if_pos hf] at e; exact absurd e flt_no
        · rw [if_neg hf] at e
          obtain ⟨k1, G1, e1, e2⟩ := bnd_inr e
          unfold pSg at e2
          by_cases hc : tkd B z k1 = 5 ∧ tvl B z k1 = 41
          · rw [if_pos hc] at e2
            cases e2
            exact GR_br (by omega) (by omega) (by omega) (GR_fm n 0 (dep + 1) (k + 1) (unG G) k1 G' (by rw [unG_ne (by omega) (by omega)]; exact hS) e1)
          · rw [if_neg hc] at e2; exact absurd e2 flt_no
      · rw [if_neg hb] at e
        by_cases h4 : tkd B z k = 4
        · rw [if_pos h4] at e
          by_cases hf : G 0 8 = 30 ∨ G 0 4 = 90
          · rw [if_pos hf] at e; exact absurd e flt_no
          · rw [if_neg hf] at e
            cases e
            exact GR_unit (by omega) hf (Or.inl (tok_num h4))
        · rw [if_neg h4] at e
          by_cases h3 : tkd B z k = 3
          · rw [if_pos h3] at e
            by_cases hf : G 0 8 = 30 ∨ G 0 4 = 90
            · rw [if_pos hf] at e; exact absurd e flt_no
            · rw [if_neg hf] at e
              by_cases hs : stH G (tvl B z k) < 0
              · rw [if_pos hs] at e; exact absurd e flt_no
              · rw [if_neg hs] at e
                cases e
                refine GR_unit (by omega) hf (Or.inr ?_)
                have hb2 : stH G (tvl B z k) = -1 ∨ _ := fnd_b (G 0 1).toNat 0 (Int.le_refl _)
                rcases hb2 with q | q
                · omega
                · have q2 : stH G (tvl B z k) < 0 + ((G 0 1).toNat : Int) := q.2.1
                  omega
          · rw [if_neg h3] at e; exact absurd e flt_no
    · rw [if_neg h5] at e
      by_cases hn : l = 2 ∧ (tkd B z k = 2 ∧ tvl B z k = 17)
      · rw [if_pos hn] at e
        by_cases hd : 6 < dep
        · rw [if_pos hd] at e; exact absurd e flt_no
        · rw [if_neg hd] at e
          obtain ⟨k1, G1, e1, e2⟩ := bnd_inr e
          cases e2
          exact GR_not (by omega) (GR_fm n 2 (dep + 1) (k + 1) G _ G1 hS e1)
      · rw [if_neg hn] at e
        obtain ⟨k1, G1, e1, e2⟩ := bnd_inr e
        have g1 := GR_fm n (l + 1) dep k G k1 G1 hS e1
        exact GR_lp (fun k G k' G' hS e => GR_fm n (l + 1) dep k G k' G' hS e) hS _ k1 G1 k' G' g1 e2
end
