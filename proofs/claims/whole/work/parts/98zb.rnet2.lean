/-! NET, the reference -/
def BKN (r q j : Int) : Prop := BKW r q j ∨ q = 366 ∨ (q = 364 ∧ (j = 2 ∨ j = 37))
def FNT (r : Int) (X Y : MEM) : Prop := ∀ q j, ¬ BKN r q j → Y q j = X q j
section
variable {d : Nat} {R M X Y : MEM} {B : Int → Int} {z r v w x a b c f n rk t : Int} {k k' : Nat} {s : SNK} {S : SKK} {G G' G1 : NTW} {Q : RES}
theorem FNT_W (h : FPW r X Y) : FNT r X Y := fun q j hn => h q j fun g => hn (Or.inl g)
theorem FNT_tr {W : MEM} (h : FNT r X Y) (g : FNT r Y W) : FNT r X W := fun q j hn => (g q j hn).trans (h q j hn)
theorem r_lines (hR : RM R) (hr : r = 0 ∨ r = 1) {Y0 : MEM} (hbad : ∀ e Y', pAll B z 1601 0 G0 = .inl e → MSt B z (.inl e) Y' → FPW r Y0 Y' → Q (-1) SHX R Y') (hgood : ∀ k G Y', pAll B z 1601 0 G0 = .inr (k, G) → WLI k G → POK B z k G → MSt B z (.inr k) Y' → MNG Y' r G → FPW r Y0 Y' → Q (G 0 0) SHX R (anewM (stm Y' 364 36 r) r)) : ∀ (m k : Nat) (G : NTW) (Y : MEM), 1601 ≤ m + k → MSt B z (.inr k) Y → MNG Y r G → WLI k G → POK B z k G → FPW r Y0 Y → pAll B z m k G = pAll B z 1601 0 G0 → Go (d + 9) 168 Q 42 [vr 364, vn] [] SHX R Y 0 0 := by
  have fin : ∀ (k : Nat) (G : NTW) (Y : MEM), MSt B z (.inr k) Y → MNG Y r G → WLI k G → POK B z k G → FPW r Y0 Y → .inr (k, G) = pAll B z 1601 0 G0 → tkd B z k = 1 → Go (d + 9) 168 Q 42 [vr 364, vn] [] SHX R Y 0 0 := fun k G Y hM hG hW hP f he h1 => by
    have e8 : Y 364 8 = 0 ↔ tkd B z k = 1 := km_is hM (v := 1) (by decide)
    have g37 := hG.1.1
    have g0 := hG.1.2.1
    refine b_X12_net_42 ?_
    rw [ok364]
    refine r_isGood (d := d + 8) hM (fun e' he => nomatch he) fun _ _ => ?_
    rw [if_neg (by decide), ok364, if_pos (e8.2 h1), ok364]
    intro _
    refine r_isGood (d := d + 8) hM (fun e' he => nomatch he) fun _ _ => ?_
    rw [if_neg (by decide), ok364, ok364, ok364, g37]
    intro _
    refine w_startAnew (d := d + 7) (b := r) hR (stm_hit _ _ _ _) (by omega) (by omega) ?_
    have a36 : anewM (stm Y 364 36 r) r 364 36 = r := by
      unfold anewM
      simp (disch := omega) only [stm_neq, stm_ne, fil_ne, cpy_ne, stm_hit]
    have a67 : anewM (stm Y 364 36 r) r 367 r = G 0 0 := by
      unfold anewM
      simp (disch := omega) only [stm_neq, stm_ne, fil_ne, cpy_ne]
      exact g0
    rw [ok364, ok364, fr11 hR, a36, ak367, a67]
    exact ⟨by omega, by omega, hgood k G Y he.symm hW hP hM hG f⟩
  intro m
  induction m with
  | zero =>
    intro k G Y hm hM hG hW hP f he
    have hz := hM.1.2.1
    exact fin k G Y hM hG hW hP f he (tok_1600 hz.1 hz.2 k (by omega))
  | succ m ih =>
    intro k G Y hm hM hG hW hP f he
    have hz := hM.1.2.1
    have eu : pAll B z (m + 1) k G = if tkd B z k = 1 then .inr (k, G) else bnd (pLin B z k G) fun k1 G1 => pAll B z m k1 G1 := rfl
    rw [eu] at he
    by_cases h1 : tkd B z k = 1
    · rw [if_pos h1] at he
      exact fin k G Y hM hG hW hP f he h1
    · rw [if_neg h1] at he
      have e8 : Y 364 8 = 0 ↔ tkd B z k = 1 := km_is hM (v := 1) (by decide)
      refine b_X12_net_42 ?_
      rw [ok364]
      refine r_isGood (d := d + 8) hM (fun e' he => nomatch he) fun _ _ => ?_
      rw [if_neg (by decide), ok364, if_neg fun q => h1 (e8.1 q), ok364]
      intro _
      refine r_line (d := d) hR hr hM hG hW hP fun Y1 h1' f1 => ?_
      cases hl : pLin B z k G with
      | inl e =>
        rw [hl] at h1' he
        have h2 : MSt B z (.inl e) Y1 := h1'
        refine b_X12_net_42 ?_
        rw [ok364]
        refine r_isGood (d := d + 8) h2 (fun e' _ => ?_) fun k' he => nomatch he
        rw [if_pos rfl, ok364]
        intro _
        refine r_isGood (d := d + 8) h2 (fun e' _ => ?_) fun k' he => nomatch he
        rw [if_pos rfl]
        exact fun _ => hbad e Y1 he.symm h2 (FPW_tr f f1)
      | inr s =>
        rw [hl] at h1' he
        obtain ⟨w1, w2⟩ := pLin_ok hW (k' := s.1) (G' := s.2) hl
        have p1 := pLin_pot hz.1 hz.2 hW hP (k' := s.1) (G' := s.2) hl
        exact ih s.1 s.2 Y1 (by omega) h1'.1 h1'.2 w1 p1 (FPW_tr f f1) he
theorem r_net (hR : RM R) (hb : M 364 36 = b) (b0 : b = 0 ∨ b = 1) (hz : M 364 2 = z) (z0 : 0 ≤ z ∧ z ≤ 1600) (hB : ∀ i, 0 ≤ i → i < z → iand (M 365 i) 255 = B i ∧ 0 ≤ B i ∧ B i ≤ 255) (hbad : ∀ e Y', pAll B z 1601 0 G0 = .inl e → Y' 364 4 = e.1 → Y' 364 5 = e.2 → Y' 364 2 = 0 → FNT (1 - b) M Y' → Q (-1) SHX R Y') (hgood : ∀ k G Y', pAll B z 1601 0 G0 = .inr (k, G) → WLI k G → POK B z k G → MNG Y' (1 - b) G → Y' 364 4 = 0 → Y' 364 5 = -1 → Y' 364 2 = 0 → FNT (1 - b) M Y' → Q (G 0 0) SHX R (anewM (stm Y' 364 36 (1 - b)) (1 - b))) : Mw (d + 10) 168 [vr 364] SHX R M 0 0 Q := by
  obtain ⟨r, hr'⟩ : ∃ r, r = 1 - b := ⟨_, rfl⟩
  have hr : r = 0 ∨ r = 1 := by omega
  rw [← hr'] at hbad hgood
  refine Mw_of mok168 rfl fun _ _ => b_X12_net_0 ?_
  simp (disch := omega) only [ok364, stm_neq, hz]
  obtain ⟨M1, hM1⟩ : ∃ M1, M1 = stm (stm (stm M 364 4 0) 364 5 (-1)) 364 3 z := ⟨_, rfl⟩
  rw [← hM1]
  have m4 : M1 364 4 = 0 := by rw [hM1]; simp (disch := omega) only [stm_neq, stm_hit]
  have m5 : M1 364 5 = -1 := by rw [hM1]; simp (disch := omega) only [stm_neq, stm_hit]
  have m3 : M1 364 3 = z := by rw [hM1, stm_hit]
  have m36 : M1 364 36 = b := by rw [hM1]; simp (disch := omega) only [stm_neq]; exact hb
  have f1 : FNT r M M1 := fun q j hn => by
    rw [hM1]
    have : ¬ (q = 364 ∧ (j = 3 ∨ j = 4 ∨ j = 5)) := fun g => hn (Or.inl (by unfold BKW; omega))
    simp (disch := omega) only [stm_neq]
  have m65 : M1 365 = M 365 := by rw [hM1]; simp (disch := omega) only [stm_ne]
  -- the text
  have key : ∀ (m : Nat) (i : Int) (X : MEM), (z - i).toNat = m → 0 ≤ i → i ≤ z → (∀ q, q ≠ 366 → X q = M1 q) → (∀ j, 0 ≤ j → j < i → X 366 j = w8 (M1 365 j)) → Go (d + 10) 168 Q 12 [vr 364, vi i] [] SHX R X 0 0 := by
    intro m
    induction m with
    | zero =>
      intro i X hm i0 i1 hX hj
      refine b_X12_net_12 ?_
      rw [ok364, hX 364 (by decide), m3, if_neg (by omega)]
      simp (disch := omega) only [ok364, stm_neq, hX 364 (by decide), m36]
      rw [isub_of (by omega) (by omega), ← hr']
      obtain ⟨X1, hX1⟩ : ∃ X1, X1 = stm (stm (stm X 364 2 0) 364 7 0) 364 37 r := ⟨_, rfl⟩
      rw [← hX1]
      have x37 : X1 364 37 = r := by rw [hX1, stm_hit]
      refine w_clearBank (b := r) hR x37 (by omega) (by omega) ?_
      have x1 : ∀ j, j ≠ 2 → j ≠ 7 → j ≠ 37 → X1 364 j = M1 364 j := fun j h1 h2 h3 => by
        rw [hX1]
        simp (disch := omega) only [stm_neq]
        rw [hX 364 (by decide)]
      have x66 : X1 366 = X 366 := by rw [hX1]; simp (disch := omega) only [stm_ne]
      have xq : ∀ q, q ≠ 364 → q ≠ 366 → X1 q = M1 q := fun q h1 h2 => by
        rw [hX1]
        simp (disch := omega) only [stm_ne]
        exact hX q h2
      obtain ⟨X2, hX2⟩ : ∃ X2, X2 = clrM X1 r := ⟨_, rfl⟩
      rw [← hX2, ok364]
      have y1 : ∀ j, j ≠ 38 → X2 364 j = X1 364 j := fun j h1 => by
        rw [hX2]
        unfold clrM
        simp (disch := omega) only [stm_neq]
      have y66 : X2 366 = X1 366 := by
        rw [hX2]
        unfold clrM
        simp (disch := omega) only [stm_ne]
      have hT : MTX X2 B z := by
        refine ⟨?_, z0, fun i i0 i1 => ?_⟩
        · rw [y1 3 (by decide), x1 3 (by decide) (by decide) (by decide)]; exact m3
        · rw [y66, x66, hj i i0 (by omega), iand_w8, m65]
          exact hB i i0 i1
      have h7 : X2 364 7 = pos B z 0 := by
        rw [y1 7 (by decide), hX1, stm_neq (by omega), stm_hit]
        rfl
      refine m_goOn (d := d + 8) (k := 0) hR hT h7 fun X3 hX3 hF3 => ?_
      have hS3 : MSt B z (.inr 0) X3 := by
        refine ⟨MTX_5 hT hF3, ?_, ?_, ?_, hX3⟩
        · rw [hX3.2.1]
          have := tok_rng (B := B) z0.1 0
          have := pos_rng (B := B) z0.1 0
          omega
        · rw [hF3.2 4 (by omega), y1 4 (by decide), x1 4 (by decide) (by decide) (by decide)]; exact m4
        · rw [hF3.2 5 (by omega), y1 5 (by decide), x1 5 (by decide) (by decide) (by decide)]; exact m5
      have x3q : ∀ q, q ≠ 364 → X3 q = X2 q := fun q hq => hF3.1 q hq
      have hG3 : MNG X3 r G0 := by
        have e : ∀ i j, G0 i j = 0 := fun _ _ => rfl
        refine ⟨⟨?_, ?_, ?_, ?_, ?_, ?_, ?_, ?_, ?_⟩, fun t t0 t1 => ?_, fun u u0 u1 => ?_, fun w w0 w1 => ?_, fun c c0 c1 => ?_, fun i i0 i1 => ?_⟩
        · rw [hF3.2 37 (by omega), y1 37 (by decide)]; exact x37
        · rw [x3q 367 (by decide), hX2]; unfold clrM; simp (disch := omega) only [stm_neq, stm_hit, e]
        · rw [x3q 368 (by decide), hX2]; unfold clrM; simp (disch := omega) only [stm_neq, stm_hit, e]
        · rw [x3q 369 (by decide), hX2]; unfold clrM; simp (disch := omega) only [stm_neq, stm_hit, e]
        · rw [x3q 370 (by decide), hX2]; unfold clrM; simp (disch := omega) only [stm_neq, stm_hit, e]
        · rw [x3q 371 (by decide), hX2]; unfold clrM; simp (disch := omega) only [stm_neq, stm_hit, e]
        · rw [x3q 372 (by decide), hX2]; unfold clrM; simp (disch := omega) only [stm_neq, stm_hit, e]
        · rw [x3q 384 (by decide), hX2]; unfold clrM; simp (disch := omega) only [stm_neq, stm_hit, e]
        · rw [hF3.2 38 (by omega), hX2]; unfold clrM; rw [stm_hit, e]; omega
        · rw [e] at t1; omega
        · rw [e] at u1; omega
        · rw [e] at w1; omega
        · rw [e] at c1; omega
        · rw [e] at i1; omega
      have f3 : FNT r M X3 := fun q j hn => by
        by_cases hq : q = 364
        · subst hq
          have hj : ¬ ((3 ≤ j ∧ j ≤ 10) ∨ (38 ≤ j ∧ j ≤ 41) ∨ j = 2 ∨ j = 37) := fun g => hn (by unfold BKN BKW; omega)
          rw [hF3.2 j (by omega), y1 j (by omega), x1 j (by omega) (by omega) (by omega)]
          exact f1 364 j hn
        · have h66 : q ≠ 366 := fun g => hn (Or.inr (Or.inl g))
          rw [x3q q hq, hX2]
          have hj : ¬ (((367 ≤ q ∧ q ≤ 372) ∨ q = 384) ∧ j = r) := fun g => hn (Or.inl (by unfold BKW; omega))
          unfold clrM
          simp (disch := omega) only [stm_neq]
          rw [xq q hq h66]
          exact f1 q j hn
      refine r_lines (d := d + 1) hR hr (Y0 := X3) (fun e Y' h1 h2 h3 => hbad e Y' h1 h2.2.2.1 h2.2.2.2.1 ?_ (FNT_tr f3 (FNT_W h3))) (fun k G Y' h1 h2 h2' h3 h4 h5 => hgood k G Y' h1 h2 h2' h4 h3.2.2.1 h3.2.2.2.1 ?_ (FNT_tr f3 (FNT_W h5))) 1601 0 G0 X3 (by decide) hS3 hG3 WLI_0 ?_ FPW_self rfl
      · rw [h3 364 2 (fun q => by unfold BKW at q; omega), hF3.2 2 (by omega), y1 2 (by decide), hX1]
        simp (disch := omega) only [stm_neq, stm_hit]
      · rw [h5 364 2 (fun q => by unfold BKW at q; omega), hF3.2 2 (by omega), y1 2 (by decide), hX1]
        simp (disch := omega) only [stm_neq, stm_hit]
      · unfold POK
        have e : ∀ i j, G0 i j = 0 := fun _ _ => rfl
        rw [e, e]
        have := tok_rng (B := B) z0.1 0
        have := pos_rng (B := B) z0.1 0
        omega
    | succ m ih =>
      intro i X hm i0 i1 hX hj
      refine b_X12_net_12 ?_
      rw [ok364, hX 364 (by decide), m3, if_pos (by omega), ok364, ok364, fr0 hR, fr1 hR, ak365, ak366, iadd_of (x := i) (by omega) (by omega)]
      refine ⟨by omega, by omega, by omega, by omega, ?_⟩
      refine ih (i + 1) _ (by omega) (by omega) (by omega) (fun q hq => ?_) fun j j0 j1 => ?_
      · rw [stm_ne (by omega)]; exact hX q hq
      · by_cases hji : j = i
        · rw [hji, stm_hit, hX 365 (by decide)]
        · rw [stm_neq (by omega)]; exact hj j j0 (by omega)
  exact key z.toNat 0 M1 (by omega) (Int.le_refl _) z0.1 (fun _ _ => rfl) fun j j0 j1 => by omega
end
