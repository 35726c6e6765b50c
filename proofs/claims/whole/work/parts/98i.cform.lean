/-! THE PARSER, the class: formulas -/
def CPF (X : MEM) (B : Int → Int) (z n : Int) (K k : Nat) (G : NTW) : Prop := CT X B z K k ∧ k ≤ K ∧ CNG X n G ∧ X 33 8 = G 0 8 ∧ BG G ∧ (0 ≤ G 0 8 ∧ G 0 8 ≤ 30) ∧ G 0 7 ≤ (k : Int)
def CRS (B : Int → Int) (z n : Int) (K : Nat) (r : RSP) (v : Int) (X : MEM) : Prop := match r with
  | .inl e => v = 0 ∧ X 33 0 = e.1 ∧ X 33 1 = e.2
  | .inr s => v = 1 ∧ CPF X B z n K s.1 s.2
section
variable {d : Nat} {R X X1 X2 : MEM} {B : Int → Int} {z n x y v w dep l : Int} {K k : Nat} {G G1 : NTW} {Q : RES}
theorem CRS_fl : CRS B z n K (flt B z k w) 0 (flM X B z k w) := ⟨rfl, fl_0.1, fl_0.2⟩
theorem CT_lt (hT : CT X B z K k) (hk : k ≤ K) (h : tkd B z k ≠ 1) : k + 1 ≤ K := by
  by_cases e : k = K
  · rw [e] at h; exact absurd hT.1.2.2.2.1 h
  · omega
theorem BG_un (h : BG G) (h8 : ¬ (G 0 8 = 30 ∨ G 0 4 = 90)) : BG (unG G) := by
  obtain ⟨a, b, c, e, f⟩ := h
  have g : ∀ i j, ¬ (i = 0 ∧ j = 4) → ¬ (i = 0 ∧ j = 8) → unG G i j = G i j := fun i j h1 h2 => unG_ne h1 h2
  refine ⟨?_, ?_, fun s s0 s1 => ?_, ?_, ?_⟩
  · rw [g 0 0 (by omega) (by omega)]; exact a
  · rw [g 0 1 (by omega) (by omega)]; exact b
  · rw [g 0 1 (by omega) (by omega)] at s1
    rw [g 5 s (by omega) (by omega), g 0 0 (by omega) (by omega)]; exact c s s0 s1
  · rw [unG_4]; omega
  · rw [g 0 7 (by omega) (by omega)]; exact f
theorem BG_em (h : BG G) : BG (emG G x) := by
  obtain ⟨a, b, c, e, f⟩ := h
  have g : ∀ i j, ¬ (i = 0 ∧ j = 7) → i ≠ 12 → emG G x i j = G i j := fun i j h1 h2 => emG_ne h1 (by omega)
  refine ⟨?_, ?_, fun s s0 s1 => ?_, ?_, ?_⟩
  · rw [g 0 0 (by omega) (by decide)]; exact a
  · rw [g 0 1 (by omega) (by decide)]; exact b
  · rw [g 0 1 (by omega) (by decide)] at s1
    rw [g 5 s (by omega) (by decide), g 0 0 (by omega) (by decide)]; exact c s s0 s1
  · rw [g 0 4 (by omega) (by decide)]; exact e
  · rw [emG_7]; omega
theorem FPC_in {q i : Int} (hq : q = n ∨ q = n + 11) (n1 : n = 1 ∨ n = 14) : FPC n X (stm X q i v) := ⟨fun r _ _ h => stm_ne (by omega), fun j hj => stm_neq (by omega)⟩
theorem CT_in {q i : Int} (hT : CT X B z K k) (hq : q ≠ 27) (h30 : ¬ (30 ≤ q ∧ q ≤ 32)) : CT (stm X q i v) B z K k := CT_of hT (fun j => stm_neq (by omega)) (stm_ne (by omega)) (stm_ne (by omega)) (stm_ne (by omega))
theorem CPF_fl (h : FPC n X X1) : FPC n X (flM X1 B z k w) := FPC_tr h FPC_fl
/-- behind a step -/
theorem CPF_st (n1 : n = 1 ∨ n = 14) (hT : CT X2 B z K (k + 1)) (hk : k + 1 ≤ K) (hf : FT X1 X2) (hG : CNG X1 n G) (h8 : X1 33 8 = G 0 8) (hB : BG G) (hu : 0 ≤ G 0 8 ∧ G 0 8 ≤ 30) (h7 : G 0 7 ≤ (k : Int) + 1) : CPF X2 B z n K (k + 1) G := ⟨hT, hk, CNG_FT hG hf n1, by rw [hf.1 _ (by decide)]; exact h8, hB, hu, by omega⟩
theorem c_unit {f : Nat → NTW → RSP} (hc : RC R) (hP : R 33 5 = n) (hN : NR R n) (n1 : n = 1 ∨ n = 14) (Hf : dep ≤ 6 → ∀ (k : Nat) (G : NTW) (X : MEM) (Q : RES), CPF X B z n K k G → (∀ X' v, CRS B z n K (f k G) v X' → FPC n X X' → Q v SHX R X') → Mw (d + 2) 41 [vr 33, vi 0, vi (dep + 1)] SHX R X 0 0 Q) (hd : 0 ≤ dep ∧ dep ≤ 7) (hS : CPF X B z n K k G) (hq : ∀ X' v, CRS B z n K (unP B z f dep k G) v X' → FPC n X X' → Q v SHX R X') : Mw (d + 3) 44 [vr 33, vi dep] SHX R X 0 0 Q := by
  obtain ⟨hT, hk, hG, h8, hB, hu, h7⟩ := hS
  have hB' := hB
  obtain ⟨bT, bS, bs, bU, bK⟩ := hB'
  have hK16 := hT.1.2.1
  have e278 : X 27 8 = tkd B z k := hT.2.2.1
  have e270 : X 27 10 = tvl B z k := hT.2.2.2.2
  have e17 : X n 17 = G 0 4 := hG.1.2.2.2.2.1
  have bad : ∀ w, unP B z f dep k G = flt B z k w → Cd (d + 3) 35 [vr 33, vi w] SHX R X 0 0 (fun (x27 : Int) (sh27 : SHP) (R27 M27 : MEM) => (x27 = 0 ∨ x27 = 1) → bq x27 (Q x27 sh27 R27 M27)) := fun w hw => by
    refine c_fail (d := d + 2) hc hT fun _ => ?_
    exact hq _ 0 (by rw [hw]; exact CRS_fl) FPC_fl
  -- what a unit leaves
  have u1 : ¬ (G 0 8 = 30 ∨ G 0 4 = 90) → CNG (stm (stm X 33 8 (G 0 8 + 1)) n 17 (G 0 4 + 1)) n (unG G) ∧ CT (stm (stm X 33 8 (G 0 8 + 1)) n 17 (G 0 4 + 1)) B z K k ∧ BG (unG G) ∧ FPC n X (stm (stm X 33 8 (G 0 8 + 1)) n 17 (G 0 4 + 1)) ∧ stm (stm X 33 8 (G 0 8 + 1)) n 17 (G 0 4 + 1) 33 8 = unG G 0 8 ∧ (0 ≤ unG G 0 8 ∧ unG G 0 8 ≤ 30) ∧ unG G 0 7 = G 0 7 := fun hno => by
    refine ⟨CNG_un hG n1, CT_in (CT_33 hT) (by omega) (by omega), BG_un hB hno, FPC_tr FPC_33 (FPC_in (Or.inl rfl) n1), ?_, ?_, unG_ne (by omega) (by omega)⟩
    · rw [stm_neq (by omega), stm_hit, unG_8]
    · rw [unG_8]; omega
  have leaf : ∀ x : Int, tkd B z k ≠ 1 → ¬ (G 0 8 = 30 ∨ G 0 4 = 90) → unP B z f dep k G = .inr (k + 1, emG (unG G) x) → Cd (d + 3) 28 [vr n, vi x] SHX R (stm (stm X 33 8 (G 0 8 + 1)) n 17 (G 0 4 + 1)) 0 0 (fun (_ : Int) (sh28 : SHP) (R28 M28 : MEM) => ook sh28 5 33 (ook sh28 9 (R28 33 2) (Cd (d + 3) 94 [vr (R28 33 2)] sh28 R28 M28 0 0 (fun (_ : Int) (sh29 : SHP) (R29 M29 : MEM) => Q 1 sh29 R29 M29)))) := fun x hk1 hno he => by
    obtain ⟨v1, v2, v3, v4, v5, v6, v7⟩ := u1 hno
    have hlt := CT_lt hT hk hk1
    refine c_emit (d := d + 2) hN v1 (by omega) (by omega) ?_
    rw [ok33, rc33_2 hc, ok27]
    refine c_step (d := d + 2) hc (CT_in (CT_in v2 (by omega) (by omega)) (by omega) (by omega)) fun X' hT' hF' => ?_
    refine hq X' 1 ?_ (FPC_tr v4 (FPC_tr (FPC_tr (FPC_in (Or.inr rfl) n1) (FPC_in (Or.inl rfl) n1)) (FPC_FT hF')))
    rw [he]
    refine ⟨rfl, ?_⟩
    show CPF X' B z n K (k + 1) (emG (unG G) x)
    refine CPF_st n1 hT' hlt hF' (CNG_em v1 n1) ?_ (BG_em v3) ?_ ?_
    · rw [stm_neq (by omega), stm_neq (by omega), v5, emG_ne (by omega) (by omega)]
    · rw [emG_ne (by omega) (by omega)]; exact v6
    · rw [emG_7]; omega
  refine Mw_of mok44 rfl fun _ _ => b_X5_unit_0 ?_
  rw [ok33, rc33_2 hc, ok27]
  refine c_isSign (d := d + 2) hT (fun h _ => ?_) fun h _ => ?_
  · -- a bracket
    have eu : unP B z f dep k G = if (G 0 8 = 30 ∨ G 0 4 = 90) ∨ 6 < dep then flt B z k 2 else bnd (f (k + 1) (unG G)) fun k1 G1 => pSg B z k1 41 (.inr (k1 + 1, G1)) := if_pos h
    rw [if_neg (by decide), ok33, h8]
    by_cases h30 : G 0 8 = 30
    · rw [if_pos h30, ok33]
      exact bad 2 (by rw [eu, if_pos (Or.inl (Or.inl h30))])
    · rw [if_neg h30, ok33, hP, okN hN, e17]
      by_cases h90 : G 0 4 = 90
      · rw [if_pos h90, ok33]
        exact bad 2 (by rw [eu, if_pos (Or.inl (Or.inr h90))])
      · rw [if_neg h90, if_neg (by decide)]
        by_cases h6 : 6 < dep
        · rw [if_pos h6, ok33]
          exact bad 2 (by rw [eu, if_pos (Or.inr h6)])
        · have hno : ¬ (G 0 8 = 30 ∨ G 0 4 = 90) := by omega
          have e4u : stm X 33 8 (G 0 8 + 1) n 17 = G 0 4 := by rw [stm_neq (by omega)]; exact e17
          rw [if_neg (by omega)] at eu
          rw [if_neg h6, ok33, ok33, ok33, okN hN, okN hN, if_neg (by decide), ok33, rc33_2 hc, ok27, iadd_of (x := G 0 8) (by omega) (by omega), e4u, iadd_of (x := G 0 4) (by omega) (by omega), iadd_of (x := dep) (by omega) (by omega)]
          obtain ⟨v1, v2, v3, v4, v5, v6, v7⟩ := u1 hno
          have hlt := CT_lt hT hk (by omega)
          refine c_step (d := d + 2) hc v2 fun X2 hT2 hF2 => ?_
          rw [ok33]
          refine Hf (by omega) (k + 1) (unG G) X2 _ (CPF_st n1 hT2 hlt hF2 v1 v5 v3 v6 (by omega)) fun X3 v hr hF3 hv => ?_
          have fr3 : FPC n X X3 := FPC_tr v4 (FPC_tr (FPC_FT hF2) hF3)
          cases hf : f (k + 1) (unG G) with
          | inl e =>
            rw [hf] at hr eu
            obtain ⟨q1, q2, q3⟩ := hr
            subst q1
            rw [if_pos rfl]
            exact hq X3 0 (by rw [eu]; exact ⟨rfl, q2, q3⟩) fr3
          | inr s =>
            rw [hf] at hr eu
            obtain ⟨q1, q2⟩ := hr
            subst q1
            have eu' : unP B z f dep k G = pSg B z s.1 41 (.inr (s.1 + 1, s.2)) := eu
            unfold pSg at eu'
            obtain ⟨w1, w2, w3, w4, w5, w6, w7⟩ := q2
            rw [if_neg (by decide), ok33]
            refine c_takeSign (d := d + 1) hc w1 (fun h41 _ => ?_) fun h41 X4 hT4 hF4 _ => ?_
            · rw [if_neg h41] at eu'
              rw [if_pos rfl]
              exact hq _ 0 (by rw [eu']; exact CRS_fl) (CPF_fl fr3)
            · rw [if_pos h41] at eu'
              rw [if_neg (by decide)]
              refine hq X4 1 ?_ (FPC_tr fr3 (FPC_FT hF4))
              rw [eu']
              refine ⟨rfl, ?_⟩
              show CPF X4 B z n K (s.1 + 1) s.2
              exact CPF_st n1 hT4 (CT_lt w1 w2 (by omega)) hF4 w3 w4 w5 w6 (by omega)
  · have eu : unP B z f dep k G = if tkd B z k = 4 then (if G 0 8 = 30 ∨ G 0 4 = 90 then flt B z k 2 else .inr (k + 1, emG (unG G) (tvl B z k))) else if tkd B z k = 3 then (if G 0 8 = 30 ∨ G 0 4 = 90 then flt B z k 2 else if stH G (tvl B z k) < 0 then flt B z k 5 else .inr (k + 1, emG (unG G) (10000 + stH G (tvl B z k)))) else flt B z k 2 := if_neg h
    rw [if_pos rfl, ok33, rc33_2 hc, ok27, e278]
    have e4u : stm X 33 8 (G 0 8 + 1) n 17 = G 0 4 := by rw [stm_neq (by omega)]; exact e17
    have e8u : ∀ u w, stm (stm X 33 8 u) n 17 w 27 8 = tkd B z k := fun u w => by rw [stm_neq (by omega), stm_neq (by omega)]; exact e278
    have e0u : ∀ u w, stm (stm X 33 8 u) n 17 w 27 10 = tvl B z k := fun u w => by rw [stm_neq (by omega), stm_neq (by omega)]; exact e270
    by_cases h3 : tkd B z k = 3
    · rw [if_neg (show ¬ tkd B z k = 4 by omega), if_pos h3] at eu
      rw [if_pos h3, ok33, h8]
      by_cases h30 : G 0 8 = 30
      · rw [if_pos h30, ok33]
        exact bad 2 (by rw [eu, if_pos (Or.inl h30)])
      · rw [if_neg h30, ok33, hP, okN hN, e17]
        by_cases h90 : G 0 4 = 90
        · rw [if_pos h90, ok33]
          exact bad 2 (by rw [eu, if_pos (Or.inr h90)])
        · have hno : ¬ (G 0 8 = 30 ∨ G 0 4 = 90) := by omega
          rw [if_neg hno] at eu
          rw [if_neg h90, if_pos rfl, ok33, ok33, ok33, okN hN, okN hN, if_pos rfl, ok33, ok27, e8u, if_neg (by omega), ok33, iadd_of (x := G 0 8) (by omega) (by omega), e4u, iadd_of (x := G 0 4) (by omega) (by omega)]
          obtain ⟨v1, v2, v3, v4, v5, v6, v7⟩ := u1 hno
          refine c_startHere (d := d + 2) hc hP hN v2 v1 v3 ?_
          have es : stH (unG G) (tvl B z k) = stH G (tvl B z k) := rfl
          rw [es]
          by_cases hs : stH G (tvl B z k) < 0
          · have hs1 : stH G (tvl B z k) = -1 := by
              have hb2 : stH G (tvl B z k) = -1 ∨ (0 ≤ stH G (tvl B z k) ∧ _) := fnd_b (G 0 1).toNat 0 (Int.le_refl _)
              rcases hb2 with q | q
              · exact q
              · omega
            rw [if_pos hs] at eu
            rw [if_pos hs1, ok33]
            refine c_fail (d := d + 2) hc v2 fun _ => ?_
            exact hq _ 0 (by rw [eu]; exact CRS_fl) (CPF_fl v4)
          · have hb2 : stH G (tvl B z k) = -1 ∨ (0 ≤ stH G (tvl B z k) ∧ stH G (tvl B z k) < 0 + ((G 0 1).toNat : Int) ∧ _) := fnd_b (G 0 1).toNat 0 (Int.le_refl _)
            rw [if_neg hs] at eu
            rw [if_neg (by omega), ok33, hP, okN hN, iadd_of (x := 10000) (by omega) (by omega)]
            exact leaf _ (by omega) hno eu
    · rw [if_neg h3, ok33, ok27]
      by_cases h4 : tkd B z k = 4
      · have nb := tok_num h4
        rw [if_pos h4] at eu
        rw [if_pos h4, ok33, h8]
        by_cases h30 : G 0 8 = 30
        · rw [if_pos h30, ok33]
          exact bad 2 (by rw [eu, if_pos (Or.inl h30)])
        · rw [if_neg h30, ok33, hP, okN hN, e17]
          by_cases h90 : G 0 4 = 90
          · rw [if_pos h90, ok33]
            exact bad 2 (by rw [eu, if_pos (Or.inr h90)])
          · have hno : ¬ (G 0 8 = 30 ∨ G 0 4 = 90) := by omega
            rw [if_neg hno] at eu
            rw [if_neg h90, if_pos rfl, ok33, ok33, ok33, okN hN, okN hN, if_pos rfl, ok33, ok27, e8u, if_pos h4, ok33, ok33, ok27, okN hN, e0u, w32_of (x := tvl B z k) (by omega) (by omega), iadd_of (x := G 0 8) (by omega) (by omega), e4u, iadd_of (x := G 0 4) (by omega) (by omega)]
            exact leaf _ (by omega) hno eu
      · rw [if_neg h4, if_neg h3] at eu
        rw [if_neg h4, ok33, h8]
        by_cases h30 : G 0 8 = 30
        · rw [if_pos h30, ok33]
          exact bad 2 eu
        · rw [if_neg h30, ok33, hP, okN hN, e17]
          by_cases h90 : G 0 4 = 90
          · rw [if_pos h90, ok33]
            exact bad 2 eu
          · rw [if_neg h90, ok33]
            exact bad 2 eu
theorem c_formula (hc : RC R) (hP : R 33 5 = n) (hN : NR R n) (n1 : n = 1 ∨ n = 14) : ∀ (nf D : Nat) (l dep : Int) (k : Nat) (G : NTW) (X : MEM) (Q : RES), 2 * nf + 3 ≤ D → 0 ≤ l → l ≤ 5 → 0 ≤ dep → dep ≤ 7 → 6 * (7 - dep) + (6 - l) ≤ (nf : Int) → CPF X B z n K k G → (∀ X' v, CRS B z n K (fmP B z nf l dep k G) v X' → FPC n X X' → Q v SHX R X') → Mw D 41 [vr 33, vi l, vi dep] SHX R X 0 0 Q
  | 0, D, l, dep, k, G, X, Q, hD, l0, l5, d0, d7, hm, hS, hq => by omega
  | nf + 1, D, l, dep, k, G, X, Q, hD, l0, l5, d0, d7, hm, hS, hq => by
    obtain ⟨d, rfl⟩ : ∃ d, D = d + 5 := ⟨D - 5, by omega⟩
    have IH := c_formula hc hP hN n1 nf
    have eu : fmP B z (nf + 1) l dep k G = if 5 ≤ l then unP B z (fmP B z nf 0 (dep + 1)) dep k G else if l = 2 ∧ (tkd B z k = 2 ∧ tvl B z k = 17) then (if 6 < dep then flt B z k 2 else bnd (fmP B z nf 2 (dep + 1) (k + 1) G) fun k1 G1 => .inr (k1, emG G1 20017)) else bnd (fmP B z nf (l + 1) dep k G) fun k1 G1 => lpP B z (fmP B z nf (l + 1) dep) l (if l = 2 then 1 else 1600) k1 G1 := rfl
    have hS0 := hS
    obtain ⟨hT, hk, hG, h8, hB, hu, h7⟩ := hS
    have hK16 := hT.1.2.1
    have hS3 := hB.2.1.2
    -- the loop over operators of one level
    have loop : l < 5 → ∀ (mm m : Nat), (mm = 1 ∨ mm = 1600) → ∀ (i : Nat), i + m = mm → ∀ (k1 : Nat) (G1 : NTW) (Y : MEM), CPF Y B z n K k1 G1 → FPC n X Y → lpP B z (fmP B z nf (l + 1) dep) l m k1 G1 = fmP B z (nf + 1) l dep k G → Go (d + 5) 41 Q 37 [vr 33, vi l, vi dep, vi (mm : Int), vi (i : Int), vn] [] SHX R Y 0 0 := by
      intro hl5 mm m hmm
      induction m with
      | zero =>
        intro i hi k1 G1 Y hY fY he
        refine b_X5_formula_37 ?_
        rw [if_neg (by omega)]
        have he : (Sum.inr (k1, G1) : RSP) = _ := he
        exact hq Y 1 (by rw [← he]; exact ⟨rfl, hY⟩) fY
      | succ m ihm =>
        intro i hi k1 G1 Y hY fY he
        obtain ⟨w1, w2, w3, w4, w5, w6, w7⟩ := hY
        have el : lpP B z (fmP B z nf (l + 1) dep) l (m + 1) k1 G1 = if opB l (tkd B z k1) (tvl B z k1) = true then bnd (fmP B z nf (l + 1) dep (k1 + 1) G1) fun k2 G2 => lpP B z (fmP B z nf (l + 1) dep) l m k2 (emG G2 (20000 + tvl B z k1)) else .inr (k1, G1) := rfl
        refine b_X5_formula_37 ?_
        rw [if_pos (by omega), ok33]
        refine c_isOperator (d := d + 3) hc w1 (by omega) (fun ho _ => ?_) fun ho _ => ?_
        · rw [if_pos ho] at el
          obtain ⟨o1, o2, o3, o4⟩ := opB_code ho
          have hlt := CT_lt w1 w2 o1
          have vb : -20000 ≤ tvl B z k1 ∧ tvl B z k1 ≤ 10000 := by unfold cdX at o2; omega
          have ev : w32 (Y 27 10) = tvl B z k1 := by rw [w1.2.2.2.2]; exact w32_of (by omega) (by omega)
          rw [if_neg (by decide), ok33, rc33_2 hc, ok27, ok33, ok27]
          refine c_step (d := d + 4) hc w1 fun Y2 hT2 hF2 => ?_
          rw [ok33, iadd_of (x := l) (by omega) (by omega)]
          refine IH (d + 4) (l + 1) dep (k1 + 1) G1 Y2 _ (by omega) (by omega) (by omega) d0 d7 (by omega) (CPF_st n1 hT2 hlt hF2 w3 w4 w5 w6 (by omega)) fun Y3 v hr hF3 hv => ?_
          have fr3 : FPC n X Y3 := FPC_tr fY (FPC_tr (FPC_FT hF2) hF3)
          cases hf : fmP B z nf (l + 1) dep (k1 + 1) G1 with
          | inl e =>
            rw [hf] at hr el
            obtain ⟨q1, q2, q3⟩ := hr
            subst q1
            rw [if_pos rfl]
            have el' : lpP B z (fmP B z nf (l + 1) dep) l (m + 1) k1 G1 = .inl e := el
            exact hq Y3 0 (by rw [← he, el']; exact ⟨rfl, q2, q3⟩) fr3
          | inr s =>
            rw [hf] at hr el
            obtain ⟨q1, q2⟩ := hr
            subst q1
            have el' : lpP B z (fmP B z nf (l + 1) dep) l (m + 1) k1 G1 = lpP B z (fmP B z nf (l + 1) dep) l m s.1 (emG s.2 (20000 + tvl B z k1)) := el
            have hgr := GR_fm nf (l + 1) dep (k1 + 1) G1 s.1 s.2 w5.2.1.2 hf
            obtain ⟨t1, t2, t3, t4, t5, t6, t7⟩ := q2
            have gc := hgr.2.1
            rw [if_neg (by decide), ok33, hP, okN hN, ev, iadd_of (x := 20000) (by omega) (by omega), iadd_of (x := (i : Int)) (by omega) (by omega), show (i : Int) + 1 = ((i + 1 : Nat) : Int) by omega]
            refine c_emit (d := d + 4) hN t3 t5.2.2.2.2 (by omega) ?_
            refine ihm (i + 1) (by omega) s.1 (emG s.2 (20000 + tvl B z k1)) _ ⟨CT_in (CT_in t1 (by omega) (by omega)) (by omega) (by omega), t2, CNG_em t3 n1, ?_, BG_em t5, ?_, ?_⟩ (FPC_tr fr3 (FPC_tr (FPC_in (Or.inr rfl) n1) (FPC_in (Or.inl rfl) n1))) (by rw [← el']; exact he)
            · rw [stm_neq (by omega), stm_neq (by omega), t4, emG_ne (by omega) (by omega)]
            · rw [emG_ne (by omega) (by omega)]; exact t6
            · rw [emG_7]; omega
        · rw [if_neg ho] at el
          rw [if_pos rfl]
          exact hq Y 1 (by rw [← he, el]; exact ⟨rfl, w1, w2, w3, w4, w5, w6, w7⟩) fY
    have operand : ¬ 5 ≤ l → ¬ (l = 2 ∧ (tkd B z k = 2 ∧ tvl B z k = 17)) → Cd (d + 5) 41 [vr 33, vi (l + 1), vi dep] SHX R X 0 0 (fun (x1 : Int) (sh1 : SHP) (R1 M1 : MEM) => (x1 = 0 ∨ x1 = 1) → (if x1 = 0 then Q 0 sh1 R1 M1 else (if l = 2 then Go (d + 5) 41 Q 37 [vr 33, vi l, vi dep, vi 1, vi 0, vn] [] sh1 R1 M1 0 0 else Go (d + 5) 41 Q 37 [vr 33, vi l, vi dep, vi 1600, vi 0, vn] [] sh1 R1 M1 0 0))) := fun hl5 hno => by
      rw [if_neg hl5, if_neg hno] at eu
      refine IH (d + 4) (l + 1) dep k G X _ (by omega) (by omega) (by omega) d0 d7 (by omega) hS0 fun X3 v hr hF3 hv => ?_
      cases hf : fmP B z nf (l + 1) dep k G with
      | inl e =>
        rw [hf] at hr eu
        obtain ⟨q1, q2, q3⟩ := hr
        subst q1
        rw [if_pos rfl]
        have eu' : fmP B z (nf + 1) l dep k G = .inl e := eu
        exact hq X3 0 (by rw [eu']; exact ⟨rfl, q2, q3⟩) hF3
      | inr s =>
        rw [hf] at hr eu
        obtain ⟨q1, q2⟩ := hr
        subst q1
        have eu' : fmP B z (nf + 1) l dep k G = lpP B z (fmP B z nf (l + 1) dep) l (if l = 2 then 1 else 1600) s.1 s.2 := eu
        rw [if_neg (by decide)]
        by_cases l2 : l = 2
        · rw [if_pos l2] at eu' ⊢
          exact loop (by omega) 1 1 (Or.inl rfl) 0 rfl s.1 s.2 X3 q2 hF3 eu'.symm
        · rw [if_neg l2] at eu' ⊢
          exact loop (by omega) 1600 1600 (Or.inr rfl) 0 rfl s.1 s.2 X3 q2 hF3 eu'.symm
    refine Mw_of mok41 rfl fun _ _ => b_X5_formula_0 ?_
    by_cases h5 : 5 ≤ l
    · rw [if_pos h5] at eu
      rw [if_neg (by omega), ok33]
      refine c_unit (d := d + 1) (f := fmP B z nf 0 (dep + 1)) hc hP hN n1 (fun h6 k' G' X' Q' hS' hq' => ?_) ⟨d0, d7⟩ hS0 fun X' v hr hF hv => ?_
      · exact IH (d + 3) 0 (dep + 1) k' G' X' Q' (by omega) (by omega) (by omega) (by omega) (by omega) (by omega) hS' hq'
      · rw [← eu] at hr
        have := hq X' v hr hF
        rcases hv with rfl | rfl
        · exact this
        · exact this
    · rw [if_pos (by omega), iadd_of (x := l) (by omega) (by omega)]
      by_cases l2 : l = 2
      · rw [if_pos l2, ok33, rc33_2 hc, ok27]
        refine c_isKeyword (d := d + 4) hT (fun h _ => ?_) fun h _ => ?_
        · rw [if_neg (by decide), ok33]
          rw [if_neg h5, if_pos ⟨l2, h⟩] at eu
          refine Mw_of mok42 rfl fun _ _ => b_X5_negated_0 ?_
          by_cases h6 : 6 < dep
          · rw [if_pos h6] at eu ⊢
            rw [ok33]
            refine c_fail (d := d + 3) hc hT fun _ => ?_
            exact fun _ => hq _ 0 (by rw [eu]; exact CRS_fl) FPC_fl
          · rw [if_neg h6] at eu ⊢
            have hlt := CT_lt hT hk (by omega)
            rw [ok33, rc33_2 hc, ok27]
            refine c_step (d := d + 3) hc hT fun X2 hT2 hF2 => ?_
            rw [ok33, iadd_of (x := dep) (by omega) (by omega)]
            refine IH (d + 3) 2 (dep + 1) (k + 1) G X2 _ (by omega) (by decide) (by decide) (by omega) (by omega) (by omega) (CPF_st n1 hT2 hlt hF2 hG h8 hB hu (by omega)) fun X3 v hr hF3 hv => ?_
            have fr3 : FPC n X X3 := FPC_tr (FPC_FT hF2) hF3
            cases hf : fmP B z nf 2 (dep + 1) (k + 1) G with
            | inl e =>
              rw [hf] at hr eu
              obtain ⟨q1, q2, q3⟩ := hr
              subst q1
              have eu' : fmP B z (nf + 1) l dep k G = .inl e := eu
              rw [if_pos rfl]
              exact fun _ => hq X3 0 (by rw [eu']; exact ⟨rfl, q2, q3⟩) fr3
            | inr s =>
              rw [hf] at hr eu
              obtain ⟨q1, q2⟩ := hr
              subst q1
              have eu' : fmP B z (nf + 1) l dep k G = .inr (s.1, emG s.2 20017) := eu
              have hgr := GR_fm nf 2 (dep + 1) (k + 1) G s.1 s.2 hS3 hf
              have gc := hgr.2.1
              obtain ⟨t1, t2, t3, t4, t5, t6, t7⟩ := q2
              rw [if_neg (by decide), ok33, hP, okN hN]
              refine c_emit (d := d + 3) hN t3 t5.2.2.2.2 (by omega) ?_
              refine fun _ => hq _ 1 ?_ (FPC_tr fr3 (FPC_tr (FPC_in (Or.inr rfl) n1) (FPC_in (Or.inl rfl) n1)))
              rw [eu']
              refine ⟨rfl, CT_in (CT_in t1 (by omega) (by omega)) (by omega) (by omega), t2, CNG_em t3 n1, ?_, BG_em t5, ?_, ?_⟩
              · show _ = emG s.2 20017 0 8
                rw [stm_neq (by omega), stm_neq (by omega), t4, emG_ne (by omega) (by omega)]
              · show 0 ≤ emG s.2 20017 0 8 ∧ emG s.2 20017 0 8 ≤ 30
                rw [emG_ne (by omega) (by omega)]; exact t6
              · show emG s.2 20017 0 7 ≤ (s.1 : Int)
                rw [emG_7]; omega
        · rw [if_pos rfl, ok33]
          exact operand h5 fun q => h q.2
      · rw [if_neg l2, ok33]
        exact operand h5 fun q => l2 q.1
end
