/-! THE PARSER, the reference: a unit -/
def SRL (B : Int → Int) (z : Int) (Y : MEM) (r : Int) (k : Nat) (S : SKK) (w : Int) (G : NTW) : Prop := MSt B z (.inr k) Y ∧ MNG Y r G ∧ Y 364 39 = w ∧ Y 364 40 = (S.length : Int) ∧ Y 364 41 = G 0 8 ∧ SM Y S
section
variable {d : Nat} {R X Y : MEM} {B : Int → Int} {z r v w x a b c f n v2 v3 v4 v5 v6 : Int} {k : Nat} {s : SNK} {S : SKK} {G : NTW} {Φ : RSP → Prop} {P : PST} {Q : RES}
theorem stm_put {M : MEM} {q i x : Int} (h : M q i = x) : stm M q i x = M := by rw [← h]; exact stm_self
theorem stH_un : stH (unG G) x = stH G x := by
  unfold stH
  have e : ∀ i j, i ≠ 0 → unG G i j = G i j := fun i j h => unG_ne (by omega) (by omega)
  rw [show unG G 0 1 = G 0 1 from unG_ne (by decide) (by decide)]
  exact fnd_congr _ _ fun j _ _ => by rw [e 5 _ (by decide), e 10 _ (by decide)]
theorem GF_same {G' : NTW} (h : GF G) (e0 : G' 0 0 = G 0 0) (e1 : G' 0 1 = G 0 1) (e5 : G' 5 = G 5) (e10 : G' 10 = G 10) : GF G' := by
  unfold GF at h ⊢
  rw [e0, e1, e5, e10]
  exact h
theorem GF_un (h : GF G) : GF (unG G) := GF_same h (unG_ne (by decide) (by decide)) (unG_ne (by decide) (by decide)) (funext fun j => unG_ne (by omega) (by omega)) (funext fun j => unG_ne (by omega) (by omega))
theorem GF_em (h : GF G) : GF (emG G x) := GF_same h (emG_ne (by decide) (by omega)) (emG_ne (by decide) (by omega)) (funext fun j => emG_ne (by omega) (by omega)) (funext fun j => emG_ne (by omega) (by omega))
theorem SM_7 (h : SM X S) (f : FM7 X Y) : SM Y S := SM_of S h fun i _ _ => by rw [f.1 389 (by decide), f.1 390 (by decide)]; exact ⟨rfl, rfl⟩
theorem SRL_go {k' : Nat} (h : SRL B z X r k S w G) (f : FM7 X Y) (g : MSt B z (.inr k') Y) : SRL B z Y r k' S w G := ⟨g, MNG_7 h.2.1 f, by rw [f.2 39 (by omega)]; exact h.2.2.1, by rw [f.2 40 (by omega)]; exact h.2.2.2.1, by rw [f.2 41 (by omega)]; exact h.2.2.2.2.1, SM_7 h.2.2.2.2.2 f⟩
theorem SIV_7 {b : Bool} (h : SIV B z b k S w G) (hz : z ≤ 1600) (hT : 0 ≤ z) : 0 ≤ G 0 7 ∧ G 0 7 < 599 := by
  obtain ⟨_, _, _, ⟨hU, _, h7⟩, hP⟩ := h
  unfold POT at hP
  have := pnd_0 S
  have := (tok_rng (B := B) hT k).2.1
  split at hP <;> split at hP <;> omega
/-- a fault: the rest of the method does nothing -/
theorem u_81b {e : Int × Int} (hS : MSt B z (.inl e) Y) (hq : Q 1 SHX R Y) : Go (d + 1) 186 Q 94 [vr 364, vn, vi v2, vi v3, vi v4, vn, vn] [] SHX R Y 0 0 := by
  refine b2_X12_unit_94 ?_
  rw [ok364]
  refine r_isGood (d := d) hS (fun e he => ?_) fun k he => nomatch he
  rw [if_pos rfl]
  exact fun _ => hq
theorem u_79 (hS : MSt B z (.inr k) Y) (hq : ∀ Y', MSt B z (.inl (ftE B z k 2)) Y' → FM7 Y Y' → Q 1 SHX R Y') : Go (d + 2) 186 Q 79 [vr 364, vn, vi v2, vi v3, vi v4, vn, vn] [] SHX R Y 0 0 := by
  refine b2_X12_unit_79 ?_
  rw [ok364]
  refine r_misplaced (d := d) hS fun Y' h f => ?_
  refine b2_X12_unit_81 ?_
  rw [ok364]
  refine r_isGood (d := d + 1) h (fun e he => ?_) fun k he => nomatch he
  rw [if_pos rfl]
  exact fun _ => u_81b (d := d + 1) h (hq Y' h f)
/-- counted; what it is -/
theorem u_94 (hR : RM R) (hr : r = 0 ∨ r = 1) (hF : GF G) (hV : GV G) (hL : SRL B z Y r k S w G) (h2 : v2 = 0 ∨ v2 = 1) (h4 : v4 = 0 ∨ (v4 = 1 ∧ tkd B z k = 3)) (hn : ∀ Y2 v6, SRL B z Y2 r k S w (if v2 = 1 then G else unG G) → FPB r Y Y2 → (v4 = 1 → v6 = stH G (tvl B z k)) → (v4 = 0 → tkd B z k = 4 → v6 = tvl B z k) → Go (d + 3) 186 Q 130 [vr 364, vn, vi v2, vi v3, vi v4, vn, vi v6] [] SHX R Y2 0 0) : Go (d + 3) 186 Q 94 [vr 364, vn, vi v2, vi v3, vi v4, vn, vn] [] SHX R Y 0 0 := by
  have hL' := hL
  obtain ⟨hS, hG, h39, h40, h41, hM⟩ := hL'
  have hG' := hG
  obtain ⟨⟨g37, _, _, _, _, g4, _⟩, _⟩ := hG'
  refine b2_X12_unit_94 ?_
  rw [ok364]
  refine r_isGood (d := d + 2) hS (fun e he => nomatch he) fun k' _ => ?_
  rw [if_neg (by decide), ok364, ok364, g37, fr15 hR, ak371, g4, ak371, ak371]
  intro _
  refine ⟨by omega, by omega, ?_⟩
  -- from 122 on
  have fin : ∀ Y2, SRL B z Y2 r k S w (if v2 = 1 then G else unG G) → FPB r Y Y2 → Go (d + 3) 186 Q 122 [vr 364, vn, vi v2, vi v3, vi v4, vn, vn] [] SHX R Y2 0 0 := fun Y2 hL2 f2 => by
    refine b2_X12_unit_122 ?_
    rcases h4 with rfl | ⟨rfl, h3⟩
    · rw [if_pos rfl, ok364]
      refine hn Y2 _ hL2 f2 (fun q => absurd q (by decide)) fun _ q => ?_
      obtain ⟨⟨_, _, _, _, hM2⟩, _⟩ := hL2
      exact hM2.2.2.2.2 q
    · rw [if_neg (by decide), ok364]
      have eF : GF (if v2 = 1 then G else unG G) := by
        split
        · exact hF
        · exact GF_un hF
      refine r_startHere (d := d) hR hr hL2.1 hL2.2.1 eF h3 ?_
      refine hn Y2 _ hL2 f2 (fun _ => ?_) fun q => absurd q (by decide)
      split
      · rfl
      · exact stH_un
  rcases h2 with rfl | rfl
  · rw [if_pos rfl, iadd_of (by have := hV.1; omega) (by have := hV.1; omega)]
    refine ⟨by omega, by omega, ?_⟩
    refine b2_X12_unit_112 ?_
    rw [ok364, if_pos rfl, ok364, stm_neq (by omega), h41, iadd_of (by have := hV.2.1; omega) (by have := hV.2.1; omega)]
    refine fin _ ?_ (FPB_st (FPB_st FPB_self (Or.inr (Or.inr (Or.inr (Or.inr (Or.inl ⟨Or.inl (by decide), rfl⟩)))))) (Or.inl ⟨rfl, Or.inr (by decide)⟩))
    rw [if_neg (by decide)]
    refine ⟨MSt_of hS (fun j _ _ => by simp (disch := omega) only [stm_neq]) (by simp (disch := omega) only [stm_ne]), MNG_un hG _, ?_, ?_, ?_, SM_of S hM fun i _ _ => ⟨?_, ?_⟩⟩
    · simp (disch := omega) only [stm_neq]; exact h39
    · simp (disch := omega) only [stm_neq]; exact h40
    · rw [stm_hit, unG_8]
    · simp (disch := omega) only [stm_neq]
    · simp (disch := omega) only [stm_neq]
  · rw [if_neg (by decide), iadd_of (by have := hV.1; omega) (by have := hV.1; omega), stm_put (by rw [g4]; omega)]
    refine ⟨by omega, by omega, ?_⟩
    refine b2_X12_unit_112 ?_
    rw [ok364, if_neg (by decide), ok364, h41, iadd_of (by have := hV.2.1; omega) (by have := hV.2.1; omega), stm_put (by rw [h41]; omega)]
    refine fin Y ?_ FPB_self
    rw [if_pos rfl]; exact hL
/-- on the stack -/
theorem u_push (hR : RM R) (hL : SRL B z Y r k S w G) (hl : (S.length : Int) < 90) (hw : 0 ≤ w ∧ w < 8) (hq : ∀ Y', SRL B z Y' r k ((c, 20017) :: S) (w + 1) G → FPB r Y Y' → Q 1 SHX R Y') : Cd (d + 1) 183 [vr 364, vi c, vi 126] SHX R Y 0 0 (fun (_ : Int) (sh1 : SHP) (R1 M1 : MEM) => ook sh1 12 364 (ook sh1 12 364 (Q 1 sh1 R1 (stm M1 364 39 (iadd (M1 364 39) 1))))) := by
  obtain ⟨hS, hG, h39, h40, h41, hM⟩ := hL
  refine r_push (d := d) (x := 20017) hR h40 hl hM (fun Y' hM' h40' hU hj => ?_) (by decide)
  rw [ok364, ok364, hj 39 (by decide), h39, iadd_of (by omega) (by omega)]
  have el : (((c, 20017) :: S : SKK).length : Int) = (S.length : Int) + 1 := by rw [List.length_cons]; omega
  refine hq _ ⟨MSt_of (MSt_U hS hU) (fun j _ _ => by simp (disch := omega) only [stm_neq]) (by simp (disch := omega) only [stm_ne]), MNG_of (MNG_U hG hU) (fun q _ _ => by simp (disch := omega) only [stm_ne]) (by simp (disch := omega) only [stm_neq]) (by simp (disch := omega) only [stm_neq]), stm_hit _ _ _ _, ?_, ?_, SM_of _ hM' fun i _ _ => ⟨?_, ?_⟩⟩ (FPB_st (FPB_U hU) (Or.inl ⟨rfl, Or.inr (by decide)⟩))
  · rw [el, stm_neq (by omega)]; exact h40'
  · rw [stm_neq (by omega), hj 41 (by decide)]; exact h41
  · simp (disch := omega) only [stm_neq]
  · simp (disch := omega) only [stm_neq]
theorem SRL_em {Y' : MEM} (hL : SRL B z Y r k S w G) (hG : MNG Y' r (emG G x)) (hE : FME r Y Y') : SRL B z Y' r k S w (emG G x) := by
  obtain ⟨hS, _, h39, h40, h41, hM⟩ := hL
  refine ⟨MSt_E hS hE, hG, by rw [hE.1 39 (by decide)]; exact h39, by rw [hE.1 40 (by decide)]; exact h40, ?_, SM_E hM hE⟩
  rw [hE.1 41 (by decide), emG_ne (by decide) (by omega)]; exact h41
theorem u_130 (hR : RM R) (hr : r = 0 ∨ r = 1) (hF : GF G) (h7 : 0 ≤ G 0 7 ∧ G 0 7 < 599) (hl : (S.length : Int) ≤ 56) (hw0 : 0 ≤ w) (b2 : v2 = 0 ∨ v2 = 1) (b3 : v3 = 0 ∨ v3 = 1) (b4 : v4 = 0 ∨ v4 = 1) (hPt : ∀ k S w G Y', P true k S w G → SRL B z Y' r k S w G → FPB r Y Y' → Q 1 SHX R Y') (hPf : ∀ k S w G Y', P false k S w G → SRL B z Y' r k S w G → FPB r Y Y' → Q 0 SHX R Y') {Y2 : MEM} (k0 : tkd B z k ≠ 0) (hst : v4 = 1 → 0 ≤ stH G (tvl B z k)) (hL2 : SRL B z Y2 r k S w (if v2 = 1 then G else unG G)) (f2 : FPB r Y Y2) (q4 : v4 = 1 → v6 = stH G (tvl B z k)) (q0 : v4 = 0 → tkd B z k = 4 → v6 = tvl B z k) (c1 : v2 = 1 → P true (k + 1) ((3, 20017) :: S) (w + 1) G ∧ w < 7) (c2 : v2 = 0 → v3 = 1 → P true (k + 1) ((7, 20017) :: S) (w + 1) (unG G) ∧ w < 7) (c3 : v2 = 0 → v3 = 0 → v4 = 0 → tkd B z k = 4 ∧ P false (k + 1) S w (emG (unG G) (tvl B z k))) (c4 : v2 = 0 → v3 = 0 → v4 = 1 → P false (k + 1) S w (emG (unG G) (10000 + stH G (tvl B z k)))) : Go (d + 3) 186 Q 130 [vr 364, vn, vi v2, vi v3, vi v4, vn, vi v6] [] SHX R Y2 0 0 := by
  refine b2_X12_unit_130 ?_
  rw [ok364]
  refine r_goOn (d := d + 1) hR hL2.1 k0 fun Y3 hS3 f3 => ?_
  have hL3 := SRL_go hL2 f3 hS3
  have fb3 : FPB r Y Y3 := FPB_tr f2 (FPB_7 f3)
  have u7 : unG G 0 7 = G 0 7 := unG_ne (by decide) (by decide)
  have u1 : unG G 0 1 = G 0 1 := unG_ne (by decide) (by decide)
  rcases b2 with rfl | rfl
  · rw [if_neg (by decide)] at hL3
    rw [if_pos rfl]
    rcases b3 with rfl | rfl
    · rw [if_pos rfl]
      rcases b4 with rfl | rfl
      · rw [if_pos rfl, ok364]
        obtain ⟨k4, hp⟩ := c3 rfl rfl rfl
        rw [q0 rfl k4]
        have tn := tok_num k4
        exact r_emit (d := d + 2) (x := tvl B z k) hR hr hL3.2.1 (by rw [u7]; omega) (Or.inl ⟨rfl, rfl, tn.1, tn.2⟩) fun Y4 g4 f4 => hPf _ _ _ _ Y4 hp (SRL_em hL3 g4 f4) (FPB_tr fb3 f4.2.2)
      · rw [if_neg (by decide), ok364, q4 rfl]
        have hp := c4 rfl rfl rfl
        have h0 := hst rfl
        have sb := fnd_b (f := fun s => G 10 (G 5 s)) (x := tvl B z k) (G 0 1).toNat 0 (Int.le_refl _)
        have sb' : stH G (tvl B z k) < G 0 1 := by
          have e : stH G (tvl B z k) = fnd (fun s => G 10 (G 5 s)) (tvl B z k) (G 0 1).toNat 0 := rfl
          have := hF.2.1
          omega
        exact r_emit (d := d + 2) (x := 10000 + stH G (tvl B z k)) hR hr hL3.2.1 (by rw [u7]; omega) (Or.inr (Or.inl ⟨rfl, rfl, h0, by rw [u1]; exact sb'⟩)) fun Y4 g4 f4 => hPf _ _ _ _ Y4 hp (SRL_em hL3 g4 f4) (FPB_tr fb3 f4.2.2)
    · rw [if_neg (by decide), if_pos rfl, ok364]
      obtain ⟨hp, hw⟩ := c2 rfl rfl
      exact u_push (d := d + 2) hR hL3 (by omega) (by omega) fun Y4 g4 f4 => hPt _ _ _ _ Y4 hp g4 (FPB_tr fb3 f4)
  · rw [if_pos rfl] at hL3
    obtain ⟨hp, hw⟩ := c1 rfl
    rw [if_neg (by decide), if_neg (by decide), ok364]
    exact u_push (d := d + 2) hR hL3 (by omega) (by omega) fun Y4 g4 f4 => hPt _ _ _ _ Y4 hp g4 (FPB_tr fb3 f4)
theorem u_81 (hR : RM R) (hr : r = 0 ∨ r = 1) (hF : GF G) (hV : GV G) (h7 : 0 ≤ G 0 7 ∧ G 0 7 < 599) (hl : (S.length : Int) ≤ 56) (hw0 : 0 ≤ w) (hL : SRL B z Y r k S w G) (hΦ : ∀ e Y', Φ (.inl e) → MSt B z (.inl e) Y' → FPB r Y Y' → Q 1 SHX R Y') (hPt : ∀ k S w G Y', P true k S w G → SRL B z Y' r k S w G → FPB r Y Y' → Q 1 SHX R Y') (hPf : ∀ k S w G Y', P false k S w G → SRL B z Y' r k S w G → FPB r Y Y' → Q 0 SHX R Y') (b2 : v2 = 0 ∨ v2 = 1) (b3 : v3 = 0 ∨ v3 = 1) (b4 : v4 = 0 ∨ v4 = 1) (i4 : v4 = 1 → tkd B z k = 3) (k0 : tkd B z k ≠ 0) (h5 : v4 = 1 → stH G (tvl B z k) < 0 → Φ (flt B z k 5)) (c1 : v2 = 1 → P true (k + 1) ((3, 20017) :: S) (w + 1) G ∧ w < 7) (c2 : v2 = 0 → v3 = 1 → P true (k + 1) ((7, 20017) :: S) (w + 1) (unG G) ∧ w < 7) (c3 : v2 = 0 → v3 = 0 → v4 = 0 → tkd B z k = 4 ∧ P false (k + 1) S w (emG (unG G) (tvl B z k))) (c4 : v2 = 0 → v3 = 0 → v4 = 1 → 0 ≤ stH G (tvl B z k) → P false (k + 1) S w (emG (unG G) (10000 + stH G (tvl B z k)))) : Go (d + 3) 186 Q 81 [vr 364, vn, vi v2, vi v3, vi v4, vn, vn] [] SHX R Y 0 0 := by
  have hS := hL.1
  refine b2_X12_unit_81 ?_
  rw [ok364]
  refine r_isGood (d := d + 2) hS (fun e he => nomatch he) fun k' _ => ?_
  rw [if_neg (by decide)]
  intro _
  rcases b4 with rfl | rfl
  · rw [if_pos rfl]
    exact u_94 hR hr hF hV hL b2 (Or.inl rfl) fun Y2 v6 g1 g2 g3 g4 => u_130 hR hr hF h7 hl hw0 b2 b3 (Or.inl rfl) hPt hPf k0 (fun q => absurd q (by decide)) g1 g2 g3 g4 c1 c2 c3 fun _ _ q => absurd q (by decide)
  · rw [if_neg (by decide), ok364]
    have k3 := i4 rfl
    refine r_startHere (d := d) hR hr hS hL.2.1 hF k3 ?_
    by_cases h0 : stH G (tvl B z k) < 0
    · rw [if_pos h0, ok364, ok364]
      have m6 : Y 364 6 = tpl B z k := hS.2.2.2.2.2.1
      rw [m6]
      have e5 : flt B z k 5 = .inl (5, tpl B z k) := by rw [flt_E]; unfold ftE; rw [if_neg (by omega)]
      have h5' := h5 rfl h0
      rw [e5] at h5'
      exact r_fails (d := d + 2) hS (by decide) fun Y' g f => u_81b (d := d + 2) g (hΦ _ Y' h5' g (FPB_7 f))
    · rw [if_neg h0]
      exact u_94 hR hr hF hV hL b2 (Or.inr ⟨rfl, k3⟩) fun Y2 v6 g1 g2 g3 g4 => u_130 hR hr hF h7 hl hw0 b2 b3 (Or.inr rfl) hPt hPf k0 (fun _ => by omega) g1 g2 g3 g4 c1 c2 c3 fun a1 a2 a3 => c4 a1 a2 a3 (by omega)
theorem u_59 (hS : MSt B z (.inr k) Y) (h39 : Y 364 39 = w) (b2 : v2 = 0 ∨ v2 = 1) (b3 : v3 = 0 ∨ v3 = 1) (b4 : v4 = 0 ∨ v4 = 1) (b5 : v5 = 0 ∨ v5 = 1) (hm : (v2 = 0 ∧ ((v4 = 0 ∧ tkd B z k ≠ 4 ∧ v3 = 0) ∨ v5 = 1)) ∨ ((v2 = 1 ∨ v3 = 1) ∧ w = 7) → Go (d + 3) 186 Q 79 [vr 364, vn, vi v2, vi v3, vi v4, vn, vn] [] SHX R Y 0 0) (hn : ¬ ((v2 = 0 ∧ ((v4 = 0 ∧ tkd B z k ≠ 4 ∧ v3 = 0) ∨ v5 = 1)) ∨ ((v2 = 1 ∨ v3 = 1) ∧ w = 7)) → Go (d + 3) 186 Q 81 [vr 364, vn, vi v2, vi v3, vi v4, vn, vn] [] SHX R Y 0 0) : Go (d + 3) 186 Q 59 [vr 364, vn, vi v2, vi v3, vi v4, vi v5, vn] [] SHX R Y 0 0 := by
  have e4 : Y 364 8 = 4 ↔ tkd B z k = 4 := km_is hS (v := 4) (by decide)
  have w75 : (v2 = 1 ∨ v3 = 1) → ¬ (v2 = 0 ∧ ((v4 = 0 ∧ tkd B z k ≠ 4 ∧ v3 = 0) ∨ v5 = 1)) → Go (d + 3) 186 Q 75 [vr 364, vn, vi v2, vi v3, vi v4, vn, vn] [] SHX R Y 0 0 := fun q q2 => by
    refine b2_X12_unit_75 ?_
    rw [ok364, h39]
    by_cases hw : w = 7
    · rw [if_pos hw]; exact hm (Or.inr ⟨q, hw⟩)
    · rw [if_neg hw]; exact hn fun g => g.elim q2 fun g => hw g.2
  have w71 : ¬ (v2 = 0 ∧ ((v4 = 0 ∧ tkd B z k ≠ 4 ∧ v3 = 0) ∨ v5 = 1)) → Go (d + 3) 186 Q 71 [vr 364, vn, vi v2, vi v3, vi v4, vn, vn] [] SHX R Y 0 0 := fun q2 => by
    refine b2_X12_unit_71 ?_
    rcases b2 with h2 | h2
    · rw [if_pos h2]
      rcases b3 with h3 | h3
      · rw [if_pos h3]; exact hn fun g => g.elim q2 fun g => g.1.elim (fun q => by omega) fun q => by omega
      · rw [if_neg (by omega)]; exact w75 (Or.inr h3) q2
    · rw [if_neg (by omega)]; exact w75 (Or.inl h2) q2
  have w69 : v2 = 0 → ¬ (v4 = 0 ∧ tkd B z k ≠ 4 ∧ v3 = 0) → Go (d + 3) 186 Q 69 [vr 364, vn, vi v2, vi v3, vi v4, vi v5, vn] [] SHX R Y 0 0 := fun h2 q2 => by
    refine b2_X12_unit_69 ?_
    rcases b5 with h5 | h5
    · rw [if_pos h5]
      exact w71 fun g => g.2.elim q2 fun g => by omega
    · rw [if_neg (by omega)]; exact hm (Or.inl ⟨h2, Or.inr h5⟩)
  refine b2_X12_unit_59 ?_
  by_cases h2 : v2 = 0
  · rw [if_pos h2]
    by_cases h4 : v4 = 0
    · rw [if_pos h4, ok364]
      by_cases hk4 : tkd B z k = 4
      · rw [if_pos (e4.2 hk4)]; exact w69 h2 fun q => q.2.1 hk4
      · rw [if_neg fun q => hk4 (e4.1 q)]
        by_cases h3 : v3 = 0
        · rw [if_pos h3]; exact hm (Or.inl ⟨h2, Or.inl ⟨h4, hk4, h3⟩⟩)
        · rw [if_neg h3]; exact w69 h2 fun q => h3 q.2.2
    · rw [if_neg h4]; exact w69 h2 fun q => h4 q.1
  · rw [if_neg h2]; exact w71 fun q => h2 q.1
theorem flag0 {v : Int} {p : Prop} (b : v = 0 ∨ v = 1) (i : v = 1 ↔ p) (h : ¬ p) : v = 0 := b.elim id fun q => absurd (i.1 q) h
theorem u_go (hR : RM R) (hr : r = 0 ∨ r = 1) (hI : SIV B z true k S w G) (hL : SRL B z Y r k S w G) (h : srU B z Φ P k S w G) (hΦ : ∀ e Y', Φ (.inl e) → MSt B z (.inl e) Y' → FPB r Y Y' → Q 1 SHX R Y') (hPt : ∀ k S w G Y', P true k S w G → SRL B z Y' r k S w G → FPB r Y Y' → Q 1 SHX R Y') (hPf : ∀ k S w G Y', P false k S w G → SRL B z Y' r k S w G → FPB r Y Y' → Q 0 SHX R Y') (b2 : v2 = 0 ∨ v2 = 1) (b3 : v3 = 0 ∨ v3 = 1) (b4 : v4 = 0 ∨ v4 = 1) (b5 : v5 = 0 ∨ v5 = 1) (i2 : v2 = 1 ↔ (topW S ≤ 3 ∨ 7 ≤ topW S) ∧ tkd B z k = 2 ∧ tvl B z k = 17) (i3 : v3 = 1 ↔ tkd B z k = 5 ∧ tvl B z k = 40) (i4 : v4 = 1 ↔ tkd B z k = 3) (i5 : v5 = 1 ↔ (G 0 8 = 30 ∨ G 0 4 = 90)) : Go (d + 3) 186 Q 59 [vr 364, vn, vi v2, vi v3, vi v4, vi v5, vn] [] SHX R Y 0 0 := by
  have hS := hL.1
  have hz := hS.1.2.1
  have h7 := SIV_7 hI hz.2 hz.1
  obtain ⟨hK, hw7, hF, hV, hP⟩ := hI
  have hl := (STK_l hK hw7).2
  have hw0 := (STK_b S w hK).1.1
  clear hP hK
  have B79 : Φ (flt B z k 2) → Go (d + 3) 186 Q 79 [vr 364, vn, vi v2, vi v3, vi v4, vn, vn] [] SHX R Y 0 0 := fun q => u_79 (d := d + 1) hS fun Y' g f => hΦ _ Y' q g (FPB_7 f)
  have B81 := u_81 (d := d) (v2 := v2) (v3 := v3) (v4 := v4) hR hr hF hV h7 hl hw0 hL hΦ hPt hPf b2 b3 b4 i4.1
  have n01 : ∀ {v : Int}, v = 0 → v = 1 → False := fun a b => absurd (a.symm.trans b) (by decide)
  refine u_59 hS hL.2.2.1 b2 b3 b4 b5 (fun m => B79 ?_) fun m => ?_
  · unfold srU at h
    by_cases q2 : (topW S ≤ 3 ∨ 7 ≤ topW S) ∧ tkd B z k = 2 ∧ tvl B z k = 17
    · rw [if_pos q2] at h
      have h2 := i2.2 q2
      rw [if_pos (m.elim (fun g => (n01 g.1 h2).elim) fun g => g.2)] at h
      exact h
    · rw [if_neg q2] at h
      have h2 := flag0 b2 i2 q2
      by_cases q3 : tkd B z k = 5 ∧ tvl B z k = 40
      · rw [if_pos q3] at h
        have h3 := i3.2 q3
        rw [if_pos (m.elim (fun g => Or.inl (i5.1 (g.2.elim (fun g => (n01 g.2.2 h3).elim) id))) fun g => Or.inr g.2)] at h
        exact h
      · rw [if_neg q3] at h
        have h3 := flag0 b3 i3 q3
        have m' : (v4 = 0 ∧ tkd B z k ≠ 4 ∧ v3 = 0) ∨ v5 = 1 := m.elim (fun g => g.2) fun g => g.1.elim (fun g => (n01 h2 g).elim) fun g => (n01 h3 g).elim
        by_cases q4 : tkd B z k = 4
        · rw [if_pos q4, if_pos (i5.1 (m'.elim (fun g => absurd q4 g.2.1) id))] at h
          exact h
        · rw [if_neg q4] at h
          by_cases q5 : tkd B z k = 3
          · rw [if_pos q5, if_pos (i5.1 (m'.elim (fun g => (n01 g.1 (i4.2 q5)).elim) id))] at h
            exact h
          · rw [if_neg q5] at h
            exact h
  · unfold srU at h
    by_cases q2 : (topW S ≤ 3 ∨ 7 ≤ topW S) ∧ tkd B z k = 2 ∧ tvl B z k = 17
    · rw [if_pos q2] at h
      have h2 := i2.2 q2
      have hw : ¬ w = 7 := fun g => m (Or.inr ⟨Or.inl h2, g⟩)
      rw [if_neg hw] at h
      have k2 := q2.2.1
      exact B81 (by rw [k2]; decide) (fun g => absurd (i4.1 g) (by rw [k2]; decide)) (fun _ => ⟨h, by omega⟩) (fun g => (n01 g h2).elim) (fun g => (n01 g h2).elim) fun g => (n01 g h2).elim
    · rw [if_neg q2] at h
      have h2 := flag0 b2 i2 q2
      have m5 : ¬ v5 = 1 := fun g => m (Or.inl ⟨h2, Or.inr g⟩)
      have nf : ¬ (G 0 8 = 30 ∨ G 0 4 = 90) := fun g => m5 (i5.2 g)
      by_cases q3 : tkd B z k = 5 ∧ tvl B z k = 40
      · rw [if_pos q3] at h
        have h3 := i3.2 q3
        have hw : ¬ w = 7 := fun g => m (Or.inr ⟨Or.inr h3, g⟩)
        rw [if_neg fun g => g.elim nf hw] at h
        have k5 := q3.1
        exact B81 (by rw [k5]; decide) (fun g => absurd (i4.1 g) (by rw [k5]; decide)) (fun g => (n01 h2 g).elim) (fun _ _ => ⟨h, by omega⟩) (fun _ g => (n01 g h3).elim) fun _ g => (n01 g h3).elim
      · rw [if_neg q3] at h
        have h3 := flag0 b3 i3 q3
        by_cases q4 : tkd B z k = 4
        · rw [if_pos q4, if_neg nf] at h
          have h4 : v4 = 0 := flag0 b4 i4 (by rw [q4]; decide)
          exact B81 (by rw [q4]; decide) (fun g => (n01 h4 g).elim) (fun g => (n01 h2 g).elim) (fun _ g => (n01 h3 g).elim) (fun _ _ _ => ⟨q4, h⟩) fun _ _ g => (n01 h4 g).elim
        · rw [if_neg q4] at h
          by_cases q5 : tkd B z k = 3
          · rw [if_pos q5, if_neg nf] at h
            have h4 := i4.2 q5
            refine B81 (by rw [q5]; decide) (fun _ g => ?_) (fun g => (n01 h2 g).elim) (fun _ g => (n01 h3 g).elim) (fun _ _ g => (n01 g h4).elim) fun _ _ _ g => ?_
            · rw [if_pos g] at h; exact h
            · rw [if_neg (by omega)] at h; exact h
          · exact absurd (Or.inl ⟨h2, Or.inl ⟨flag0 b4 i4 q5, q4, h3⟩⟩) m
theorem r_unit (hR : RM R) (hr : r = 0 ∨ r = 1) (hI : SIV B z true k S w G) (hL : SRL B z Y r k S w G) (h : srU B z Φ P k S w G) (hΦ : ∀ e Y', Φ (.inl e) → MSt B z (.inl e) Y' → FPB r Y Y' → Q 1 SHX R Y') (hPt : ∀ k S w G Y', P true k S w G → SRL B z Y' r k S w G → FPB r Y Y' → Q 1 SHX R Y') (hPf : ∀ k S w G Y', P false k S w G → SRL B z Y' r k S w G → FPB r Y Y' → Q 0 SHX R Y') : Mw (d + 4) 186 [vr 364] SHX R Y 0 0 Q := by
  have hL' := hL
  obtain ⟨hS, hG, h39, h40, h41, hM⟩ := hL'
  obtain ⟨⟨g37, _, _, _, _, g4, _⟩, _⟩ := hG
  have e3 : Y 364 8 = 2 ↔ tkd B z k = 3 := km_is hS (v := 3) (by decide)
  have U59 := fun v2 v3 v4 v5 : Int => u_go (d := d + 1) (v2 := v2) (v3 := v3) (v4 := v4) (v5 := v5) (P := P) hR hr hI hL h hΦ hPt hPf
  -- the flags
  have U32 : ∀ v2 : Int, (v2 = 0 ∨ v2 = 1) → (v2 = 1 ↔ (topW S ≤ 3 ∨ 7 ≤ topW S) ∧ tkd B z k = 2 ∧ tvl B z k = 17) → Go (d + 4) 186 Q 32 [vr 364, vn, vi v2, vn, vn, vn, vn] [] SHX R Y 0 0 := fun v2 b2 i2 => by
    have U44 : ∀ v3 v4 : Int, (v3 = 0 ∨ v3 = 1) → (v4 = 0 ∨ v4 = 1) → (v3 = 1 ↔ tkd B z k = 5 ∧ tvl B z k = 40) → (v4 = 1 ↔ tkd B z k = 3) → Go (d + 4) 186 Q 44 [vr 364, vn, vi v2, vi v3, vi v4, vn, vn] [] SHX R Y 0 0 := fun v3 v4 b3 b4 i3 i4 => by
      refine b2_X12_unit_44 ?_
      rw [ok364, ok364, g37, fr15 hR, ak371, g4]
      refine ⟨by omega, by omega, ?_⟩
      by_cases h90 : G 0 4 = 90
      · rw [if_pos h90]
        exact U59 v2 v3 v4 1 b2 b3 b4 (Or.inr rfl) i2 i3 i4 ⟨fun _ => Or.inr h90, fun _ => rfl⟩
      · rw [if_neg h90, ok364, h41]
        by_cases h30 : G 0 8 = 30
        · rw [if_pos h30]
          exact U59 v2 v3 v4 1 b2 b3 b4 (Or.inr rfl) i2 i3 i4 ⟨fun _ => Or.inl h30, fun _ => rfl⟩
        · rw [if_neg h30]
          exact U59 v2 v3 v4 0 b2 b3 b4 (Or.inl rfl) i2 i3 i4 ⟨fun q => absurd q (by decide), fun q => (q.elim h30 h90).elim⟩
    refine b2_X12_unit_32 ?_
    rw [ok364]
    refine r_isSign (d := d + 2) hR hS fun v3 b3 i3 => ?_
    intro _
    rw [ok364]
    by_cases h3 : tkd B z k = 3
    · rw [if_pos (e3.2 h3)]
      exact U44 v3 1 b3 (Or.inr rfl) (i3 k rfl) ⟨fun _ => h3, fun _ => rfl⟩
    · rw [if_neg fun q => h3 (e3.1 q)]
      exact U44 v3 0 b3 (Or.inl rfl) (i3 k rfl) ⟨fun q => absurd q (by decide), fun q => absurd q h3⟩
  have UW : (topW S ≤ 3 ∨ 7 ≤ topW S) → Cd (d + 4) 162 [vr 364, vl 7237492] SHX R Y 0 0 (fun (x1 : Int) (sh1 : SHP) (R1 M1 : MEM) => (x1 = 0 ∨ x1 = 1) → (if x1 = 0 then Go (d + 4) 186 Q 32 [vr 364, vn, vi 0, vn, vn, vn, vn] [] sh1 R1 M1 0 0 else Go (d + 4) 186 Q 32 [vr 364, vn, vi 1, vn, vn, vn, vn] [] sh1 R1 M1 0 0)) := fun hb => by
    refine r_isW (d := d + 3) (j := 17) hS (by decide) (by decide) (fun q _ => ?_) fun q _ => ?_
    · rw [if_neg (by decide)]
      exact U32 1 (Or.inr rfl) ⟨fun _ => ⟨hb, q⟩, fun _ => rfl⟩
    · rw [if_pos rfl]
      exact U32 0 (Or.inl rfl) ⟨fun g => absurd g (by decide), fun g => absurd g.2 q⟩
  have hK := hI.1
  have hl := (STK_l hK hI.2.1).2
  clear U59 e3 hI
  cases S with
  | nil => exact hK.elim
  | cons p S =>
    have el : ((p :: S : SKK).length : Int) = (S.length : Int) + 1 := by rw [List.length_cons]; omega
    have et : topW (p :: S) = p.1 := rfl
    have em := hM.1
    rw [el] at h40 hl
    rw [et] at UW U32
    refine Mw_of mok186 rfl fun _ _ => b2_X12_unit_0 ?_
    rw [ok364, ok364, h40, isub_of (by omega) (by omega), show (S.length : Int) + 1 - 1 = (S.length : Int) by omega, fr33 hR, ak389, em]
    refine ⟨by omega, by omega, ?_⟩
    by_cases h3 : 3 < p.1
    · rw [if_pos h3, ok364, ok364, ak389]
      refine ⟨by omega, by omega, ?_⟩
      by_cases h7 : p.1 < 7
      · rw [if_pos h7]
        exact U32 0 (Or.inl rfl) ⟨fun g => absurd g (by decide), fun g => absurd g.1 (by omega)⟩
      · rw [if_neg h7, ok364]
        exact UW (by omega)
    · rw [if_neg h3, ok364]
      exact UW (by omega)
end
