/-! THE PARSER, the reference: ways, claims, lines -/
section
variable {d : Nat} {R X Y : MEM} {B : Int → Int} {z r v w x a b c f n rk t : Int} {k : Nat} {s : SNK} {S : SKK} {G : NTW} {Q : RES}
theorem MNG_W {p i : Int} (h : MNG Y r G) (hW : 0 ≤ G 0 2) (hp : 376 ≤ p ∧ p ≤ 378) (hi : 16 * r + G 0 2 ≤ i) : MNG (stm Y p i v) r G := by
  refine MNG_ag h (stm_neq (by omega)) (stm_neq (by omega)) (fun q hq => stm_neq (by omega)) (fun q t hq t0 t1 => stm_neq (by omega)) (fun t t0 t1 => stm_neq (by omega)) (fun q t q0 q1 t0 t1 => stm_neq (by omega)) (fun q t hq t0 t1 => stm_neq (by omega)) fun q t hq t0 t1 => stm_neq (by omega)
theorem MNG_C {p i : Int} (h : MNG Y r G) (hC : 0 ≤ G 0 3) (hp : (381 ≤ p ∧ p ≤ 383) ∨ p = 386) (hi : 6 * r + G 0 3 ≤ i) : MNG (stm Y p i v) r G := by
  refine MNG_ag h (stm_neq (by omega)) (stm_neq (by omega)) (fun q hq => stm_neq (by omega)) (fun q t hq t0 t1 => stm_neq (by omega)) (fun t t0 t1 => stm_neq (by omega)) (fun q t q0 q1 t0 t1 => stm_neq (by omega)) (fun q t hq t0 t1 => stm_neq (by omega)) fun q t hq t0 t1 => stm_neq (by omega)
/-- a way is added -/
theorem MNG_adW (hr : r = 0 ∨ r = 1) (h : MNG Y r G) (hT : 0 ≤ G 0 0 ∧ G 0 0 ≤ 10) (hW : 0 ≤ G 0 2 ∧ G 0 2 < 16) (a0 : 0 ≤ a) (a1 : a < G 0 0) (e7 : Y 377 (16 * r + G 0 2) = b) (e8 : Y 378 (16 * r + G 0 2) = v) : MNG (stm (stm (stm Y 376 (16 * r + G 0 2) a) (if G 3 a < 0 then 379 else 380) (10 * r + a) (G 0 2)) 369 r (G 0 2 + 1)) r (adW G a b v) := by
  obtain ⟨⟨c0, c1, c2, c3, c4, c5, c6, c7, c8⟩, bT, bS, bW, bC, bK⟩ := h
  unfold adW
  by_cases h3 : G 3 a < 0
  · rw [if_pos h3, if_pos h3]
    refine ⟨⟨?_, ?_, ?_, ?_, ?_, ?_, ?_, ?_, ?_⟩, fun t t0 t1 => ?_, fun s s0 s1 => ?_, fun w w0 w1 => ?_, fun c c0 c1 => ?_, fun i i0 i1 => ?_⟩
    · simp (disch := omega) only [stm_neq, stm_hit]; exact c0
    · simp (disch := omega) only [stm_neq, stm_hit]; exact c1
    · simp (disch := omega) only [stm_neq, stm_hit]; exact c2
    · simp (disch := omega) only [stm_neq, stm_hit]
    · simp (disch := omega) only [stm_neq, stm_hit]; exact c4
    · simp (disch := omega) only [stm_neq, stm_hit]; exact c5
    · simp (disch := omega) only [stm_neq, stm_hit]; exact c6
    · simp (disch := omega) only [stm_neq, stm_hit]; exact c7
    · simp (disch := omega) only [stm_neq, stm_hit]; exact c8
    · simp (disch := omega) only [stm_neq, stm_hit] at t1
      have q := bT t t0 t1
      by_cases ht : t = a
      · subst ht
        simp (disch := omega) only [stm_neq, stm_hit]
        exact ⟨q.1, q.2.1, trivial, q.2.2.2⟩
      · simp (disch := omega) only [stm_neq, stm_hit]
        exact q
    · simp (disch := omega) only [stm_neq, stm_hit] at s1 ⊢
      exact bS s s0 s1
    · simp (disch := omega) only [stm_neq, stm_hit] at w1
      by_cases hw : w = G 0 2
      · subst hw
        simp (disch := omega) only [stm_neq, stm_hit]
        exact ⟨trivial, e7, e8⟩
      · simp (disch := omega) only [stm_neq, stm_hit]
        exact bW w w0 (by omega)
    · simp (disch := omega) only [stm_neq, stm_hit] at c1 ⊢
      exact bC c c0 c1
    · simp (disch := omega) only [stm_neq, stm_hit] at i1 ⊢
      exact bK i i0 i1
  · rw [if_neg h3, if_neg h3]
    refine ⟨⟨?_, ?_, ?_, ?_, ?_, ?_, ?_, ?_, ?_⟩, fun t t0 t1 => ?_, fun s s0 s1 => ?_, fun w w0 w1 => ?_, fun c c0 c1 => ?_, fun i i0 i1 => ?_⟩
    · simp (disch := omega) only [stm_neq, stm_hit]; exact c0
    · simp (disch := omega) only [stm_neq, stm_hit]; exact c1
    · simp (disch := omega) only [stm_neq, stm_hit]; exact c2
    · simp (disch := omega) only [stm_neq, stm_hit]
    · simp (disch := omega) only [stm_neq, stm_hit]; exact c4
    · simp (disch := omega) only [stm_neq, stm_hit]; exact c5
    · simp (disch := omega) only [stm_neq, stm_hit]; exact c6
    · simp (disch := omega) only [stm_neq, stm_hit]; exact c7
    · simp (disch := omega) only [stm_neq, stm_hit]; exact c8
    · simp (disch := omega) only [stm_neq, stm_hit] at t1
      have q := bT t t0 t1
      by_cases ht : t = a
      · subst ht
        simp (disch := omega) only [stm_neq, stm_hit]
        exact ⟨q.1, q.2.1, q.2.2.1, trivial, q.2.2.2.2⟩
      · simp (disch := omega) only [stm_neq, stm_hit]
        exact q
    · simp (disch := omega) only [stm_neq, stm_hit] at s1 ⊢
      exact bS s s0 s1
    · simp (disch := omega) only [stm_neq, stm_hit] at w1
      by_cases hw : w = G 0 2
      · subst hw
        simp (disch := omega) only [stm_neq, stm_hit]
        exact ⟨trivial, e7, e8⟩
      · simp (disch := omega) only [stm_neq, stm_hit]
        exact bW w w0 (by omega)
    · simp (disch := omega) only [stm_neq, stm_hit] at c1 ⊢
      exact bC c c0 c1
    · simp (disch := omega) only [stm_neq, stm_hit] at i1 ⊢
      exact bK i i0 i1
/-- a way, from its length on -/
theorem way_52 (hR : RM R) (hr : r = 0 ∨ r = 1) (hM : MSt B z s Y) (hG : MNG Y r G) (hT : 0 ≤ G 0 0 ∧ G 0 0 ≤ 10) (hW : 0 ≤ G 0 2 ∧ G 0 2 < 16) (a0 : 0 ≤ a) (a1 : a < 10) (hq : ∀ Y' v, MSt B z (nuP B z (muW B z s 13) 1 9) Y' → (∀ k', s = .inr k' → nuP B z (.inr (k' + 1)) 1 9 = .inr (k' + 2) → muW B z s 13 = .inr (k' + 1) → v = tvl B z (k' + 1)) → (∀ k', nuP B z (muW B z s 13) 1 9 = .inr k' → a < G 0 0 → MNG Y' r (adW G a (Y 377 (16 * r + G 0 2)) v)) → FPW r Y Y' → Q 0 SHX R Y') : Go (d + 4) 179 Q 52 [vr 364, vi (16 * r + G 0 2), vi (10 * r + a)] [] SHX R Y 0 0 := by
  refine b_X12_readWay_52 ?_
  rw [ok364, ok364, fr22 hR]
  refine r_after (d := d) (j := 13) hR hM (by decide) (by decide) fun v Y1 h1 f1 hv => ?_
  simp (disch := omega) only [ok364, ak378]
  refine ⟨by omega, by omega, ?_⟩
  have hG2 : MNG (stm Y1 378 (16 * r + G 0 2) v) r G := MNG_W (MNG_7 hG f1) hW.1 (by decide) (Int.le_refl _)
  have h2 := MSt_W (p := 378) (i := 16 * r + G 0 2) (v := v) h1 (by decide) (by decide)
  have f2 : FPW r Y (stm Y1 378 (16 * r + G 0 2) v) := FPW_st (FPW_7 f1) (by unfold BKW; omega)
  have hv' : ∀ k', s = .inr k' → nuP B z (.inr (k' + 1)) 1 9 = .inr (k' + 2) → muW B z s 13 = .inr (k' + 1) → v = tvl B z (k' + 1) := fun k' q1 q2 q3 => hv _ _ q3 (by rw [show (((13 : Nat) : Int)) = 13 from rfl, q3]; exact q2)
  have h2 : MSt B z (nuP B z (muW B z s 13) 1 9) (stm Y1 378 (16 * r + G 0 2) v) := h2
  have e77 : Y1 377 (16 * r + G 0 2) = Y 377 (16 * r + G 0 2) := by rw [f1.1 377 (by decide)]
  cases hs : nuP B z (muW B z s 13) 1 9 with
  | inl e =>
    rw [hs] at h2 hq
    refine r_isGood (d := d + 3) h2 (fun e' he => ?_) fun k' he => nomatch he
    rw [if_pos rfl]
    exact fun _ => hq _ v h2 hv' (fun k' q => nomatch q) f2
  | inr k1 =>
    rw [hs] at h2 hq
    refine r_isGood (d := d + 3) h2 (fun e' he => nomatch he) fun k' he => ?_
    intro _
    have hG2' := hG2
    obtain ⟨⟨c0, c1, c2, c3, c4, c5, c6, c7, c8⟩, bT, bS, bW, bC, bK⟩ := hG2'
    obtain ⟨Y2, hY2⟩ : ∃ Y2, Y2 = stm Y1 378 (16 * r + G 0 2) v := ⟨_, rfl⟩
    have e7 : Y2 377 (16 * r + G 0 2) = Y 377 (16 * r + G 0 2) := by rw [hY2, stm_neq (by omega)]; exact e77
    have e8 : Y2 378 (16 * r + G 0 2) = v := by rw [hY2, stm_hit]
    rw [← hY2] at h2 hG2 f2 c0 c3 bT ⊢
    rw [if_neg (by decide)]
    simp (disch := omega) only [ok364, fr20 hR, fr23 hR, fr24 hR, fr13 hR, ak376, ak379, ak380, ak369, stm_neq, c0, c3, imul_of, isub_of, show 10 * r + a - 10 * r = a by omega]
    refine ⟨by omega, by omega, by omega, by omega, ?_⟩
    have fin : ∀ q : Int, (q = 379 ∨ q = 380) → (a < G 0 0 → q = if G 3 a < 0 then 379 else 380) → Go (d + 4) 179 Q 99 [vr 364, vn, vn] [] SHX R (stm (stm Y2 376 (16 * r + G 0 2) a) q (10 * r + a) (G 0 2)) 0 0 := fun q hq1 hq2 => by
      refine b_X12_readWay_99 ?_
      simp (disch := omega) only [ok364, fr13 hR, ak369, stm_neq, c0, c3, iadd_of]
      refine ⟨by omega, by omega, by omega, by omega, hq _ v ?_ hv' (fun k' hk ha => ?_) ?_⟩
      · exact MSt_W (MSt_W (MSt_W h2 (by decide) (by decide)) (by omega) (by omega)) (by decide) (by decide)
      · rw [hq2 ha]
        exact MNG_adW hr hG2 hT hW a0 ha e7 e8
      · exact FPW_st (FPW_st (FPW_st f2 (by unfold BKW; omega)) (by unfold BKW; omega)) (by unfold BKW; omega)
    by_cases h3 : Y2 379 (10 * r + a) < 0
    · rw [if_pos h3]
      refine ⟨by omega, by omega, by omega, by omega, fin 379 (Or.inl rfl) fun ha => ?_⟩
      rw [if_pos]
      rw [← (bT a a0 ha).2.2.1]; exact h3
    · rw [if_neg h3]
      refine ⟨by omega, by omega, by omega, by omega, fin 380 (Or.inr rfl) fun ha => ?_⟩
      rw [if_neg]
      rw [← (bT a a0 ha).2.2.1]; exact h3
def goG (s : SNK) : SNK := match s with
  | .inl e => .inl e
  | .inr k => .inr (k + 1)
theorem kn_good {k' : Nat} (h : knP B z s G = .inr k') : s = .inr k' ∧ tkd B z k' = 3 ∧ ¬ twH G (tvl B z k') < 0 := by
  cases s with
  | inl e => exact nomatch h
  | inr k =>
    have en : knP B z (.inr k) G = if tkd B z k = 3 then (if twH G (tvl B z k) < 0 then .inl (ftE B z k 5) else .inr k) else .inl (ftE B z k 2) := rfl
    rw [en] at h
    by_cases h3 : tkd B z k = 3
    · rw [if_pos h3] at h
      by_cases ht : twH G (tvl B z k) < 0
      · rw [if_pos ht] at h; exact nomatch h
      · rw [if_neg ht] at h
        cases h
        exact ⟨rfl, h3, ht⟩
    · rw [if_neg h3] at h; exact nomatch h
/-- a way, from its second word on -/
theorem way_36 (hR : RM R) (hr : r = 0 ∨ r = 1) (hM : MSt B z s Y) (hG : MNG Y r G) (hF : GF G) (hW : 0 ≤ G 0 2 ∧ G 0 2 < 16) (a0 : 0 ≤ a) (a1 : a < 10) (hq : ∀ Y' v b, MSt B z (nuP B z (muW B z (goG (knP B z (muW B z s 12) G)) 13) 1 9) Y' → (∀ k', goG (knP B z (muW B z s 12) G) = .inr k' → nuP B z (.inr (k' + 1)) 1 9 = .inr (k' + 2) → muW B z (goG (knP B z (muW B z s 12) G)) 13 = .inr (k' + 1) → v = tvl B z (k' + 1)) → (∀ k', nuP B z (muW B z (goG (knP B z (muW B z s 12) G)) 13) 1 9 = .inr k' → a < G 0 0 → MNG Y' r (adW G a b v)) → (∀ k', knP B z (muW B z s 12) G = .inr k' → b = twH G (tvl B z k')) → FPW r Y Y' → Q 0 SHX R Y') : Go (d + 4) 179 Q 36 [vr 364, vi (16 * r + G 0 2), vi (10 * r + a)] [] SHX R Y 0 0 := by
  refine b_X12_readWay_36 ?_
  rw [ok364]
  refine r_isWord (d := d + 3) (j := 12) hM (by decide) (by decide) fun v hv hi => ?_
  intro _
  rw [ok364]
  refine r_mustW (d := d + 1) (x := 12) hR hM hv hi fun Y1 h1 f1 => ?_
  rw [ok364, ok364, fr21 hR]
  have hG1 := MNG_7 hG f1
  refine r_known (d := d + 1) (G := G) hR hr h1 (fun _ _ => hG1) hF.1 hF.2.2.2.2 fun b Y2 h2 f2 hb0 hb => ?_
  simp (disch := omega) only [ok364, ak377]
  refine ⟨by omega, by omega, ?_⟩
  have hG3 : MNG (stm Y2 377 (16 * r + G 0 2) b) r G := MNG_W (MNG_7 hG1 f2) hW.1 (by decide) (Int.le_refl _)
  have h3 := MSt_W (p := 377) (i := 16 * r + G 0 2) (v := b) h2 (by decide) (by decide)
  have f3 : FPW r Y (stm Y2 377 (16 * r + G 0 2) b) := FPW_st (FPW_7 (FM7_tr f1 f2)) (by unfold BKW; omega)
  have hb' : ∀ k', knP B z (muW B z s 12) G = .inr k' → b = twH G (tvl B z k') := fun k' hk => hb _ _ (kn_good hk).1 hk
  have fin : ∀ Y4, MSt B z (goG (knP B z (muW B z s 12) G)) Y4 → MNG Y4 r G → FPW r Y Y4 → Y4 377 (16 * r + G 0 2) = b → Go (d + 4) 179 Q 52 [vr 364, vi (16 * r + G 0 2), vi (10 * r + a)] [] SHX R Y4 0 0 := fun Y4 h4 g4 f4 e4 => way_52 hR hr h4 g4 hF.1 hW a0 a1 fun Y5 v5 h5 i5 g5 f5 => by
    rw [e4] at g5
    exact hq Y5 v5 b h5 i5 g5 hb' (FPW_tr f4 f5)
  cases hs : knP B z (muW B z s 12) G with
  | inl e =>
    rw [hs] at h3 fin
    refine r_isGood (d := d + 3) h3 (fun e' he => ?_) fun k' he => nomatch he
    rw [if_pos rfl]
    exact fun _ => fin _ h3 hG3 f3 (stm_hit _ _ _ _)
  | inr k1 =>
    rw [hs] at h3 fin
    refine r_isGood (d := d + 3) h3 (fun e' he => nomatch he) fun k' he => ?_
    rw [if_neg (by decide), ok364]
    intro _
    refine r_goOn (d := d + 2) hR h3 (by have := (kn_good hs).2.1; omega) fun Y4 h4 f4 => fin Y4 h4 (MNG_7 hG3 f4) (FPW_tr f3 (FPW_7 f4)) ?_
    rw [f4.1 377 (by decide), stm_hit]
theorem r_way (hR : RM R) (hr : r = 0 ∨ r = 1) (hM : MSt B z (.inr k) Y) (hG : MNG Y r G) (hF : GF G) (hW : 0 ≤ G 0 2 ∧ G 0 2 < 16) (hq : ∀ Y', RLR B z r (wayP B z k G) Y' → FPW r Y Y' → Q 0 SHX R Y') : Mw (d + 4) 179 [vr 364] SHX R Y 0 0 Q := by
  have hG' := hG
  obtain ⟨⟨c0, _, _, c3, _⟩, _⟩ := hG'
  have ew : wayP B z k G = if tkd B z k = 3 then (if twH G (tvl B z k) < 0 then flt B z k 5 else @ite RSP (rmG G (twH G (tvl B z k))) (Classical.propDecidable _) (pWd B z (k + 1) 12 (pTw B z (k + 2) G fun b => pWd B z (k + 3) 13 (pNm B z (k + 4) 1 9 fun v => .inr (k + 5, adW G (twH G (tvl B z k)) b v)))) (flt B z k 6)) else flt B z k 2 := rfl
  refine Mw_of mok179 rfl fun _ _ => b_X12_readWay_0 ?_
  simp (disch := omega) only [ok364, fr13 hR, ak369, c0, c3, imul_of, iadd_of]
  refine ⟨by omega, by omega, ?_⟩
  refine r_known (d := d + 1) (G := G) hR hr hM (fun _ _ => hG) hF.1 hF.2.2.2.2 fun a Y1 h1 f1 ha0 ha => ?_
  have hG1 := MNG_7 hG f1
  rw [ok364, iadd_of (x := 10 * r) (by omega) (by omega)]
  have tb := twH_b (x := tvl B z k) hF.1.1
  -- from a fault on
  have bad : ∀ (e : Int × Int) (Y2 : MEM), wayP B z k G = .inl e → MSt B z (.inl e) Y2 → MNG Y2 r G → FPW r Y Y2 → Go (d + 4) 179 Q 31 [vr 364, vi (16 * r + G 0 2), vi (10 * r + a)] [] SHX R Y2 0 0 := fun e Y2 he h2 g2 f2 => by
    refine b_X12_readWay_31 ?_
    rw [ok364]
    refine r_isGood (d := d + 3) h2 (fun e' _ => ?_) fun k' he => nomatch he
    rw [if_pos rfl]
    exact fun _ => way_36 hR hr h2 g2 hF hW ha0.1 ha0.2 fun Y3 v b h3 _ _ _ f3 => hq Y3 (by rw [he]; exact h3) (FPW_tr f2 f3)
  have ek : knP B z (.inr k) G = if tkd B z k = 3 then (if twH G (tvl B z k) < 0 then .inl (ftE B z k 5) else .inr k) else .inl (ftE B z k 2) := rfl
  by_cases k3 : tkd B z k = 3
  · rw [if_pos k3] at ek ew
    by_cases ht : twH G (tvl B z k) < 0
    · rw [if_pos ht] at ek ew
      rw [ek] at h1
      refine r_isGood (d := d + 3) h1 (fun e' _ => ?_) fun k' he => nomatch he
      rw [if_pos rfl]
      exact fun _ => bad _ Y1 ew h1 hG1 (FPW_7 f1)
    · rw [if_neg ht] at ek ew
      have ea : a = twH G (tvl B z k) := ha _ _ rfl ek
      have a1 : a < G 0 0 := by omega
      rw [ek] at h1
      rw [← ea] at ew
      refine r_isGood (d := d + 3) h1 (fun e' he => nomatch he) fun k' _ => ?_
      rw [if_neg (by decide), ok364]
      intro _
      refine r_canBegin (d := d + 3) hR hr hG1 hF.1 ha0.1 a1 (fun hrm => ?_) fun hrm => ?_
      · rw [if_pos hrm] at ew
        rw [if_neg (by decide)]
        intro _
        refine b_X12_readWay_31 ?_
        rw [ok364]
        refine r_isGood (d := d + 3) h1 (fun e' he => nomatch he) fun k' _ => ?_
        rw [if_neg (by decide), ok364]
        intro _
        refine r_goOn (d := d + 2) hR h1 (by omega) fun Y2 h2 f2 => ?_
        have f12 : FPW r Y Y2 := FPW_7 (FM7_tr f1 f2)
        refine way_36 hR hr h2 (MNG_7 hG1 f2) hF hW ha0.1 ha0.2 fun Y3 v b h3 i3 g3 b3 f3 => hq Y3 ?_ (FPW_tr f12 f3)
        have e1 : muW B z (.inr (k + 1)) 12 = if tkd B z (k + 1) = 2 ∧ tvl B z (k + 1) = 12 then .inr (k + 1 + 1) else .inl (ftE B z (k + 1) 2) := rfl
        rw [ew]
        unfold pWd
        by_cases c1 : tkd B z (k + 1) = 2 ∧ tvl B z (k + 1) = 12
        · rw [if_pos c1] at e1 ⊢
          rw [e1] at h3 i3 g3 b3
          have e2 : knP B z (.inr (k + 1 + 1)) G = if tkd B z (k + 2) = 3 then (if twH G (tvl B z (k + 2)) < 0 then .inl (ftE B z (k + 2) 5) else .inr (k + 2)) else .inl (ftE B z (k + 2) 2) := rfl
          unfold pTw
          by_cases c2 : tkd B z (k + 2) = 3
          · rw [if_pos c2] at e2 ⊢
            by_cases c3 : twH G (tvl B z (k + 2)) < 0
            · rw [if_pos c3] at e2 ⊢
              rw [e2] at h3
              exact h3
            · rw [if_neg c3] at e2 ⊢
              have eb := b3 _ e2
              show RLR B z r (if tkd B z (k + 3) = 2 ∧ tvl B z (k + 3) = 13 then pNm B z (k + 4) 1 9 fun v => .inr (k + 5, adW G a (twH G (tvl B z (k + 2))) v) else flt B z (k + 3) 2) Y3
              rw [e2] at h3 i3 g3
              have e4 : muW B z (goG (.inr (k + 2))) 13 = if tkd B z (k + 3) = 2 ∧ tvl B z (k + 3) = 13 then .inr (k + 4) else .inl (ftE B z (k + 3) 2) := rfl
              by_cases c4 : tkd B z (k + 3) = 2 ∧ tvl B z (k + 3) = 13
              · rw [if_pos c4] at e4 ⊢
                rw [e4] at h3 g3
                have i3 := i3 (k + 3) rfl
                have e5 : nuP B z (.inr (k + 4)) 1 9 = if tkd B z (k + 4) = 4 then (if tvl B z (k + 4) < 1 ∨ 9 < tvl B z (k + 4) then .inl (ftE B z (k + 4) 4) else .inr (k + 5)) else .inl (ftE B z (k + 4) 2) := rfl
                unfold pNm
                by_cases c5 : tkd B z (k + 4) = 4
                · rw [if_pos c5] at e5 ⊢
                  by_cases c6 : tvl B z (k + 4) < 1 ∨ 9 < tvl B z (k + 4)
                  · rw [if_pos c6] at e5 ⊢
                    rw [e5] at h3
                    exact h3
                  · rw [if_neg c6] at e5 ⊢
                    have ev : v = tvl B z (k + 4) := i3 e5 e4
                    have g3 := g3 _ e5 a1
                    rw [e5] at h3
                    rw [ev, eb] at g3
                    exact ⟨h3, g3⟩
                · rw [if_neg c5] at e5 ⊢
                  rw [e5] at h3
                  exact h3
              · rw [if_neg c4] at e4 ⊢
                rw [e4] at h3
                exact h3
          · rw [if_neg c2] at e2 ⊢
            rw [e2] at h3
            exact h3
        · rw [if_neg c1] at e1 ⊢
          rw [e1] at h3
          exact h3
      · rw [if_neg hrm] at ew
        rw [if_pos rfl, ok364, ok364]
        have m6 : Y1 364 6 = tpl B z k := h1.2.2.2.2.2.1
        rw [m6]
        have e6 : flt B z k 6 = .inl (6, tpl B z k) := by rw [flt_E]; unfold ftE; rw [if_neg (by omega)]
        rw [e6] at ew
        exact fun _ => r_fails (d := d + 3) h1 (by decide) fun Y2 h2 f2 => bad _ Y2 ew h2 (MNG_7 hG1 f2) (FPW_7 (FM7_tr f1 f2))
  · rw [if_neg k3] at ek ew
    rw [ek] at h1
    refine r_isGood (d := d + 3) h1 (fun e' _ => ?_) fun k' he => nomatch he
    rw [if_pos rfl]
    exact fun _ => bad _ Y1 ew h1 hG1 (FPW_7 f1)
end
