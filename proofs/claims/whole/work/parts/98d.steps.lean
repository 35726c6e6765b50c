/-! TOKENS IN ROWS, the class -/
def TARR (M : MEM) (B : Int → Int) (z : Int) (K : Nat) : Prop := M 27 6 = (K : Int) + 1 ∧ K ≤ 1600 ∧ 0 ≤ z ∧ tkd B z K = 1 ∧ ∀ j : Nat, j ≤ K → M 30 (j : Int) = tkd B z j ∧ M 31 (j : Int) = tpl B z j ∧ M 32 (j : Int) = tvl B z j
/-- the class stands at token k -/
def CT (M : MEM) (B : Int → Int) (z : Int) (K k : Nat) : Prop := TARR M B z K ∧ (M 27 7 = if k ≤ K then (k : Int) else (K : Int)) ∧ M 27 8 = tkd B z k ∧ M 27 9 = tpl B z k ∧ M 27 10 = tvl B z k
def FT (M M' : MEM) : Prop := (∀ q, q ≠ 27 → M' q = M q) ∧ ∀ j, j < 7 ∨ 10 < j → M' 27 j = M 27 j
section
variable {d : Nat} {R M : MEM} {B : Int → Int} {z a e t v x y : Int} {K k : Nat} {Q : RES}
theorem TARR_of {M' : MEM} (h : TARR M B z K) (e6 : M' 27 6 = M 27 6) (e0 : M' 30 = M 30) (e1 : M' 31 = M 31) (e2 : M' 32 = M 32) : TARR M' B z K := by
  unfold TARR at h ⊢
  rw [e6, e0, e1, e2]
  exact h
theorem CT_of {M' : MEM} (h : CT M B z K k) (e : ∀ j, M' 27 j = M 27 j) (e0 : M' 30 = M 30) (e1 : M' 31 = M 31) (e2 : M' 32 = M 32) : CT M' B z K k := by
  obtain ⟨h1, h2, h3, h4, h5⟩ := h
  exact ⟨TARR_of h1 (e 6) e0 e1 e2, by rw [e]; exact h2, by rw [e]; exact h3, by rw [e]; exact h4, by rw [e]; exact h5⟩
theorem c_stepA (hc : RC R) (hA : TARR M B z K) (h7 : M 27 7 = (k : Int) - 1) (hk : k ≤ K) (hq : ∀ M', CT M' B z K k → FT M M' → Q 0 SHX R M') : Mw d 94 [vr 27] SHX R M 0 0 Q := by
  obtain ⟨h6, hK, hz, hE, ha⟩ := hA
  obtain ⟨g1, g2, g3⟩ := ha k hk
  refine Mw_of mok94 rfl fun _ _ => b_X9_step_0 ?_
  rw [ok27, ok27, h6, h7, isub_of (by omega) (by omega), if_pos (by omega)]
  simp (disch := omega) only [ok27, rc27_3 hc, rc27_4 hc, rc27_5 hc, ak30, ak31, ak32, stm_neq, stm_hit, iadd_of]
  rw [show (k : Int) - 1 + 1 = (k : Int) by omega, g1, g2, g3]
  refine ⟨by omega, by omega, by omega, by omega, by omega, by omega, hq _ ⟨⟨?_, hK, hz, hE, fun j hj => ?_⟩, ?_, ?_, ?_, ?_⟩ ⟨fun q hq => ?_, fun j hj => ?_⟩⟩
  · simp (disch := omega) only [stm_neq]; exact h6
  · simp (disch := omega) only [stm_neq]; exact ha j hj
  · rw [if_pos hk]; simp (disch := omega) only [stm_neq, stm_hit]
  · simp (disch := omega) only [stm_neq, stm_hit]
  · simp (disch := omega) only [stm_neq, stm_hit]
  · simp (disch := omega) only [stm_neq, stm_hit]
  · rw [stm_ne hq, stm_ne hq, stm_ne hq, stm_ne hq]
  · simp (disch := omega) only [stm_neq]
theorem tok_same (hz : 0 ≤ z) (hE : tkd B z K = 1) (hk : K ≤ k) : TE (tok B z k) 1 z 0 z := by
  have := tok_end_up hz hE (k - K)
  rwa [show K + (k - K) = k by omega] at this
theorem c_step (hc : RC R) (hT : CT M B z K k) (hq : ∀ M', CT M' B z K (k + 1) → FT M M' → Q 0 SHX R M') : Mw d 94 [vr 27] SHX R M 0 0 Q := by
  obtain ⟨hA, h7, h8, h9, h10⟩ := hT
  by_cases hk : k < K
  · rw [if_pos (by omega)] at h7
    exact c_stepA hc hA (k := k + 1) (by rw [h7]; omega) (by omega) hq
  · obtain ⟨h6, hK, hz, hE, ha⟩ := hA
    obtain ⟨t1, t2, t3, _⟩ := tok_same hz hE (show K ≤ k by omega)
    obtain ⟨s1, s2, s3, _⟩ := tok_same hz hE (show K ≤ k + 1 by omega)
    have h7' : M 27 7 = (K : Int) := by
      rw [h7]
      split <;> omega
    refine Mw_of mok94 rfl fun _ _ => b_X9_step_0 ?_
    rw [ok27, ok27, h6, h7', isub_of (by omega) (by omega), if_neg (by omega)]
    refine hq M ⟨⟨h6, hK, hz, hE, ha⟩, ?_, ?_, ?_, ?_⟩ ⟨fun _ _ => rfl, fun _ _ => rfl⟩
    · rw [if_neg (by omega)]; exact h7'
    · exact h8.trans (t1.trans s1.symm)
    · exact h9.trans (t2.trans s2.symm)
    · exact h10.trans (t3.trans s3.symm)
theorem tk1_pl (az : a < z) : (tk1 B z a).2.1 = a ∧ (tk1 B z a).1 ≠ 1 := by
  rcases tk1_P (B := B) (z := z) (a := a) with ⟨⟨h1, h2, h3, h4⟩, g⟩ | ⟨⟨h1, h2, h3, h4⟩, g⟩ | ⟨n, n8, ⟨hl, g, _⟩, ⟨h1, h2, h3, h4⟩, hk⟩ | ⟨n, _, ⟨_, g, _⟩, ⟨h1, h2, h3, h4⟩, hk⟩ | ⟨n, n4, ⟨hd, g⟩, ⟨h1, h2, h3, h4⟩⟩ | ⟨⟨hs, g⟩, ⟨h1, h2, h3, h4⟩⟩ <;> omega
theorem c_part (hc : RC R) (hT : TXC M B z) (hq : ∀ M' K, CT M' B z K 0 → (∀ q, q ≠ 27 → q ≠ 30 → q ≠ 31 → q ≠ 32 → M' q = M q) → (∀ j, j < 6 ∨ 10 < j → M' 27 j = M 27 j) → Q 0 SHX R M') : Mw (d + 4) 83 [vr 27] SHX R M 0 0 Q := by
  have hz := hT.2.1
  refine Mw_of mok83 rfl fun _ _ => b_X9_part_0 ?_
  rw [ok27]
  have key : ∀ (r : Nat) (k : Nat) (nx i : Int) (X : MEM), (z - nx).toNat = r → 0 ≤ i → i ≤ nx → pos B z k ≤ nx → nx ≤ z → rn bkB B z nx = rn bkB B z (pos B z k) → (∀ j, j < k → tkd B z j ≠ 1) → X 27 6 = (k : Int) → (∀ j : Nat, j < k → X 30 (j : Int) = tkd B z j ∧ X 31 (j : Int) = tpl B z j ∧ X 32 (j : Int) = tvl B z j) → TXC X B z → (∀ q, q ≠ 27 → q ≠ 30 → q ≠ 31 → q ≠ 32 → X q = M q) → (∀ j, j < 6 ∨ 10 < j → X 27 j = M 27 j) → Go (d + 4) 83 Q 7 [vr 27, vi nx, vi i] [] SHX R X 0 0 := by
    intro r
    induction r using Nat.strongRecOn with
    | _ r ih =>
      intro k nx i X hr i0 i1 hp hx hrn hne h6 ha hX fx fj
      have kc := pos_cnt (B := B) hz.1 k hne
      have pr := pos_rng (B := B) hz.1 k
      by_cases hlt : nx < z
      · refine b_X9_part_7 ?_
        rw [if_pos (by omega), ok27, hX.1, if_pos hlt, ok27, iadd_of (x := i) (by omega) (by omega)]
        refine c_partOne (d := d) hc hX h6 (by omega) (by omega) (by omega) hlt (fun hb => ?_) fun hb => ?_
        · exact ih _ (by omega) k (nx + 1) (i + 1) X rfl (by omega) (by omega) (by omega) (by omega) (by rw [← rn_step hlt hb]; exact hrn) hne h6 ha hX fx fj
        · have es : rn bkB B z nx = nx := rn_stop fun q => hb q.2
          have et : tok B z k = tk1 B z nx := by
            show tk1 B z (rn bkB B z (pos B z k)) = _
            rw [← hrn, es]
          obtain ⟨pl1, pl2⟩ := tk1_pl (B := B) hlt
          have hk1 : tkd B z k ≠ 1 := by show (tok B z k).1 ≠ 1; rw [et]; exact pl2
          have hpl : tpl B z k = nx := by show (tok B z k).2.1 = nx; rw [et]; exact pl1
          have rr := (tok_rng (B := B) hz.1 k).2.2.1 hk1
          have pr1 := pos_rng (B := B) hz.1 (k + 1)
          have en : (tk1 B z nx).2.2.2 = pos B z (k + 1) := by rw [pos_s, et]
          rw [en]
          refine ih _ (by omega) (k + 1) (pos B z (k + 1)) (i + 1) _ rfl (by omega) (by omega) (Int.le_refl _) pr1.2 rfl (fun j hj => ?_) ?_ (fun j hj => ?_) (TXC_add hX) (fun q q1 q2 q3 q4 => ?_) fun j hj => ?_
          · by_cases hjk : j = k
            · rw [hjk]; exact hk1
            · exact hne j (by omega)
          · unfold addM; rw [stm_hit]; omega
          · unfold addM
            by_cases hjk : j = k
            · rw [hjk]
              simp (disch := omega) only [stm_neq, stm_hit]
              rw [← et]
              exact ⟨rfl, hpl.symm, rfl⟩
            · simp (disch := omega) only [stm_neq]
              exact ha j (by omega)
          · unfold addM; rw [stm_ne q1, stm_ne q4, stm_ne q3, stm_ne q2, fx q q1 q2 q3 q4]
          · unfold addM; simp (disch := omega) only [stm_neq]; exact fj j hj
      · have ez : nx = z := by omega
        subst ez
        have te : TE (tok B nx k) 1 nx 0 nx := by
          show TE (tk1 B nx (rn bkB B nx (pos B nx k))) 1 nx 0 nx
          rw [← hrn, rn_stop (by omega)]
          unfold tk1
          rw [if_pos (Int.le_refl _)]
          exact ⟨rfl, rfl, rfl, rfl⟩
        have fin : Cd (d + 4) 88 [vr 27, vi 1, vi nx, vl 0] SHX R X 0 0 (fun (_ : Int) (sh3 : SHP) (R3 M3 : MEM) => ook sh3 9 27 (ook sh3 9 27 (Cd (d + 4) 94 [vr 27] sh3 R3 (stm M3 27 7 (-1)) 0 0 (fun (_ : Int) (sh4 : SHP) (R4 M4 : MEM) => Q 0 sh4 R4 M4)))) := by
          refine c_add (d := d + 3) hc h6 (by omega) (by omega) ?_
          rw [ok27, ok27]
          have hA : TARR (stm (addM X (k : Int) 1 nx 0) 27 7 (-1)) B nx k := by
            refine ⟨?_, by omega, hz.1, te.1, fun j hj => ?_⟩
            · unfold addM; rw [stm_neq (by omega), stm_hit]
            · unfold addM
              by_cases hjk : j = k
              · rw [hjk]
                simp (disch := omega) only [stm_neq, stm_hit]
                exact ⟨te.1.symm, te.2.1.symm, te.2.2.1.symm⟩
              · simp (disch := omega) only [stm_neq]
                exact ha j (by omega)
          refine c_stepA (d := d + 3) (k := 0) hc hA (by rw [stm_hit]; rfl) (Nat.zero_le _) fun M' hM' hF => hq M' k hM' (fun q q1 q2 q3 q4 => ?_) fun j hj => ?_
          · rw [hF.1 q q1, stm_ne q1]; unfold addM; rw [stm_ne q1, stm_ne q4, stm_ne q3, stm_ne q2, fx q q1 q2 q3 q4]
          · rw [hF.2 j (by omega)]; unfold addM; simp (disch := omega) only [stm_neq]; exact fj j hj
        refine b_X9_part_7 ?_
        rw [ok27, hX.1]
        by_cases h16 : i < 1600
        · rw [if_pos h16, if_neg (by omega), ok27, ok27]
          exact fin
        · rw [if_neg h16, ok27]
          exact fin
  exact key _ 0 0 0 _ rfl (Int.le_refl _) (Int.le_refl _) (Int.le_refl _) hz.1 rfl (fun j hj => by omega) (stm_hit _ _ _ _) (fun j hj => by omega) (TXC_of hT (stm_neq (by omega)) (stm_ne (by decide)) (stm_ne (by decide))) (fun q q1 _ _ _ => stm_ne q1) fun j hj => stm_neq (by omega)
theorem c_isKeyword {w : Int} (hT : CT M B z K k) (hq1 : tkd B z k = 2 ∧ tvl B z k = w → Q 1 SHX R M) (hq0 : ¬ (tkd B z k = 2 ∧ tvl B z k = w) → Q 0 SHX R M) : Mw d 92 [vr 27, vi w] SHX R M 0 0 Q := by
  refine Mw_of mok92 rfl fun _ _ => b_X9_isKeyword_0 ?_
  rw [ok27, hT.2.2.1]
  by_cases h2 : tkd B z k = 2
  · rw [if_pos h2, ok27, hT.2.2.2.2]
    by_cases hw : tvl B z k = w
    · rw [if_pos (lcmp_0.2 hw)]; exact hq1 ⟨h2, hw⟩
    · rw [if_neg fun q => hw (lcmp_0.1 q)]; exact hq0 fun q => hw q.2
  · rw [if_neg h2]; exact hq0 fun q => h2 q.1
theorem c_isSign {w : Int} (hT : CT M B z K k) (hq1 : tkd B z k = 5 ∧ tvl B z k = w → Q 1 SHX R M) (hq0 : ¬ (tkd B z k = 5 ∧ tvl B z k = w) → Q 0 SHX R M) : Mw d 93 [vr 27, vi w] SHX R M 0 0 Q := by
  refine Mw_of mok93 rfl fun _ _ => b_X9_isSign_0 ?_
  rw [ok27, hT.2.2.1]
  by_cases h2 : tkd B z k = 5
  · rw [if_pos h2, ok27, hT.2.2.2.2]
    by_cases hw : tvl B z k = w
    · rw [if_pos (lcmp_0.2 hw)]; exact hq1 ⟨h2, hw⟩
    · rw [if_neg fun q => hw (lcmp_0.1 q)]; exact hq0 fun q => hw q.2
  · rw [if_neg h2]; exact hq0 fun q => h2 q.1
end
