/-! ACTS: kept, taken back, done again -/
section
variable {d c : Nat} {R M M' : MEM} {b : Int} {N : NTW} {Q : RES}
/-- a new act is kept -/
theorem IS_new {u' : Int} (hs : IS M N c) (e1 : M' 36 1 = (M 36 1 + 1) % 41) (e2 : M' 36 2 = u') (e3 : M' 36 3 = 0) (e4 : M' 364 51 = u') (e5 : M' 364 52 = 0) (hu : u' = if M 364 51 = 40 then 40 else M 364 51 + 1) (eb : ∀ q, 38 ≤ q → q ≤ 242 → (q < 38 + 5 * M' 36 1 ∨ 38 + 5 * M' 36 1 + 5 ≤ q) → M' q = M q) (hA : SKY 0 (blk M' (38 + 5 * M' 36 1)) (cut (M' 392))) (hG : GD N (cut (M' 392)) (c + 1)) (w1 : ∀ q i, 0 ≤ q → q < u' - 1 → 0 ≤ i → i < 218 → M' 397 (218 * q + i) = M 397 (218 * (q + (M 364 51 + 1 - u')) + i)) (w2 : ∀ i, 0 ≤ i → i < 218 → M' 397 (218 * (u' - 1) + i) = M 392 i) : IS M' N (c + 1) := by
  have h1 := is_h hs
  have h2 := is_u hs
  have h3 := is_r hs
  have h4 := is_m hs
  have hu2 : 1 ≤ u' ∧ u' ≤ 40 ∧ u' ≤ M 364 51 + 1 ∧ M 364 51 ≤ u' := by split at hu <;> omega
  refine ⟨by omega, by omega, by omega, by omega, fun k k0 k1 => ?_⟩
  rw [e4] at k0
  rw [e5] at k1
  by_cases hk : k = 0
  · rw [hk, stt_0, show (M' 36 1 + 0) % 41 = M' 36 1 by omega]
    exact ⟨hA, hG⟩
  · obtain ⟨g1, g2⟩ := is_s hs (k + 1) (by omega) (by omega)
    have ec : cut (stt M' k) = cut (stt M (k + 1)) := by
      funext i
      unfold cut
      split
      · rename_i hi
        unfold stt
        rw [if_neg hk, if_pos (by omega), e4]
        by_cases hk1 : k = -1
        · rw [if_pos (by omega), show u' + k = u' - 1 by omega]
          exact w2 i hi.1 hi.2
        · rw [if_neg (by omega), if_pos (by omega), w1 _ i (by omega) (by omega) hi.1 hi.2]
          congr 2
          omega
      · rfl
    rw [ec, show (M' 36 1 + k) % 41 = (M 36 1 + (k + 1)) % 41 by omega]
    refine ⟨SKY_agree g1 (fun r j r0 r1 => ?_) fun i _ _ => rfl, GD_mono g2 (by omega)⟩
    show M' _ j = M _ j
    rw [eb _ (by omega) (by omega) (by omega)]
/-- one act back or ahead -/
theorem IS_shift {s : Int} (hs : IS M N c) (hs1 : s = 1 ∨ s = -1) (l0 : -M 364 51 ≤ s) (l1 : s ≤ M 364 52) (e1 : M' 36 1 = (M 36 1 + s) % 41) (e2 : M' 36 2 = M 364 51 + s) (e3 : M' 36 3 = M 364 52 - s) (e4 : M' 364 51 = M 364 51 + s) (e5 : M' 364 52 = M 364 52 - s) (eb : ∀ q, 38 ≤ q → q ≤ 242 → M' q = M q) (ew : ∀ k, -(M 364 51 + s) ≤ k → k ≤ M 364 52 - s → ∀ i, 0 ≤ i → i < 218 → stt M' k i = stt M (k + s) i) : IS M' N (c + 1) := by
  have h1 := is_h hs
  have h2 := is_u hs
  have h3 := is_r hs
  have h4 := is_m hs
  refine ⟨by omega, by omega, by omega, by omega, fun k k0 k1 => ?_⟩
  rw [e4] at k0
  rw [e5] at k1
  obtain ⟨g1, g2⟩ := is_s hs (k + s) (by omega) (by omega)
  have ec : cut (stt M' k) = cut (stt M (k + s)) := by
    funext i
    unfold cut
    split
    · rename_i hi
      exact ew k k0 k1 i hi.1 hi.2
    · rfl
  rw [ec, show (M' 36 1 + k) % 41 = (M 36 1 + (k + s)) % 41 by omega]
  refine ⟨SKY_agree g1 (fun r j r0 r1 => ?_) fun i _ _ => rfl, GD_mono g2 (by omega)⟩
  show M' _ j = M _ j
  rw [eb _ (by omega) (by omega)]
theorem cut_cut {f : Int → Int} {i : Int} (h0 : 0 ≤ i) (h1 : i < 218) : cut f i = f i := cut_at h0 h1
theorem c_goOn {u' : Int} {S : SK} (hC : RC R) (h0 : 0 ≤ M 36 1) (h1 : M 36 1 ≤ 40) (u0 : 0 ≤ M 36 2) (u1 : M 36 2 ≤ 40) (hA : SKY 0 (blk M (38 + 5 * M 36 1)) S) (hu : u' = if M 36 2 = 40 then 40 else M 36 2 + 1) (hq : ∀ A', SKY 0 A' S → Q (38 + 5 * ((M 36 1 + 1) % 41)) SHX R (CS (stm (stm (stm M 36 1 ((M 36 1 + 1) % 41)) 36 2 u') 36 3 0) (38 + 5 * ((M 36 1 + 1) % 41)) A')) : Mw (d + 1) 2 [vr 36] SHX R M 0 0 Q := by
  refine Mw_of mok2 rfl fun _ _ => b_X0_goOn_0 ?_
  obtain ⟨h', hh⟩ : ∃ h', h' = (M 36 1 + 1) % 41 := ⟨_, rfl⟩
  rw [← hh] at hq
  have hS := SR37 hC h0 (show M 36 1 < 41 by omega)
  have hS' := SR37 hC (show 0 ≤ h' by omega) (show h' < 41 by omega)
  have e37 := sky37 hC h0 (show M 36 1 < 41 by omega)
  have e37' := sky37 hC (show 0 ≤ h' by omega) (show h' < 41 by omega)
  have em : imin 40 (iadd (M 36 2) 1) = u' := by
    rw [iadd_of (by omega) (by omega), hu]
    unfold imin
    split <;> split <;> omega
  rw [ok36, ok36, rc36_0 hC, ak_mk (kd := 104) fs37, ok36]
  refine ⟨h0, by omega, ?_⟩
  have fin : Cd (d + 1) 68 [vr (38 + 5 * h'), vr (38 + 5 * M 36 1)] SHX R (stm M 36 1 h') 0 0 (fun (_ : Int) (sh2 : SHP) (R2 M2 : MEM) => ook sh2 0 36 (ook sh2 0 36 (ook sh2 0 36 (ook sh2 0 36 (ook sh2 0 36 (aok sh2 104 (R2 36 0) ((stm (stm M2 36 2 (imin 40 (iadd (M2 36 2) 1))) 36 3 0) 36 1) (Q (R2 (R2 36 0) ((stm (stm M2 36 2 (imin 40 (iadd (M2 36 2) 1))) 36 3 0) 36 1)) sh2 R2 (stm (stm M2 36 2 (imin 40 (iadd (M2 36 2) 1))) 36 3 0)))))))) := by
    have ecs : stm M 36 1 h' = CS (stm M 36 1 h') (38 + 5 * h') (blk (stm M 36 1 h') (38 + 5 * h')) := (CS_self _ _).symm
    rw [ecs]
    refine c_copy (d := d) hS' hS (by omega) (SKY_agree hA (fun r j r0 r1 => ?_) fun i _ _ => rfl) fun A' hA' => ?_
    · show stm M 36 1 h' (38 + 5 * M 36 1 + r) j = M _ j
      rw [stm_neq (by omega)]
    · have k2 : CS (stm M 36 1 h') (38 + 5 * h') A' 36 2 = M 36 2 := by rw [CS_n (by omega), stm_neq (by omega)]
      rw [ok36, ok36, ok36, ok36, ok36, k2, em, rc36_0 hC, ak_mk (kd := 104) fs37, stm_CS_ne (by omega), stm_CS_ne (by omega)]
      have k1 : CS (stm (stm (stm M 36 1 h') 36 2 u') 36 3 0) (38 + 5 * h') A' 36 1 = h' := by rw [CS_n (by omega), stm_neq (by omega), stm_neq (by omega), stm_hit]
      rw [k1, e37']
      exact ⟨by omega, by omega, hq A' hA'⟩
  by_cases hlt : M 36 1 < 40
  · have eh : M 36 1 + 1 = h' := by omega
    rw [if_pos hlt, ok36, ok36, ok36, ok36, ak_mk (kd := 104) fs37, iadd_of (by omega) (by omega), eh, stm_hit, e37, e37', okS hS']
    exact ⟨by omega, by omega, fin⟩
  · have eh : h' = 0 := by omega
    rw [eh] at e37' hS' fin
    rw [if_neg hlt, ok36, ok36, ok36, ak_mk (kd := 104) fs37, stm_hit, e37, e37', okS hS']
    exact ⟨by omega, by omega, fin⟩
/-- the reference keeps what there was -/
theorem m_keep29 {V : Int → Int} {a : Int} (hR : RM R) (a0 : 0 ≤ a) (a1 : a ≤ 40) (hq : Q 0 SHX R (stm (stm (rset M 397 (fun i => if 218 * a ≤ i ∧ i < 218 * a + 218 then M 392 (i - 218 * a) else V i)) 364 51 (a + 1)) 364 52 0)) : Go d 217 Q 29 [vr 364, vi 0] [] SHX R (stm (rset M 397 V) 364 51 a) 0 0 := by
  have loop : ∀ v : Int, 0 ≤ v → v ≤ 218 → Go d 217 Q 29 [vr 364, vi v] [] SHX R (stm (rset M 397 (fun i => if 218 * a ≤ i ∧ i < 218 * a + v then M 392 (i - 218 * a) else V i)) 364 51 a) 0 0 := by
    refine upto ?_ ?_
    · refine b_X12_keepAct_29 ?_
      rw [if_neg (by decide)]
      simp (disch := omega) only [ok364, fr50 hR, ak397, fr42 hR, ak392, stm_hit, stm_stm, iadd_of]
      exact hq
    · intro v v0 v1 ih
      refine b_X12_keepAct_29 ?_
      rw [if_pos v1]
      simp (disch := omega) only [ok364, fr50 hR, ak397, fr42 hR, ak392, stm_hit, stm_neq, rset_ne, imul_of, iadd_of]
      refine ⟨v0, v1, by omega, by omega, ?_⟩
      have e : stm (stm (rset M 397 (fun i => if 218 * a ≤ i ∧ i < 218 * a + v then M 392 (i - 218 * a) else V i)) 364 51 a) 397 (218 * a + v) (M 392 v) = stm (rset M 397 (fun i => if 218 * a ≤ i ∧ i < 218 * a + (v + 1) then M 392 (i - 218 * a) else V i)) 364 51 a := by
        rw [stm_comm (by omega), stm_rset]
        congr 2
        funext i
        unfold upf
        by_cases hi : i = 218 * a + v
        · rw [if_pos hi, if_pos (by omega)]
          congr 1
          omega
        · rw [if_neg hi]
          try dsimp only
          by_cases h2 : 218 * a ≤ i ∧ i < 218 * a + v
          · rw [if_pos h2, if_pos (by omega)]
          · rw [if_neg h2, if_neg (by omega)]
      rw [e]
      exact ih
  have := loop 0 (by decide) (by decide)
  have e : (fun i => if 218 * a ≤ i ∧ i < 218 * a + 0 then M 392 (i - 218 * a) else V i) = V := by
    funext i
    exact if_neg (by omega)
  rw [e] at this
  exact this
theorem m_keepAct {u' : Int} (hR : RM R) (u0 : 0 ≤ M 364 51) (u1 : M 364 51 ≤ 40) (hu : u' = if M 364 51 = 40 then 40 else M 364 51 + 1) (hq : ∀ W, (∀ q i, 0 ≤ q → q < u' - 1 → 0 ≤ i → i < 218 → W (218 * q + i) = M 397 (218 * (q + (M 364 51 + 1 - u')) + i)) → (∀ i, 0 ≤ i → i < 218 → W (218 * (u' - 1) + i) = M 392 i) → Q 0 SHX R (stm (stm (rset M 397 W) 364 51 u') 364 52 0)) : Mw d 217 [vr 364] SHX R M 0 0 Q := by
  refine Mw_of mok217 rfl fun _ _ => b_X12_keepAct_0 ?_
  rw [ok364]
  by_cases h40 : M 364 51 = 40
  · rw [if_pos h40]
    rw [if_pos h40] at hu
    have loop : ∀ v : Int, 0 ≤ v → v ≤ 8720 → Go d 217 Q 6 [vr 364, vi v] [] SHX R (rset M 397 (fun i => if 0 ≤ i ∧ i < v then M 397 (i + 218) else M 397 i)) 0 0 := by
      refine upto ?_ ?_
      · refine b_X12_keepAct_6 ?_
        rw [if_neg (by decide)]
        simp (disch := omega) only [ok364, fr50 hR, ak397, fr42 hR, ak392, rset_ne, h40, isub_of]
        refine m_keep29 (a := 39) hR (by decide) (by decide) ?_
        have e : (39 : Int) + 1 = u' := by omega
        rw [e]
        refine hq _ (fun q i q0 q1 i0 i1 => ?_) fun i i0 i1 => ?_
        · try dsimp only
          rw [if_neg (by omega), if_pos (by omega)]
          congr 1
          omega
        · try dsimp only
          rw [if_pos (by omega)]
          congr 1
          omega
      · intro v v0 v1 ih
        refine b_X12_keepAct_6 ?_
        rw [if_pos v1]
        simp (disch := omega) only [ok364, fr50 hR, ak397, fr42 hR, ak392, rset_hit, stm_rset, iadd_of]
        refine ⟨by omega, by omega, v0, by omega, ?_⟩
        rw [if_neg (by omega)]
        have e : upf (fun i => if 0 ≤ i ∧ i < v then M 397 (i + 218) else M 397 i) v (M 397 (v + 218)) = fun i => if 0 ≤ i ∧ i < v + 1 then M 397 (i + 218) else M 397 i := by
          funext i
          unfold upf
          by_cases hi : i = v
          · rw [if_pos hi, if_pos (by omega), hi]
          · rw [if_neg hi]
            try dsimp only
            by_cases h2 : 0 ≤ i ∧ i < v
            · rw [if_pos h2, if_pos (by omega)]
            · rw [if_neg h2, if_neg (by omega)]
        rw [e]
        exact ih
    have := loop 0 (by decide) (by decide)
    have e : (fun i => if 0 ≤ i ∧ i < 0 then M 397 (i + 218) else M 397 i) = M 397 := by
      funext i
      exact if_neg (by omega)
    rw [e, rset_self] at this
    exact this
  · rw [if_neg h40]
    rw [if_neg h40] at hu
    have := m_keep29 (d := d) (Q := Q) (M := M) (V := M 397) (a := M 364 51) hR u0 u1 (by
      rw [← hu]
      refine hq _ (fun q i q0 q1 i0 i1 => ?_) fun i i0 i1 => ?_
      · try dsimp only
        rw [if_neg (by omega), show M 364 51 + 1 - u' = 0 by omega, Int.add_zero]
      · try dsimp only
        rw [if_pos (by omega)]
        congr 1
        omega)
    rw [rset_self, stm_self] at this
    exact this
/-- the sky at hand and one kept change places -/
theorem m_exchange (hR : RM R) (u0 : 0 ≤ M 364 51) (u1 : M 364 51 ≤ 40) (hq : Q 0 SHX R (rset (rset M 397 (fun i => if 218 * M 364 51 ≤ i ∧ i < 218 * M 364 51 + 218 then M 392 (i - 218 * M 364 51) else M 397 i)) 392 (fun i => if 0 ≤ i ∧ i < 218 then M 397 (218 * M 364 51 + i) else M 392 i))) : Mw d 218 [vr 364] SHX R M 0 0 Q := by
  refine Mw_of mok218 rfl fun _ _ => b_X12_exchange_0 ?_
  obtain ⟨a, ha⟩ : ∃ a, a = M 364 51 := ⟨_, rfl⟩
  rw [← ha] at hq u0 u1
  have loop : ∀ v : Int, 0 ≤ v → v ≤ 218 → Go d 218 Q 2 [vr 364, vi v, vn] [] SHX R (rset (rset M 397 (fun i => if 218 * a ≤ i ∧ i < 218 * a + v then M 392 (i - 218 * a) else M 397 i)) 392 (fun i => if 0 ≤ i ∧ i < v then M 397 (218 * a + i) else M 392 i)) 0 0 := by
    refine upto ?_ ?_
    · refine b_X12_exchange_2 ?_
      rw [if_neg (by decide)]
      exact hq
    · intro v v0 v1 ih
      refine b_X12_exchange_2 ?_
      rw [if_pos v1]
      simp (disch := omega) only [ok364, fr50 hR, ak397, fr42 hR, ak392, rset_hit, rset_ne, stm_rset_ne, stm_rset, stm_neq, imul_of, iadd_of, ← ha]
      refine ⟨by omega, by omega, v0, v1, by omega, by omega, v0, v1, ?_⟩
      rw [if_neg (by omega), if_neg (by omega)]
      have e1 : upf (fun i => if 218 * a ≤ i ∧ i < 218 * a + v then M 392 (i - 218 * a) else M 397 i) (218 * a + v) (M 392 v) = fun i => if 218 * a ≤ i ∧ i < 218 * a + (v + 1) then M 392 (i - 218 * a) else M 397 i := by
        funext i
        unfold upf
        by_cases hi : i = 218 * a + v
        · rw [if_pos hi, if_pos (by omega)]
          congr 1
          omega
        · rw [if_neg hi]
          try dsimp only
          by_cases h2 : 218 * a ≤ i ∧ i < 218 * a + v
          · rw [if_pos h2, if_pos (by omega)]
          · rw [if_neg h2, if_neg (by omega)]
      have e2 : upf (fun i => if 0 ≤ i ∧ i < v then M 397 (218 * a + i) else M 392 i) v (M 397 (218 * a + v)) = fun i => if 0 ≤ i ∧ i < v + 1 then M 397 (218 * a + i) else M 392 i := by
        funext i
        unfold upf
        by_cases hi : i = v
        · rw [if_pos hi, if_pos (by omega), hi]
        · rw [if_neg hi]
          try dsimp only
          by_cases h2 : 0 ≤ i ∧ i < v
          · rw [if_pos h2, if_pos (by omega)]
          · rw [if_neg h2, if_neg (by omega)]
      rw [e1, e2]
      exact ih
  have := loop 0 (by decide) (by decide)
  have e1 : (fun i => if 218 * a ≤ i ∧ i < 218 * a + 0 then M 392 (i - 218 * a) else M 397 i) = M 397 := by
    funext i
    exact if_neg (by omega)
  have e2 : (fun i => if 0 ≤ i ∧ i < 0 then M 397 (218 * a + i) else M 392 i) = M 392 := by
    funext i
    exact if_neg (by omega)
  rw [e1, e2, rset_self, rset_self] at this
  exact this
end
