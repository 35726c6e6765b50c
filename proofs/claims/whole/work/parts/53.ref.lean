/-! A COPY OF A SKY, A GUST; THE REFERENCE'S TRIALS -/
theorem cpm_out {M : MEM} {a sp b dp n q j : Int} (h : q ≠ b) : cpm M a sp b dp n q j = M q j := by
  unfold cpm
  rw [if_neg fun z => h z.1]
theorem cpm_in {M : MEM} {a sp b dp n j : Int} (h0 : dp ≤ j) (h1 : j < dp + n) : cpm M a sp b dp n b j = M a (sp + (j - dp)) := by
  unfold cpm
  rw [if_pos ⟨rfl, h0, h1⟩]
theorem CS_q2 {Q : RES} {x a : Int} {R X M : MEM} (h : ∀ q, q < a ∨ a + 5 ≤ q → X q = M q) (h2 : Q x SHX R (CS M a (fun r => X (a + r)))) : Q x SHX R X := by
  rw [CS_of h]
  exact h2
section
variable {d : Nat} {R M A : MEM} {a n δ : Int} {N : NTW} {S : SK} {Q : RES}
theorem c_copy {a2 : Int} (hS : SR R a) (hS2 : SR R a2) (hd : a2 + 5 ≤ a ∨ a + 5 ≤ a2) (hB : SKY δ (fun r => M (a2 + r)) S) (hq : ∀ A', SKY δ A' S → Q 0 SHX R (CS M a A')) : Mw d 68 [vr a, vr a2] SHX R (CS M a A) 0 0 Q := by
  refine Mw_of mok68 rfl fun _ _ => b2_X8_copy_0 ?_
  rw [okS hS2, okS hS, okS hS, sr0 hS, sr0 hS2, sr2 hS, sr2 hS2, sr3 hS, sr3 hS2, hS.2.1.2.1, hS2.2.1.2.1, hS.2.1.2.2.2.1, hS2.2.1.2.2.2.1, hS.2.1.2.2.2.2, hS2.2.1.2.2.2.2]
  refine bud_iff.mpr ⟨rfl, ?_⟩
  rw [aS1 hS2, aS1 hS, okS hS2, okS hS, aS3 hS2, aS3 hS, okS hS2, okS hS, aS4 hS2, aS4 hS]
  refine ⟨by decide, by decide, by decide, by decide, by decide, by decide, by decide, by decide, by decide, by decide, by decide, by decide, by decide, by decide, by decide, by decide, by decide, by decide, by decide, by decide, by decide, ?_⟩
  refine b2_X8_copy_26 ?_
  rw [okS hS2, okS hS]
  refine b2_X8_copy_30 ?_
  rw [okS hS2, okS hS]
  refine b2_X8_copy_34 ?_
  rw [okS hS2, okS hS]
  refine b2_X8_copy_38 ?_
  rw [okS hS2, okS hS]
  refine b2_X8_copy_42 ?_
  rw [okS hS2, okS hS]
  refine b2_X8_copy_46 ?_
  rw [okS hS2, okS hS]
  refine b2_X8_copy_50 ?_
  rw [okS hS2, okS hS]
  have e256 : Int.ofNat (100, 256).2 = 256 := rfl
  rw [e256]
  have m0 : ∀ q j, q < a ∨ a + 5 ≤ q → CS M a A q j = M q j := fun q j h => by rw [CS_ne h]
  simp (disch := omega) only [stm_neq, cpm_out, m0]
  obtain ⟨b1, b2, b3, b4, b5, b6, b7, b8, b9, b10⟩ := hB
  dsimp only at b1 b2 b3 b4 b5 b6 b7 b8 b9 b10
  rw [show a2 + 0 = a2 by omega] at b4 b5 b6 b7 b8 b9 b10
  refine CS_q2 (M := M) (a := a) (fun q hq' => ?_) ?_
  · funext j
    simp (disch := omega) only [stm_neq, cpm_out, m0]
  refine hq _ ⟨fun w l w0 w1 l0 l1 => ?_, fun t t0 t1 => ?_, fun t t0 t1 => ?_, ?_, ?_, ?_, ?_, ?_, ?_, ?_⟩
  · simp (disch := omega) only [stm_neq, cpm_out]
    rw [cpm_in (by omega) (by omega), m0 _ _ (by omega), ← b1 w l w0 w1 l0 l1]
    congr 1
    omega
  · simp (disch := omega) only [stm_neq, cpm_out]
    rw [cpm_in (by omega) (by omega), ← b2 t t0 t1]
    simp (disch := omega) only [cpm_out, m0]
    congr 1
    omega
  · simp (disch := omega) only [stm_neq]
    rw [cpm_in (by omega) (by omega), ← b3 t t0 t1]
    simp (disch := omega) only [cpm_out, m0]
    congr 1
    omega
  all_goals
    dsimp only
    rw [show a + 0 = a by omega]
    simp (disch := omega) only [stm_neq, stm_hit]
    assumption
theorem c_blow {ways K : Int} (hS : SR R a) (hA : SKY δ A S) (hO : OKS N S K) (hK : K ≤ 400000000) (hB : S 216 ≤ 1900) (hs : S 217 ≤ 999) (h0 : 0 < ways) (h1 : ways ≤ 16) (hq : ∀ A', SKY δ A' (blS (upf S 217 ((S 217 * 137 + 71) % 1000)) (((S 217 * 137 + 71) % 1000) % ways)) → Q (((S 217 * 137 + 71) % 1000) % ways) SHX R (CS M a A')) : Mw (d + 1) 79 [vr a, vi ways] SHX R (CS M a A) 0 0 Q := by
  refine Mw_of mok79 rfl fun _ _ => b_X8_blow_0 ?_
  have s7 := hO.1 217 (by decide) (by decide)
  have s6 := hO.1 216 (by decide) (by decide)
  have es := sky_se hA
  obtain ⟨s, hs0⟩ : ∃ s, s = (S 217 * 137 + 71) % 1000 := ⟨_, rfl⟩
  obtain ⟨w, hw⟩ : ∃ w, w = s % ways := ⟨_, rfl⟩
  rw [← hs0, ← hw] at hq
  have w0 : 0 ≤ w := by rw [hw]; exact Int.emod_nonneg _ (by omega)
  have w1 : w < ways := by rw [hw]; exact Int.emod_lt_of_pos _ h0
  have sr : irem s ways = w := by rw [irem_of (by omega) (by omega) h0 (by omega), hw]
  rw [okS hS, okS hS, CS_0, es, imul_of (by omega) (by omega), iadd_of (by omega) (by omega), irem_of (x := S 217 * 137 + 71) (by omega) (by omega) (by omega) (by omega), ← hs0, stm_CS0, if_pos h0, okS hS, CS_0, stm_hit, sr]
  have hA1 := sky_seed (v := s) hA
  obtain ⟨S1, hS1⟩ : ∃ S1, S1 = upf S 217 s := ⟨_, rfl⟩
  rw [← hS1] at hA1 hq
  have e6 : S1 216 = S 216 := by rw [hS1]; exact upf_ne (by decide)
  have e9 : ∀ i, i < 217 → S1 i = S i := fun i hi => by rw [hS1]; exact upf_ne (by omega)
  have bnd : ∀ i, 0 ≤ i → i < 192 → 0 ≤ S1 i ∧ S1 i ≤ K := fun i i0 i1 => by
    rw [e9 i (by omega)]
    have z1 := hO.1 i i0 (by omega)
    have z2 := ms_le hO.1 (i := i) i0 (by omega)
    have z3 := hO.2.1
    omega
  have e10 : CS M a (stm A 0 9 s) a 10 = S 216 := by rw [CS_0, sky_bt hA1, e6]
  have o12 := sky_on hA1 w 12 w0 (by omega) (by decide) (by decide)
  have o11 := sky_on hA1 w 11 w0 (by omega) (by decide) (by decide)
  rw [if_pos (by decide), e6] at o12 o11
  have z12 := bnd (12 * w + 12 - 1) (by omega) (by omega)
  have z11 := bnd (12 * w + 11 - 1) (by omega) (by omega)
  refine ⟨by decide, by omega, ?_⟩
  rw [okS hS, okS hS]
  refine c_slot (d := d) hS (by omega) (by omega) w0 (by omega) (by omega) (by omega) ?_
  rw [sr0 hS, aS1 hS, okS hS, okS hS]
  refine ⟨by omega, by omega, c_slot (d := d) hS (by omega) (by omega) w0 (by omega) (by omega) (by omega) ?_⟩
  rw [aS1 hS, aS1 hS, CS_1, e10, o12, o11, stm_CS1, iadd_of (by omega) (by omega)]
  refine ⟨by omega, by omega, by omega, by omega, ?_⟩
  have hst := sky_slot (w := w) (l := 12) (v := S1 (12 * w + 12 - 1) + S1 (12 * w + 11 - 1)) hA1 w0 (by omega) (by decide) (by decide) rfl
  rw [show 12 * w + 12 - 1 = 12 * w + 11 by omega, show 12 * w + 11 - 1 = 12 * w + 10 by omega] at hst ⊢
  rw [← blP_0] at hst
  have loop : ∀ j : Int, 0 ≤ j → j ≤ 10 → ∀ A', SKY δ (stm A' 0 6 (sm (blP S1 w j) 0 192)) (blP S1 w j) → A' 0 6 = sm S1 0 192 → Go (d + 1) 79 Q 38 [vr a, vn, vi w, vi (11 - j)] [] SHX R (CS M a A') 0 0 := by
    refine upto ?_ ?_
    · intro A' g1 g2
      refine b_X8_blow_38 ?_
      have g6 : blP S1 w 10 216 = S 216 := by rw [blP_out (by omega) (by decide)]; exact e6
      have g10 : CS M a A' a 10 = S 216 := by
        rw [CS_0, ← g6, ← sky_bt g1, stm_neq (by omega)]
      rw [if_neg (by decide), okS hS, okS hS]
      refine c_slot (d := d) hS (by omega) (by omega) w0 (by omega) (by omega) (by omega) ?_
      rw [sr0 hS, aS1 hS, stm_CS1, g10]
      refine ⟨by omega, by omega, hq _ ?_⟩
      have h3 := sky_slot (w := w) (l := 1) (v := 0) g1 w0 (by omega) (by decide) (by decide) rfl
      have e2 : upf (blP S1 w 10) (12 * w + 1 - 1) 0 = blS S1 w := by unfold blS; rw [show 12 * w + 1 - 1 = 12 * w by omega]
      rw [e2, stm_stm, g6] at h3
      have e3 : sm (blP S1 w 10) 0 192 - blP S1 w 10 (12 * w + 1 - 1) + 0 = A' 0 6 := by
        have z := sm_bl (S := S1) (w := w) w0 (by omega)
        unfold blS at z
        rw [sm_in 192 (by omega) (by omega)] at z
        rw [g2, show 12 * w + 1 - 1 = 12 * w by omega]
        exact z
      rw [e3, stm_self] at h3
      exact h3
    · intro j j0 j1 ih A' g1 g2
      refine b_X8_blow_38 ?_
      have g6 : blP S1 w j 216 = S 216 := by rw [blP_out (by omega) (by omega)]; exact e6
      have g10 : CS M a A' a 10 = S 216 := by
        rw [CS_0, ← g6, ← sky_bt g1, stm_neq (by omega)]
      rw [if_pos (by omega), okS hS, okS hS]
      refine c_slot (d := d) hS (by omega) (by omega) w0 (by omega) (by omega) (by omega) ?_
      rw [okS hS, okS hS, isub_of (by omega) (by omega)]
      refine c_slot (d := d) hS (by omega) (by omega) w0 (by omega) (by omega) (by omega) ?_
      have o := sky_on g1 w (11 - j - 1) w0 (by omega) (by omega) (by omega)
      rw [if_pos (by omega), g6, stm_neq (by omega), blP_lo (by omega) j0] at o
      rw [sr0 hS, aS1 hS, aS1 hS, stm_CS1, CS_1, g10, o, iadd_of (by omega) (by omega), show 11 - j + -1 = 11 - (j + 1) by omega]
      refine ⟨by omega, by omega, by omega, by omega, ih _ ?_ (by rw [stm_neq (by omega)]; exact g2)⟩
      have h3 := sky_slot (w := w) (l := 11 - j) (v := S1 (12 * w + (11 - j - 1) - 1)) g1 w0 (by omega) (by omega) (by omega) rfl
      have e2 : upf (blP S1 w j) (12 * w + (11 - j) - 1) (S1 (12 * w + (11 - j - 1) - 1)) = blP S1 w (j + 1) := by
        rw [← blP_step j0, show 12 * w + (11 - j) - 1 = 12 * w + 10 - j by omega, show 12 * w + (11 - j - 1) - 1 = 12 * w + 10 - j - 1 by omega]
      have e3 : sm (blP S1 w j) 0 192 - blP S1 w j (12 * w + (11 - j) - 1) + S1 (12 * w + (11 - j - 1) - 1) = sm (blP S1 w (j + 1)) 0 192 := by
        rw [← e2, sm_in 192 (by omega) (by omega)]
      rw [e2, stm_stm, g6, e3, stm_comm (by omega)] at h3
      exact h3
  rw [e6] at hst
  have e5 : sm S1 0 192 - S1 (12 * w + 11) + (S1 (12 * w + 11) + S1 (12 * w + 10)) = sm (blP S1 w 0) 0 192 := by
    rw [blP_0, sm_in 192 (by omega) (by omega)]
  rw [e5, stm_comm (by omega)] at hst
  refine loop 0 (by decide) (by decide) _ hst ?_
  rw [stm_neq (by omega)]
  exact sky_fl hA1
end
section
variable {d : Nat} {R M : MEM} {b : Int} {N : NTW} {S F : SK} {Q : RES} {L : Int × Int}
theorem sm_part {K : Int} (hO : OKS N S K) (u k : Nat) (h : u + k ≤ 202) : 0 ≤ sm S (u : Int) k ∧ sm S (u : Int) k ≤ K := by
  refine ⟨sm_nn k fun i g0 g1 => hO.1 i (by omega) (by omega), ?_⟩
  have b2 : sm S 0 (u + k) = sm S 0 u + sm S (0 + (u : Int)) k := sm_add _ _
  rw [show (0 : Int) + (u : Int) = (u : Int) by omega] at b2
  have b3 := sm_nn (f := S) (a := 0) u fun i g0 g1 => hO.1 i (by omega) (by omega)
  have b4 := sm_mono (f := S) (a := 0) (u + k) 202 h fun i g0 g1 => hO.1 i (by omega) (by omega)
  have b5 := hO.2.1
  have b6 := hO.1 214 (by decide) (by decide)
  have b7 := hO.1 215 (by decide) (by decide)
  unfold ms at b5
  omega
theorem f_onWay {K : Int} {w : Nat} (hR : RM R) (hO : OKS N S K) (hK : K ≤ 1000000000) (w1 : w < 16) (hq : Q (sm S (12 * (w : Int)) 12) SHX R (FM M S F)) : Mw d 210 [vr 364, vi (w : Int)] SHX R (FM M S F) 0 0 Q := by
  refine Mw_of mok210 rfl fun _ _ => b_X12_onWay_0 ?_
  have loop : ∀ k : Nat, k ≤ 12 → Go d 210 Q 4 [vr 364, vi (w : Int), vi (sm S (12 * (w : Int)) k), vi (k : Int)] [] SHX R (FM M S F) 0 0 := by
    refine uptoN ?_ ?_
    · refine b_X12_onWay_4 ?_
      rw [if_neg (by decide)]
      exact hq
    · intro k hk ih
      refine b_X12_onWay_4 ?_
      rw [if_pos (by omega)]
      have b1 := sm_part hO (12 * w) k (by omega)
      have b2 := sm_part hO (12 * w) (k + 1) (by omega)
      rw [show ((12 * w : Nat) : Int) = 12 * (w : Int) by omega] at b1 b2
      have b3 : sm S (12 * (w : Int)) (k + 1) = sm S (12 * (w : Int)) k + S (12 * (w : Int) + k) := rfl
      simp (disch := omega) only [ok364, fr42 hR, ak392, FM_all, FM_flo, FM_did, FM_fld, FM_ne2, stm_FM_all, stm_FM_flo, stm_FM_did, upf_hit, upf_ne, iadd_of, isub_of, imul_of]
      rw [← b3, show (k : Int) + 1 = ((k + 1 : Nat) : Int) by omega]
      exact ⟨by omega, by omega, ih⟩
  exact loop 0 (Nat.zero_le _)
theorem f_onWays {K : Int} (hR : RM R) (hN : NM M b N) (hW : WN N) (hO : OKS N S K) (hK : K ≤ 1000000000) (hq : Q (sm S 0 192) SHX R (FM M S F)) : Mw (d + 1) 211 [vr 364] SHX R (FM M S F) 0 0 Q := by
  refine Mw_of mok211 rfl fun _ _ => b_X12_onWays_0 ?_
  have hw := wn_W hW
  have loop : ∀ k : Nat, k ≤ (N 0 2).toNat → Go (d + 1) 211 Q 4 [vr 364, vi (sm S 0 (12 * k)), vi (k : Int)] [] SHX R (FM M S F) 0 0 := by
    refine uptoN ?_ ?_
    · refine b_X12_onWays_4 ?_
      rw [ok364]
      refine f_wayMany (d := d) hR hN ?_
      rw [if_neg (by omega)]
      have e : 192 = 12 * (N 0 2).toNat + (192 - 12 * (N 0 2).toNat) := by omega
      have e2 : sm S 0 192 = sm S 0 (12 * (N 0 2).toNat) := by
        rw [e, sm_add, sm_0 (192 - 12 * (N 0 2).toNat) fun i i0 i1 => hO.2.2.1 i (by omega) (by omega), Int.add_zero]
      rw [← e2]
      exact hq
    · intro k hk ih
      refine b_X12_onWays_4 ?_
      rw [ok364]
      refine f_wayMany (d := d) hR hN ?_
      rw [if_pos (by omega), ok364]
      refine f_onWay (d := d) hR hO hK (by omega) ?_
      have b1 := sm_part hO 0 (12 * k) (by omega)
      have b2 := sm_part hO 0 (12 * k + 12) (by omega)
      have b3 : sm S 0 (12 * k + 12) = sm S 0 (12 * k) + sm S (0 + ((12 * k : Nat) : Int)) 12 := sm_add _ _
      rw [show (0 : Int) + ((12 * k : Nat) : Int) = 12 * (k : Int) by omega] at b3
      rw [show ((0 : Nat) : Int) = 0 from rfl] at b1 b2
      rw [iadd_of (by omega) (by omega), iadd_of (by omega) (by omega), ← b3, show (k : Int) + 1 = ((k + 1 : Nat) : Int) by omega]
      exact ih
  exact loop 0 (Nat.zero_le _)
theorem f_staying {K : Int} (hR : RM R) (hN : NM M b N) (hW : WN N) (hO : OKS N S K) (hK : K ≤ 1000000000) (hq : Q (sm S 192 10) SHX R (FM M S F)) : Mw (d + 1) 212 [vr 364] SHX R (FM M S F) 0 0 Q := by
  refine Mw_of mok212 rfl fun _ _ => b_X12_staying_0 ?_
  have hT := wn_T hW
  have loop : ∀ k : Nat, k ≤ (N 0 0).toNat → Go (d + 1) 212 Q 4 [vr 364, vi (sm S 192 k), vi (k : Int)] [] SHX R (FM M S F) 0 0 := by
    refine uptoN ?_ ?_
    · refine b_X12_staying_4 ?_
      rw [ok364]
      refine f_towerMany (d := d) hR hN ?_
      rw [if_neg (by omega)]
      have e : 10 = (N 0 0).toNat + (10 - (N 0 0).toNat) := by omega
      have e2 : sm S 192 10 = sm S 192 (N 0 0).toNat := by
        rw [e, sm_add, sm_0 (10 - (N 0 0).toNat) fun i i0 i1 => hO.2.2.2.1 i (by omega) (by omega), Int.add_zero]
      rw [← e2]
      exact hq
    · intro k hk ih
      refine b_X12_staying_4 ?_
      rw [ok364]
      refine f_towerMany (d := d) hR hN ?_
      rw [if_pos (by omega)]
      have b1 := sm_part hO 192 k (by omega)
      have b2 := sm_part hO 192 (k + 1) (by omega)
      rw [show ((192 : Nat) : Int) = 192 from rfl] at b1 b2
      have b3 : sm S 192 (k + 1) = sm S 192 k + S (192 + k) := rfl
      simp (disch := omega) only [ok364, fr42 hR, ak392, FM_all, FM_flo, FM_did, FM_fld, FM_ne2, stm_FM_all, stm_FM_flo, stm_FM_did, upf_hit, upf_ne, iadd_of, isub_of, imul_of]
      rw [← b3, show (k : Int) + 1 = ((k + 1 : Nat) : Int) by omega]
      exact ⟨by omega, by omega, ih⟩
  exact loop 0 (Nat.zero_le _)
theorem f_isStill {K : Int} (hR : RM R) (hN : NM M b N) (hW : WN N) (hO : OKS N S K) (hK : K ≤ 1000000000) (hq1 : still N S → Q 1 SHX R (FM M S F)) (hq0 : ¬ still N S → Q 0 SHX R (FM M S F)) : Mw (d + 2) 230 [vr 364] SHX R (FM M S F) 0 0 Q := by
  refine Mw_of mok230 rfl fun _ _ => b_X12_isStill_0 ?_
  have hT := wn_T hW
  have b0 := nm_b0 hN
  have b1 := nm_b1 hN
  have g6 := sm_nn (f := S) (a := 0) 192 fun i z0 z1 => hO.1 i z0 (by omega)
  obtain ⟨fl, hfl⟩ : ∃ z, z = sm S 0 192 := ⟨_, rfl⟩
  rw [ok364]
  refine f_onWays (d := d) hR hN hW hO hK ?_
  rw [← hfl] at g6 ⊢
  have sz : still N S → fl = 0 := fun z => hfl.trans z.1
  by_cases hf : 0 < fl
  · rw [if_pos hf]
    exact hq0 fun z => by have := sz z; omega
  · rw [if_neg hf]
    have f0 : sm S 0 192 = 0 := by rw [← hfl]; omega
    have loop : ∀ k : Nat, k ≤ (N 0 0).toNat → (∀ t, 0 ≤ t → t < (k : Int) → (N 1 t = 0 → S (192 + t) = 0) ∧ (N 1 t = 5 → S (192 + t) < N 2 t)) → Go (d + 2) 230 Q 7 [vr 364, vi (k : Int)] [] SHX R (FM M S F) 0 0 := by
      refine uptoN ?_ ?_
      · intro h
        refine b_X12_isStill_7 ?_
        rw [ok364]
        refine f_towerMany (d := d + 1) hR hN ?_
        rw [if_neg (by omega)]
        exact hq1 ⟨f0, fun t t0 t1 => h t t0 (by omega)⟩
      · intro k hk ih h
        have s9 := hO.1 (192 + (k : Int)) (by omega) (by omega)
        have nx : (N 1 k = 0 → S (192 + (k : Int)) = 0) → (N 1 k = 5 → S (192 + (k : Int)) < N 2 k) → ∀ t, 0 ≤ t → t < ((k + 1 : Nat) : Int) → (N 1 t = 0 → S (192 + t) = 0) ∧ (N 1 t = 5 → S (192 + t) < N 2 t) := fun z1 z2 t t0 t1 => by
          by_cases ht : t = (k : Int)
          · rw [ht]; exact ⟨z1, z2⟩
          · exact h t t0 (by omega)
        have no : ¬ ((N 1 k = 0 → S (192 + (k : Int)) = 0) ∧ (N 1 k = 5 → S (192 + (k : Int)) < N 2 k)) → Q 0 SHX R (FM M S F) := fun z => hq0 fun y => z (y.2 k (by omega) (by omega))
        have e1 : iadd (k : Int) 1 = ((k + 1 : Nat) : Int) := by rw [iadd_of (by omega) (by omega)]; omega
        refine b_X12_isStill_7 ?_
        rw [ok364]
        refine f_towerMany (d := d + 1) hR hN ?_
        rw [if_pos (by omega), ok364]
        refine f_sortOf (d := d + 1) hR hN (by omega) (by omega) ?_
        by_cases c0 : N 1 k = 0
        · rw [if_pos c0]
          simp (disch := omega) only [ok364, fr42 hR, ak392, fr18 hR, ak374, FM_all, FM_flo, FM_did, FM_fld, FM_ne2, stm_FM_all, stm_FM_flo, stm_FM_did, upf_hit, upf_ne, iadd_of, isub_of, imul_of]
          refine ⟨by omega, by omega, ?_⟩
          by_cases cs : 0 < S (192 + (k : Int))
          · rw [if_pos cs]
            exact no fun z => by have := z.1 c0; omega
          · rw [if_neg cs]
            refine f_sortOf (d := d + 1) hR hN (by omega) (by omega) ?_
            rw [if_neg (show ¬ N 1 k = 5 by omega), show (k : Int) + 1 = ((k + 1 : Nat) : Int) by omega]
            exact ih (nx (fun _ => by omega) fun z => by omega)
        · rw [if_neg c0, ok364]
          refine f_sortOf (d := d + 1) hR hN (by omega) (by omega) ?_
          by_cases c5 : N 1 k = 5
          · rw [if_pos c5]
            simp (disch := omega) only [ok364, fr42 hR, ak392, fr18 hR, ak374, FM_all, FM_flo, FM_did, FM_fld, FM_ne2, stm_FM_all, stm_FM_flo, stm_FM_did, upf_hit, upf_ne, iadd_of, isub_of, imul_of, nm_b hN, nm2 hN]
            refine ⟨by omega, by omega, by omega, by omega, ?_⟩
            by_cases cs : S (192 + (k : Int)) < N 2 k
            · rw [if_pos cs, show (k : Int) + 1 = ((k + 1 : Nat) : Int) by omega]
              exact ih (nx (fun z => by omega) fun _ => cs)
            · rw [if_neg cs]
              exact no fun z => cs (z.2 c5)
          · rw [if_neg c5, e1]
            exact ih (nx (fun z => by omega) fun z => by omega)
    exact loop 0 (Nat.zero_le _) fun t t0 t1 => by omega
end
