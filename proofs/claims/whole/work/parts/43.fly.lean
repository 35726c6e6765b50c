/-! THE REFERENCE FLIES -/
theorem FM_q {Q : RES} {x : Int} {R M : MEM} {S S' F : Int → Int} (h : Q x SHX R (FM M S F)) (e : S' = S) : Q x SHX R (FM M S' F) := e ▸ h
section
variable {d : Nat} {R M : MEM} {b : Int} {N : NTW} {S F : SK} {Q : RES}
theorem w_towerMany (hR : RM R) (hb : M 364 36 = b) (b0 : 0 ≤ b) (b1 : b ≤ 1) (hq : Q (M 367 b) SHX R M) : Mw d 194 [vr 364] SHX R M 0 0 Q := by
  refine Mw_of mok194 rfl fun _ _ => b_X12_towerMany_0 ?_
  simp only [ok364, fr11 hR, ak367, hb]
  exact ⟨b0, by omega, hq⟩
theorem w_wayMany (hR : RM R) (hb : M 364 36 = b) (b0 : 0 ≤ b) (b1 : b ≤ 1) (hq : Q (M 369 b) SHX R M) : Mw d 195 [vr 364] SHX R M 0 0 Q := by
  refine Mw_of mok195 rfl fun _ _ => b_X12_wayMany_0 ?_
  simp only [ok364, fr13 hR, ak369, hb]
  exact ⟨b0, by omega, hq⟩
theorem w_startMany (hR : RM R) (hb : M 364 36 = b) (b0 : 0 ≤ b) (b1 : b ≤ 1) (hq : Q (M 368 b) SHX R M) : Mw d 196 [vr 364] SHX R M 0 0 Q := by
  refine Mw_of mok196 rfl fun _ _ => b_X12_startMany_0 ?_
  simp only [ok364, fr12 hR, ak368, hb]
  exact ⟨b0, by omega, hq⟩
theorem w_sortOf {t : Int} (hR : RM R) (hb : M 364 36 = b) (b0 : 0 ≤ b) (b1 : b ≤ 1) (h0 : 0 ≤ t) (h1 : t < 10) (hq : Q (M 373 (10 * b + t)) SHX R M) : Mw d 197 [vr 364, vi t] SHX R M 0 0 Q := by
  refine Mw_of mok197 rfl fun _ _ => b_X12_sortOf_0 ?_
  simp (disch := omega) only [ok364, fr17 hR, ak373, hb, imul_of, iadd_of]
  exact ⟨by omega, by omega, hq⟩
theorem w_setOut49 {w g : Int} (hR : RM R) (hN : NM M b N) (hW : WN N) (h0 : -1 ≤ w) (h1 : w < N 0 2) (hs : 0 ≤ w → 0 ≤ S (12 * w + N 8 w - 1) ∧ S (12 * w + N 8 w - 1) + g ≤ 2000000000) (hg : 0 ≤ g) (hq1 : w < 0 → Q 0 SHX R (FM M S F)) (hq2 : 0 ≤ w → Q 0 SHX R (FM M (upf S (12 * w + N 8 w - 1) (S (12 * w + N 8 w - 1) + g)) F)) : Go d 206 Q 49 [vr 364, vi w, vn, vi g] [] SHX R (FM M S F) 0 0 := by
  refine b2_X12_setOut_49 ?_
  by_cases hw : w < 0
  · rw [if_pos hw]
    exact hq1 hw
  · rw [if_neg hw]
    have w0 : 0 ≤ w := by omega
    have hb8 := wn_wb hW w w0 h1
    have hww := wn_W hW
    have hss := hs w0
    simp (disch := omega) only [ok364, fr42 hR, ak392, fr44 hR, ak394, FM_ne2, nm8 hN, imul_of, iadd_of, isub_of, FM_all, stm_FM_all]
    exact ⟨w0, by omega, by omega, by omega, by omega, by omega, hq2 w0⟩
theorem w_setOut {L : Int × Int} {w n K : Int} (hR : RM R) (hN : NM M b N) (hW : WN N) (hS : OKS N S K) (hK : K + n ≤ 2000000000) (hn : 0 ≤ n) (h0 : -1 ≤ w) (h1 : w < N 0 2) (hl : M 364 47 = L.1) (hm : M 364 48 = L.2) (hL : -1 ≤ L.1) (hq : Q 0 SHX R (FM M (setO N L S w n) F)) : Mw d 206 [vr 364, vi w, vi n] SHX R (FM M S F) 0 0 Q := by
  refine Mw_of mok206 rfl fun _ _ => b2_X12_setOut_0 ?_
  by_cases hz : n = 0
  · rw [if_pos hz]
    exact FM_q hq (by unfold setO; rw [if_pos hz])
  · rw [if_neg hz]
    have s4 := hS.1 214 (by decide) (by decide)
    have s4' := ms_le hS.1 (i := 214) (by decide) (by decide)
    have hk := hS.2.1
    have hww := wn_W hW
    by_cases hw : w < 0
    · rw [if_pos hw]
      refine b2_X12_setOut_14 ?_
      simp (disch := omega) only [ok364, fr42 hR, ak392, fr44 hR, ak394, FM_all, FM_flo, FM_did, FM_fld, FM_ne2, stm_FM_all, stm_FM_flo, stm_FM_did, upf_hit, upf_ne, iadd_of, isub_of, imul_of, Int.lt_irrefl, if_false]
      refine ⟨by decide, by decide, by decide, by decide, w_setOut49 hR hN hW h0 h1 (fun z => by omega) (by decide) (fun _ => FM_q hq ?_) (fun z => by omega)⟩
      unfold setO
      rw [if_neg hz, if_pos hw, Int.sub_zero]
    · rw [if_neg hw]
      have hb8 := wn_wb hW w (by omega) h1
      have s5 := hS.1 (12 * w + N 8 w - 1) (by omega) (by omega)
      have s5' := ms_le hS.1 (i := 12 * w + N 8 w - 1) (by omega) (by omega)
      have hcg := capg_le hn
      have key : ∀ g : Int, g = capg n → Go d 206 Q 14 [vr 364, vi w, vi n, vi g] [] SHX R (FM M S F) 0 0 := fun g hg => by
        refine b2_X12_setOut_14 ?_
        rw [if_pos (by omega)]
        simp (disch := omega) only [ok364, fr42 hR, ak392, fr44 hR, ak394, FM_all, FM_flo, FM_did, FM_fld, FM_ne2, stm_FM_all, stm_FM_flo, stm_FM_did, upf_hit, upf_ne, iadd_of, isub_of, imul_of, hl, hm]
        refine ⟨by decide, by decide, by decide, by decide, ?_⟩
        have other : ¬ (w = L.1 ∧ S 216 = L.2) → Go d 206 Q 49 [vr 364, vi w, vn, vi g] [] SHX R (FM M (upf S 214 (S 214 + (n - g))) F) 0 0 := fun hx => by
          refine w_setOut49 hR hN hW h0 h1 (fun z => ?_) (by omega) (fun z => by omega) (fun _ => FM_q hq ?_)
          · rw [upf_ne (by omega)]; omega
          · unfold setO
            rw [if_neg hz, if_neg hw, if_neg hx, upf_ne (by omega), hg]
        by_cases hx : w = L.1
        · rw [if_pos hx]
          by_cases hy : S 216 = L.2
          · rw [if_pos hy]
            refine ⟨by decide, by decide, by decide, by decide, by decide, by decide, ?_⟩
            rw [show g + -1 = g - 1 by omega]
            refine w_setOut49 hR hN hW h0 h1 (fun z => ?_) (by omega) (fun z => by omega) (fun _ => FM_q hq ?_)
            · rw [upf_ne (by omega), upf_ne (by omega), upf_ne (by omega)]; omega
            · unfold setO
              rw [if_neg hz, if_neg hw, if_pos ⟨hx, hy⟩, upf_ne (by omega), upf_ne (by omega), upf_ne (by omega), ← hg, upf_comm (i := 218) (j := 214) (by decide), upf_upf]
          · rw [if_neg hy]
            exact ⟨by decide, by decide, other fun z => hy z.2⟩
        · rw [if_neg hx]
          exact other fun z => hx z.1
      by_cases hc : 999999 < n
      · rw [if_pos hc]
        exact key _ (if_pos hc).symm
      · rw [if_neg hc]
        exact key _ (if_neg hc).symm
end
