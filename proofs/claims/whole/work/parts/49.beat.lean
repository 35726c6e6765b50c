/-! THE REFERENCE'S BEAT -/
def shP (Y : SK) (w k : Int) : SK := fun i => if 12 * w ≤ i ∧ i < 12 * w + k - 1 then Y (i + 1) else Y i
theorem shP_1 (Y : SK) (w : Int) : shP Y w 1 = Y := by
  funext i
  exact if_neg (by omega)
theorem shP_at {Y : SK} {w k i : Int} (h : 12 * w + k - 1 ≤ i) : shP Y w k i = Y i := if_neg (by omega)
theorem shP_step {Y : SK} {w k : Int} (h : 1 ≤ k) : upf (shP Y w k) (12 * w + k - 1) (Y (12 * w + k)) = shP Y w (k + 1) := by
  funext i
  unfold upf shP
  by_cases h1 : i = 12 * w + k - 1
  · rw [if_pos h1, if_pos (by omega), h1, show 12 * w + k - 1 + 1 = 12 * w + k by omega]
  · rw [if_neg h1]
    by_cases h2 : 12 * w ≤ i ∧ i < 12 * w + k - 1
    · rw [if_pos h2, if_pos (by omega)]
    · rw [if_neg h2, if_neg (by omega)]
theorem shP_end {Y : SK} {w : Int} : upf (shP Y w 12) (12 * w + 12 - 1) 0 = shS Y w := by
  funext i
  unfold upf shP shS
  by_cases h1 : i = 12 * w + 12 - 1
  · rw [if_pos h1, if_neg (by omega), if_pos (by omega)]
  · rw [if_neg h1]
    by_cases h2 : 12 * w ≤ i ∧ i < 12 * w + 12 - 1
    · rw [if_pos h2, if_pos (by omega)]
    · rw [if_neg h2, if_neg (by omega), if_neg (by omega)]
theorem nwF_le {N : NTW} {S : SK} (hW : WN N) {K : Int} (h : OKS N S K) (n : Nat) (hn : (n : Int) ≤ N 0 2) {t : Int} (h0 : 0 ≤ t) (h1 : t < N 0 0) : nwF N S n t ≤ K := by
  have hf := nwF_nn h.1 hW n hn
  have a := le_sm (f := nwF N S n) (a := 0) (i := t) (N 0 0).toNat (fun i g0 g1 => hf i g0 (by omega)) h0 (by omega)
  have b := (nwS_ok hW h n hn).2.1
  have c := (nwS_ok hW h n hn).1
  have e := sm_nn (f := nwS N S n) (a := 0) 202 fun i h0 h1 => c i h0 (by omega)
  have e4 := c 214 (by decide) (by decide)
  have e5 := c 215 (by decide) (by decide)
  unfold ms at b
  omega
theorem nwS_le {N : NTW} {S : SK} (hW : WN N) {K : Int} (h : OKS N S K) (n : Nat) (hn : (n : Int) ≤ N 0 2) {i : Int} (h0 : 0 ≤ i) (h1 : i < 202) : 0 ≤ nwS N S n i ∧ nwS N S n i ≤ K := by
  have b := (nwS_ok hW h n hn).2.1
  have c := (nwS_ok hW h n hn).1
  have hf := nwF_nn h.1 hW n hn
  have a := sm_nn (f := nwF N S n) (a := 0) (N 0 0).toNat (fun i g0 g1 => hf i g0 (by omega))
  have e := ms_le c h0 (Or.inl h1)
  exact ⟨c i h0 (by omega), by omega⟩
section
variable {d : Nat} {R M : MEM} {b : Int} {N : NTW} {S F : SK} {Q : RES} {L : Int × Int}
theorem FM_b (hN : NM M b N) : FM M S F 364 36 = b := by rw [FM_fld (by decide)]; exact nm_b hN
theorem f_towerMany (hR : RM R) (hN : NM M b N) (hq : Q (N 0 0) SHX R (FM M S F)) : Mw d 194 [vr 364] SHX R (FM M S F) 0 0 Q := by
  refine w_towerMany hR (FM_b hN) (nm_b0 hN) (nm_b1 hN) ?_
  rwa [FM_ne2 (by decide) (by decide) (by decide), nm_T hN]
theorem f_wayMany (hR : RM R) (hN : NM M b N) (hq : Q (N 0 2) SHX R (FM M S F)) : Mw d 195 [vr 364] SHX R (FM M S F) 0 0 Q := by
  refine w_wayMany hR (FM_b hN) (nm_b0 hN) (nm_b1 hN) ?_
  rwa [FM_ne2 (by decide) (by decide) (by decide), nm_W hN]
theorem f_startMany (hR : RM R) (hN : NM M b N) (hq : Q (N 0 1) SHX R (FM M S F)) : Mw d 196 [vr 364] SHX R (FM M S F) 0 0 Q := by
  refine w_startMany hR (FM_b hN) (nm_b0 hN) (nm_b1 hN) ?_
  rwa [FM_ne2 (by decide) (by decide) (by decide), nm_S hN]
theorem f_sortOf {t : Int} (hR : RM R) (hN : NM M b N) (h0 : 0 ≤ t) (h1 : t < 10) (hq : Q (N 1 t) SHX R (FM M S F)) : Mw d 197 [vr 364, vi t] SHX R (FM M S F) 0 0 Q := by
  refine w_sortOf hR (FM_b hN) (nm_b0 hN) (nm_b1 hN) h0 h1 ?_
  rwa [FM_ne2 (by decide) (by decide) (by decide), nm1 hN]
theorem f_near {K : Int} (hR : RM R) (hN : NM M b N) (hW : WN N) (hS : OKS N S K) (hK : K ≤ 1000000000) (hq : ∀ F', (∀ t, 0 ≤ t → t < N 0 0 → F' t = nwF N S (N 0 2).toNat t) → Q 0 SHX R (FM M (nwS N S (N 0 2).toNat) F')) : Mw (d + 1) 207 [vr 364] SHX R (FM M S F) 0 0 Q := by
  refine Mw_of mok207 rfl fun _ _ => b_X12_comeNearer_0 ?_
  have hT := wn_T hW
  have hw := wn_W hW
  have b0 := nm_b0 hN
  have b1 := nm_b1 hN
  have l64 : ∀ (n : Nat) (Y F' : SK), (n : Int) < N 0 2 → Go (d + 1) 207 Q 37 [vr 364, vi ((n : Int) + 1), vn] [] SHX R (FM M (shS Y n) F') 0 0 → Go (d + 1) 207 Q 64 [vr 364, vi (n : Int), vi 1] [] SHX R (FM M Y F') 0 0 := by
    intro n Y F' hn next
    have key := upfrom (L := 1) (N := 12) (G := fun k => Go (d + 1) 207 Q 64 [vr 364, vi (n : Int), vi k] [] SHX R (FM M (shP Y n k) F') 0 0) ?_ ?_ 1 (by omega) (by omega)
    · rwa [shP_1] at key
    · refine b_X12_comeNearer_64 ?_
      rw [if_neg (by decide)]
      simp (disch := omega) only [ok364, fr45 hR, ak395, fr42 hR, ak392, fr21 hR, ak377, FM_all, FM_flo, FM_did, FM_fld, FM_ne2, stm_FM_all, stm_FM_flo, stm_FM_did, upf_hit, upf_ne, iadd_of, isub_of, imul_of]
      rw [shP_end]
      exact ⟨by omega, by omega, next⟩
    · intro k k0 k1 ih
      refine b_X12_comeNearer_64 ?_
      rw [if_pos k1]
      simp (disch := omega) only [ok364, fr45 hR, ak395, fr42 hR, ak392, fr21 hR, ak377, FM_all, FM_flo, FM_did, FM_fld, FM_ne2, stm_FM_all, stm_FM_flo, stm_FM_did, upf_hit, upf_ne, iadd_of, isub_of, imul_of, shP_at]
      rw [shP_step k0]
      exact ⟨by omega, by omega, by omega, by omega, ih⟩
  have l37 : ∀ n : Nat, n ≤ (N 0 2).toNat → ∀ F', (∀ t, 0 ≤ t → t < N 0 0 → F' t = nwF N S n t) → Go (d + 1) 207 Q 37 [vr 364, vi (n : Int), vn] [] SHX R (FM M (nwS N S n) F') 0 0 := by
    refine uptoN ?_ ?_
    · intro F' hF
      refine b_X12_comeNearer_37 ?_
      rw [ok364]
      refine f_wayMany (d := d) hR hN ?_
      rw [if_neg (by omega)]
      exact hq F' hF
    · intro n hn ih F' hF
      refine b_X12_comeNearer_37 ?_
      rw [ok364]
      refine f_wayMany (d := d) hR hN ?_
      rw [if_pos (by omega)]
      have h7 := wn_wt hW n (by omega) (by omega)
      have g1 := nwF_nn (N := N) hS.1 hW n (by omega) _ h7.1 h7.2
      have g2 := nwF_le hW hS n (by omega) h7.1 h7.2
      have g3 := nwS_le hW hS n (by omega) (i := 12 * (n : Int)) (by omega) (by omega)
      have g4 := hF _ h7.1 h7.2
      simp (disch := omega) only [ok364, fr45 hR, ak395, fr42 hR, ak392, fr21 hR, ak377, FM_all, FM_flo, FM_did, FM_fld, FM_ne2, stm_FM_all, stm_FM_flo, stm_FM_did, upf_hit, upf_ne, iadd_of, isub_of, imul_of, nm_b hN, nm7 hN]
      refine ⟨by omega, by omega, by omega, by omega, by omega, by omega, by omega, by omega, l64 n _ _ (by omega) ?_⟩
      refine ih _ fun t t0 t1 => ?_
      show upf F' _ _ t = upf (nwF N S n) _ _ t
      rw [g4]
      unfold upf
      split
      · rfl
      · exact hF t t0 t1
  have l2 : ∀ n : Nat, n ≤ (N 0 0).toNat → ∀ F', (∀ t, 0 ≤ t → t < (n : Int) → F' t = stF N S t) → Go (d + 1) 207 Q 2 [vr 364, vi (n : Int), vn] [] SHX R (FM M (stS N S n) F') 0 0 := by
    refine uptoN ?_ ?_
    · intro F' hF
      refine b_X12_comeNearer_2 ?_
      rw [ok364]
      refine f_towerMany (d := d) hR hN ?_
      rw [if_neg (by omega)]
      exact l37 0 (Nat.zero_le _) F' fun t t0 t1 => hF t t0 (by omega)
    · intro n hn ih F' hF
      refine b_X12_comeNearer_2 ?_
      rw [ok364]
      refine f_towerMany (d := d) hR hN ?_
      rw [if_pos (by omega)]
      simp (disch := omega) only [ok364, fr45 hR, ak395, fr42 hR, ak392, fr21 hR, ak377, FM_all, FM_flo, FM_did, FM_fld, FM_ne2, stm_FM_all, stm_FM_flo, stm_FM_did, upf_hit, upf_ne, iadd_of, isub_of, imul_of]
      refine ⟨by omega, by omega, f_sortOf (d := d) hR hN (by omega) (by omega) ?_⟩
      have eS : stS N S (n + 1) = if N 1 (n : Int) = 0 then upf (stS N S n) (192 + (n : Int)) 0 else stS N S n := rfl
      have eF : ∀ v : Int, stF N S (n : Int) = v → ∀ t, 0 ≤ t → t < ((n + 1 : Nat) : Int) → upf F' n v t = stF N S t := fun v hv t t0 t1 => by
        by_cases ht : t = (n : Int)
        · rw [upf_eq ht, ht, hv]
        · rw [upf_ne ht]; exact hF t t0 (by omega)
      have e1 : (n : Int) + 1 = ((n + 1 : Nat) : Int) := by omega
      by_cases hs : N 1 (n : Int) = 0
      · rw [if_pos hs] at eS ⊢
        simp (disch := omega) only [ok364, fr45 hR, ak395, fr42 hR, ak392, fr21 hR, ak377, FM_all, FM_flo, FM_did, FM_fld, FM_ne2, stm_FM_all, stm_FM_flo, stm_FM_did, upf_hit, upf_ne, iadd_of, isub_of, imul_of, upf_upf, stS_ge]
        rw [e1]
        have := ih _ (eF (S (192 + (n : Int))) (if_pos hs))
        rw [eS] at this
        exact ⟨by omega, by omega, by omega, by omega, by omega, by omega, this⟩
      · rw [if_neg hs] at eS ⊢
        simp (disch := omega) only [iadd_of]
        rw [e1]
        have := ih _ (eF 0 (if_neg hs))
        rwa [eS] at this
  exact l2 0 (Nat.zero_le _) F fun t t0 t1 => by omega
theorem f_does {t f K : Int} (hR : RM R) (hN : NM M b N) (hW : WN N) (hS : OKS N S K) (hK : K + f + 99 ≤ 1000000000) (t0 : 0 ≤ t) (t1 : t < N 0 0) (f0 : 0 ≤ f) (hf : F t = f) (hl : M 364 47 = L.1) (hm : M 364 48 = L.2) (hL : -1 ≤ L.1) (hq : Q 0 SHX R (FM M (doT N L S t f) F)) : Mw (d + 1) 208 [vr 364, vi t] SHX R (FM M S F) 0 0 Q := by
  refine Mw_of mok208 rfl fun _ _ => b_X12_does_0 ?_
  have hT := wn_T hW
  have b0 := nm_b0 hN
  have b1 := nm_b1 hN
  have e3 := wn_fi hW t t0 t1
  have e4 := wn_se hW t t0 t1
  have s1 := hS.1 (192 + t) (by omega) (by omega)
  have s2 := ms_le hS.1 (i := 192 + t) (by omega) (by omega)
  have s3 := hS.2.1
  have s4 := hS.1 214 (by decide) (by decide)
  have s4' := ms_le hS.1 (i := 214) (by decide) (by decide)
  have s5 := hS.1 215 (by decide) (by decide)
  have s5' := ms_le hS.1 (i := 215) (by decide) (by decide)
  simp (disch := omega) only [ok364, fr45 hR, ak395, fr18 hR, ak374, fr23 hR, ak379, fr24 hR, ak380, fr42 hR, ak392, FM_all, FM_flo, FM_did, FM_fld, FM_ne2, stm_FM_all, stm_FM_flo, stm_FM_did, upf_hit, upf_ne, iadd_of, isub_of, imul_of, nm_b hN, nm2 hN, nm3 hN, nm4 hN, hf]
  refine ⟨t0, by omega, by omega, by omega, by omega, by omega, by omega, by omega, f_sortOf (d := d) hR hN t0 (by omega) ?_⟩
  sorry
end
