/-! THE REFERENCE'S BEAT -/
def shP (Y : SK) (w k : Int) : SK := fun i => if 12 * w ≤ i ∧ i < 12 * w + k - 1 then Y (i + 1) else Y i
theorem shP_1 (Y : SK) (w : Int) : shP Y w 1 = Y := by
  funext i
  exact if_neg (by omega)
theorem shP_at {Y : SK} {w k i : Int} (h : 12 * w + k - 1 ≤ i) : shP Y w k i = Y i := if_neg (by omega)
theorem shP_step {Y : SK} {w k : Int} (h : 1 ≤ k) : upf (shP Y w k) (12 * w + k - 1) (Y (12 * w + k)) = shP Y w (k + 1) := by
  funext i
  unfold upf shP
  by_cases h1 : i = 12 * w + k - 1
  · rw [if_pos h1, if_pos (by omega), h1, show 12 * w + k - 1 + 1 = 12 * w + k by omega]
  · rw [if_neg h1]
    by_cases h2 : 12 * w ≤ i ∧ i < 12 * w + k - 1
    · rw [if_pos h2, if_pos (by omega)]
    · rw [if_neg h2, if_neg (by omega)]
theorem shP_end {Y : SK} {w : Int} : upf (shP Y w 12) (12 * w + 12 - 1) 0 = shS Y w := by
  funext i
  unfold upf shP shS
  by_cases h1 : i = 12 * w + 12 - 1
  · rw [if_pos h1, if_neg (by omega), if_pos (by omega)]
  · rw [if_neg h1]
    by_cases h2 : 12 * w ≤ i ∧ i < 12 * w + 12 - 1
    · rw [if_pos h2, if_pos (by omega)]
    · rw [if_neg h2, if_neg (by omega), if_neg (by omega)]
theorem nwF_le {N : NTW} {S : SK} (hW : WN N) {K : Int} (h : OKS N S K) (n : Nat) (hn : (n : Int) ≤ N 0 2) {t : Int} (h0 : 0 ≤ t) (h1 : t < N 0 0) : nwF N S n t ≤ K := by
  have hf := nwF_nn h.1 hW n hn
  have a := le_sm (f := nwF N S n) (a := 0) (i := t) (N 0 0).toNat (fun i g0 g1 => hf i g0 (by omega)) h0 (by omega)
  have b := (nwS_ok hW h n hn).2.1
  have c := (nwS_ok hW h n hn).1
  have e := sm_nn (f := nwS N S n) (a := 0) 202 fun i h0 h1 => c i h0 (by omega)
  have e4 := c 214 (by decide) (by decide)
  have e5 := c 215 (by decide) (by decide)
  unfold ms at b
  omega
theorem nwS_le {N : NTW} {S : SK} (hW : WN N) {K : Int} (h : OKS N S K) (n : Nat) (hn : (n : Int) ≤ N 0 2) {i : Int} (h0 : 0 ≤ i) (h1 : i < 202) : 0 ≤ nwS N S n i ∧ nwS N S n i ≤ K := by
  have b := (nwS_ok hW h n hn).2.1
  have c := (nwS_ok hW h n hn).1
  have hf := nwF_nn h.1 hW n hn
  have a := sm_nn (f := nwF N S n) (a := 0) (N 0 0).toNat (fun i g0 g1 => hf i g0 (by omega))
  have e := ms_le c h0 (Or.inl h1)
  exact ⟨c i h0 (by omega), by omega⟩
/-- what is counted beat by beat is no more than the beats allow -/
def BD (S : SK) : Prop := S 213 ≤ 990 * S 216 ∧ ∀ t, 0 ≤ t → t < 10 → S (202 + t) ≤ S 216
theorem doT_213 {N : NTW} {S : SK} {L : Int × Int} (hW : WN N) {t f : Int} (t0 : 0 ≤ t) (t1 : t < N 0 0) : doT N L S t f 213 ≤ S 213 + 99 := by
  have hT := wn_T hW
  have hw := wn_W hW
  have e3 := wn_fi hW t t0 t1
  have e4 := wn_se hW t t0 t1
  have z : ∀ (Y : SK) (u m : Int), u = N 3 t ∨ u = N 4 t → setO N L Y u m 213 = Y 213 := fun Y u m hu => setO_ne (by decide) (by decide) fun g => by
    have := slot_rng hW g (by rcases hu with rfl | rfl <;> omega)
    rcases hu with rfl | rfl <;> omega
  have z3 : ∀ (Y : SK) (m : Int), setO N L Y (N 3 t) m 213 = Y 213 := fun Y m => z Y _ m (Or.inl rfl)
  have z4 : ∀ (Y : SK) (m : Int), setO N L Y (N 4 t) m 213 = Y 213 := fun Y m => z Y _ m (Or.inr rfl)
  unfold doT
  repeat' split
  all_goals first
    | omega
    | (rw [z3, upf_hit]; have := wn_sz hW t t0 t1 (by omega); omega)
    | (simp (disch := omega) only [z3, z4, upf_ne]; omega)
theorem doT_came {N : NTW} {S : SK} {L : Int × Int} (hW : WN N) {t f u : Int} (t0 : 0 ≤ t) (t1 : t < N 0 0) (u0 : 0 ≤ u) (u1 : u < 10) : doT N L S t f (202 + u) = S (202 + u) := by
  have hT := wn_T hW
  have hw := wn_W hW
  have e3 := wn_fi hW t t0 t1
  have e4 := wn_se hW t t0 t1
  exact doT_ne (by omega) (by omega) (fun g => by have := slot_rng hW g e3.2; omega) (fun g => by have := slot_rng hW g e4.2; omega)
theorem cameS_le {S : SK} {t f u : Int} : cameS S t f (202 + u) ≤ S (202 + u) + (if u = t then 1 else 0) := by
  unfold cameS
  split
  · by_cases h : u = t
    · rw [if_pos h, h, upf_hit]; exact Int.le_refl _
    · rw [if_neg h, upf_ne (by omega)]; omega
  · split <;> omega
theorem wkS_BD {N : NTW} {S : SK} {L : Int × Int} {F : Int → Int} (hW : WN N) : ∀ n : Nat, (n : Int) ≤ N 0 0 → wkS N L F S n 213 ≤ S 213 + 99 * (n : Int) ∧ ∀ u, 0 ≤ u → u < 10 → wkS N L F S n (202 + u) ≤ S (202 + u) + (if u < (n : Int) then 1 else 0)
  | 0, _ => ⟨by show S 213 ≤ _; omega, fun u u0 u1 => by show S (202 + u) ≤ _; split <;> omega⟩
  | n + 1, hn => by
    have hT := wn_T hW
    obtain ⟨a1, a2⟩ := wkS_BD (S := S) (L := L) (F := F) hW n (by omega)
    refine ⟨?_, fun u u0 u1 => ?_⟩
    · show doT N L (cameS _ (n : Int) _) (n : Int) _ 213 ≤ _
      have h1 := doT_213 (S := cameS (wkS N L F S n) (n : Int) (F (n : Int))) (L := L) hW (f := F (n : Int)) (t := (n : Int)) (by omega) (by omega)
      have h2 : cameS (wkS N L F S n) (n : Int) (F (n : Int)) 213 = wkS N L F S n 213 := cameS_ne (by omega)
      omega
    · show doT N L (cameS _ (n : Int) _) (n : Int) _ (202 + u) ≤ _
      rw [doT_came hW (by omega) (by omega) u0 u1]
      have h1 := cameS_le (S := wkS N L F S n) (t := (n : Int)) (f := F (n : Int)) (u := u)
      have h2 := a2 u u0 u1
      by_cases c1 : u = (n : Int)
      · rw [if_pos c1] at h1
        rw [if_neg (by omega)] at h2
        rw [if_pos (by omega)]
        omega
      · rw [if_neg c1] at h1
        by_cases c2 : u < (n : Int)
        · rw [if_pos c2] at h2
          rw [if_pos (by omega)]
          omega
        · rw [if_neg c2] at h2
          rw [if_neg (by omega)]
          omega
theorem beat_BD {N : NTW} {S : SK} {L : Int × Int} (hW : WN N) (h : BD S) : BD (beatS N L S) := by
  have hT := wn_T hW
  obtain ⟨a1, a2⟩ := wkS_BD (S := nearS N S) (L := L) (F := flkS N S) hW (N 0 0).toNat (by omega)
  have e := beat_216 (S := S) (L := L) hW
  unfold BD
  rw [e]
  have n3 : nearS N S 213 = S 213 := near_hi hW (by omega) (by decide)
  refine ⟨?_, fun u u0 u1 => ?_⟩
  · have := h.1
    show wkS N L (flkS N S) (nearS N S) (N 0 0).toNat 213 ≤ _
    omega
  · have g := a2 u u0 u1
    have g2 := h.2 u u0 u1
    have g3 : nearS N S (202 + u) = S (202 + u) := near_hi hW (by omega) (by omega)
    show wkS N L (flkS N S) (nearS N S) (N 0 0).toNat (202 + u) ≤ _
    split at g <;> omega
section
variable {d : Nat} {R M : MEM} {b : Int} {N : NTW} {S F : SK} {Q : RES} {L : Int × Int}
theorem FM_b (hN : NM M b N) : FM M S F 364 36 = b := by rw [FM_fld (by decide)]; exact nm_b hN
theorem f_towerMany (hR : RM R) (hN : NM M b N) (hq : Q (N 0 0) SHX R (FM M S F)) : Mw d 194 [vr 364] SHX R (FM M S F) 0 0 Q := by
  refine w_towerMany hR (FM_b hN) (nm_b0 hN) (nm_b1 hN) ?_
  rwa [FM_ne2 (by decide) (by decide) (by decide), nm_T hN]
theorem f_wayMany (hR : RM R) (hN : NM M b N) (hq : Q (N 0 2) SHX R (FM M S F)) : Mw d 195 [vr 364] SHX R (FM M S F) 0 0 Q := by
  refine w_wayMany hR (FM_b hN) (nm_b0 hN) (nm_b1 hN) ?_
  rwa [FM_ne2 (by decide) (by decide) (by decide), nm_W hN]
theorem f_startMany (hR : RM R) (hN : NM M b N) (hq : Q (N 0 1) SHX R (FM M S F)) : Mw d 196 [vr 364] SHX R (FM M S F) 0 0 Q := by
  refine w_startMany hR (FM_b hN) (nm_b0 hN) (nm_b1 hN) ?_
  rwa [FM_ne2 (by decide) (by decide) (by decide), nm_S hN]
theorem f_sortOf {t : Int} (hR : RM R) (hN : NM M b N) (h0 : 0 ≤ t) (h1 : t < 10) (hq : Q (N 1 t) SHX R (FM M S F)) : Mw d 197 [vr 364, vi t] SHX R (FM M S F) 0 0 Q := by
  refine w_sortOf hR (FM_b hN) (nm_b0 hN) (nm_b1 hN) h0 h1 ?_
  rwa [FM_ne2 (by decide) (by decide) (by decide), nm1 hN]
theorem f_near {K : Int} (hR : RM R) (hN : NM M b N) (hW : WN N) (hS : OKS N S K) (hK : K ≤ 1000000000) (hq : ∀ F', (∀ t, 0 ≤ t → t < N 0 0 → F' t = nwF N S (N 0 2).toNat t) → Q 0 SHX R (FM M (nwS N S (N 0 2).toNat) F')) : Mw (d + 1) 207 [vr 364] SHX R (FM M S F) 0 0 Q := by
  refine Mw_of mok207 rfl fun _ _ => b_X12_comeNearer_0 ?_
  have hT := wn_T hW
  have hw := wn_W hW
  have b0 := nm_b0 hN
  have b1 := nm_b1 hN
  have l64 : ∀ (n : Nat) (Y F' : SK), (n : Int) < N 0 2 → Go (d + 1) 207 Q 37 [vr 364, vi ((n : Int) + 1), vn] [] SHX R (FM M (shS Y n) F') 0 0 → Go (d + 1) 207 Q 64 [vr 364, vi (n : Int), vi 1] [] SHX R (FM M Y F') 0 0 := by
    intro n Y F' hn next
    have key := upfrom (L := 1) (N := 12) (G := fun k => Go (d + 1) 207 Q 64 [vr 364, vi (n : Int), vi k] [] SHX R (FM M (shP Y n k) F') 0 0) ?_ ?_ 1 (by omega) (by omega)
    · rwa [shP_1] at key
    · refine b_X12_comeNearer_64 ?_
      rw [if_neg (by decide)]
      simp (disch := omega) only [ok364, fr45 hR, ak395, fr42 hR, ak392, fr21 hR, ak377, FM_all, FM_flo, FM_did, FM_fld, FM_ne2, stm_FM_all, stm_FM_flo, stm_FM_did, upf_hit, upf_ne, iadd_of, isub_of, imul_of]
      rw [shP_end]
      exact ⟨by omega, by omega, next⟩
    · intro k k0 k1 ih
      refine b_X12_comeNearer_64 ?_
      rw [if_pos k1]
      simp (disch := omega) only [ok364, fr45 hR, ak395, fr42 hR, ak392, fr21 hR, ak377, FM_all, FM_flo, FM_did, FM_fld, FM_ne2, stm_FM_all, stm_FM_flo, stm_FM_did, upf_hit, upf_ne, iadd_of, isub_of, imul_of, shP_at]
      rw [shP_step k0]
      exact ⟨by omega, by omega, by omega, by omega, ih⟩
  have l37 : ∀ n : Nat, n ≤ (N 0 2).toNat → ∀ F', (∀ t, 0 ≤ t → t < N 0 0 → F' t = nwF N S n t) → Go (d + 1) 207 Q 37 [vr 364, vi (n : Int), vn] [] SHX R (FM M (nwS N S n) F') 0 0 := by
    refine uptoN ?_ ?_
    · intro F' hF
      refine b_X12_comeNearer_37 ?_
      rw [ok364]
      refine f_wayMany (d := d) hR hN ?_
      rw [if_neg (by omega)]
      exact hq F' hF
    · intro n hn ih F' hF
      refine b_X12_comeNearer_37 ?_
      rw [ok364]
      refine f_wayMany (d := d) hR hN ?_
      rw [if_pos (by omega)]
      have h7 := wn_wt hW n (by omega) (by omega)
      have g1 := nwF_nn (N := N) hS.1 hW n (by omega) _ h7.1 h7.2
      have g2 := nwF_le hW hS n (by omega) h7.1 h7.2
      have g3 := nwS_le hW hS n (by omega) (i := 12 * (n : Int)) (by omega) (by omega)
      have g4 := hF _ h7.1 h7.2
      simp (disch := omega) only [ok364, fr45 hR, ak395, fr42 hR, ak392, fr21 hR, ak377, FM_all, FM_flo, FM_did, FM_fld, FM_ne2, stm_FM_all, stm_FM_flo, stm_FM_did, upf_hit, upf_ne, iadd_of, isub_of, imul_of, nm_b hN, nm7 hN]
      refine ⟨by omega, by omega, by omega, by omega, by omega, by omega, by omega, by omega, l64 n _ _ (by omega) ?_⟩
      refine ih _ fun t t0 t1 => ?_
      show upf F' _ _ t = upf (nwF N S n) _ _ t
      rw [g4]
      unfold upf
      split
      · rfl
      · exact hF t t0 t1
  have l2 : ∀ n : Nat, n ≤ (N 0 0).toNat → ∀ F', (∀ t, 0 ≤ t → t < (n : Int) → F' t = stF N S t) → Go (d + 1) 207 Q 2 [vr 364, vi (n : Int), vn] [] SHX R (FM M (stS N S n) F') 0 0 := by
    refine uptoN ?_ ?_
    · intro F' hF
      refine b_X12_comeNearer_2 ?_
      rw [ok364]
      refine f_towerMany (d := d) hR hN ?_
      rw [if_neg (by omega)]
      exact l37 0 (Nat.zero_le _) F' fun t t0 t1 => hF t t0 (by omega)
    · intro n hn ih F' hF
      refine b_X12_comeNearer_2 ?_
      rw [ok364]
      refine f_towerMany (d := d) hR hN ?_
      rw [if_pos (by omega)]
      simp (disch := omega) only [ok364, fr45 hR, ak395, fr42 hR, ak392, fr21 hR, ak377, FM_all, FM_flo, FM_did, FM_fld, FM_ne2, stm_FM_all, stm_FM_flo, stm_FM_did, upf_hit, upf_ne, iadd_of, isub_of, imul_of]
      refine ⟨by omega, by omega, f_sortOf (d := d) hR hN (by omega) (by omega) ?_⟩
      have eS : stS N S (n + 1) = if N 1 (n : Int) = 0 then upf (stS N S n) (192 + (n : Int)) 0 else stS N S n := rfl
      have eF : ∀ v : Int, stF N S (n : Int) = v → ∀ t, 0 ≤ t → t < ((n + 1 : Nat) : Int) → upf F' n v t = stF N S t := fun v hv t t0 t1 => by
        by_cases ht : t = (n : Int)
        · rw [upf_eq ht, ht, hv]
        · rw [upf_ne ht]; exact hF t t0 (by omega)
      have e1 : (n : Int) + 1 = ((n + 1 : Nat) : Int) := by omega
      by_cases hs : N 1 (n : Int) = 0
      · rw [if_pos hs] at eS ⊢
        simp (disch := omega) only [ok364, fr45 hR, ak395, fr42 hR, ak392, fr21 hR, ak377, FM_all, FM_flo, FM_did, FM_fld, FM_ne2, stm_FM_all, stm_FM_flo, stm_FM_did, upf_hit, upf_ne, iadd_of, isub_of, imul_of, upf_upf, stS_ge]
        rw [e1]
        have := ih _ (eF (S (192 + (n : Int))) (if_pos hs))
        rw [eS] at this
        exact ⟨by omega, by omega, by omega, by omega, by omega, by omega, this⟩
      · rw [if_neg hs] at eS ⊢
        rw [e1]
        have := ih _ (eF 0 (if_neg hs))
        rwa [eS] at this
  exact l2 0 (Nat.zero_le _) F fun t t0 t1 => by omega
theorem f_does {t f K : Int} (hR : RM R) (hN : NM M b N) (hW : WN N) (hS : OKS N S K) (hK : K + f + 99 ≤ 1000000000) (t0 : 0 ≤ t) (t1 : t < N 0 0) (f0 : 0 ≤ f) (hf : F t = f) (h13 : S 213 ≤ 1000000000) (hl : M 364 47 = L.1) (hm : M 364 48 = L.2) (hL : -1 ≤ L.1) (hq : Q 0 SHX R (FM M (doT N L S t f) F)) : Mw (d + 1) 208 [vr 364, vi t] SHX R (FM M S F) 0 0 Q := by
  refine Mw_of mok208 rfl fun _ _ => b2_X12_does_0 ?_
  have hT := wn_T hW
  have b0 := nm_b0 hN
  have b1 := nm_b1 hN
  have e3 := wn_fi hW t t0 t1
  have e4 := wn_se hW t t0 t1
  have s1 := hS.1 (192 + t) (by omega) (by omega)
  have s2 := ms_le hS.1 (i := 192 + t) (by omega) (by omega)
  have s3 := hS.2.1
  have s4 := hS.1 214 (by decide) (by decide)
  have s4' := ms_le hS.1 (i := 214) (by decide) (by decide)
  have s5 := hS.1 215 (by decide) (by decide)
  have s5' := ms_le hS.1 (i := 215) (by decide) (by decide)
  have so : ∀ {d : Nat} {w n K : Int} {S : SK}, OKS N S K → K + n ≤ 2000000000 → 0 ≤ n → (w = N 3 t ∨ w = N 4 t) → ∀ {Q : RES}, Q 0 SHX R (FM M (setO N L S w n) F) → Mw d 206 [vr 364, vi w, vi n] SHX R (FM M S F) 0 0 Q := fun {d w n K S} g1 g2 g3 g4 {Q} g5 => w_setOut hR hN hW g1 g2 g3 (by rcases g4 with rfl | rfl <;> omega) (by rcases g4 with rfl | rfl <;> omega) hl hm hL g5
  simp (disch := omega) only [ok364, fr45 hR, ak395, fr18 hR, ak374, fr23 hR, ak379, fr24 hR, ak380, fr42 hR, ak392, FM_all, FM_flo, FM_did, FM_fld, FM_ne2, stm_FM_all, stm_FM_flo, stm_FM_did, upf_hit, upf_ne, iadd_of, isub_of, imul_of, nm_b hN, nm2 hN, nm3 hN, nm4 hN, hf]
  refine ⟨t0, by omega, by omega, by omega, by omega, by omega, by omega, by omega, b2_X12_does_35 ?_⟩
  rw [ok364]
  refine f_sortOf (d := d) hR hN t0 (by omega) ?_
  by_cases c5 : N 1 t = 5
  · have ez := wn_sz hW t t0 t1 (by omega)
    rw [if_pos c5]
    simp (disch := omega) only [ok364, fr45 hR, ak395, fr18 hR, ak374, fr23 hR, ak379, fr24 hR, ak380, fr42 hR, ak392, FM_all, FM_flo, FM_did, FM_fld, FM_ne2, stm_FM_all, stm_FM_flo, stm_FM_did, upf_hit, upf_ne, iadd_of, isub_of, imul_of, upf_upf]
    refine ⟨by omega, by omega, by omega, by omega, by omega, by omega, ?_⟩
    unfold doT at hq
    rw [if_pos c5] at hq
    by_cases c : S (192 + t) + f < N 2 t
    · rw [if_pos c] at hq ⊢
      exact hq
    · rw [if_neg c] at hq ⊢
      refine ⟨by omega, by omega, by omega, by omega, so (OKS_stay hS (by omega) t0 t1 hT.2 (by omega)) (by omega) (by omega) (Or.inl rfl) hq⟩
  · rw [if_neg c5]
    refine b2_X12_does_74 ?_
    unfold doT at hq
    rw [if_neg c5] at hq
    by_cases cf : f = 0
    · rw [if_pos cf] at hq ⊢
      exact hq
    rw [if_neg cf] at hq ⊢
    rw [ok364]
    refine f_sortOf (d := d) hR hN t0 (by omega) ?_
    by_cases c2 : N 1 t = 2
    · rw [if_pos c2] at hq ⊢
      simp (disch := omega) only [ok364, fr45 hR, ak395, fr18 hR, ak374, fr23 hR, ak379, fr24 hR, ak380, fr42 hR, ak392, FM_all, FM_flo, FM_did, FM_fld, FM_ne2, stm_FM_all, stm_FM_flo, stm_FM_did, upf_hit, upf_ne, iadd_of, isub_of, imul_of, idiv_of, irem_of]
      refine ⟨by omega, by omega, by decide, by omega, by omega, by decide, so (OKS_stay (v := (f + S (192 + t)) % 2) hS (by omega) t0 t1 hT.2 (by omega)) (by omega) (by omega) (Or.inl rfl) ?_⟩
      simp (disch := omega) only [ok364, fr45 hR, ak395, fr18 hR, ak374, fr23 hR, ak379, fr24 hR, ak380, fr42 hR, ak392]
      exact ⟨by decide, so (setO_ok hW (OKS_stay (v := (f + S (192 + t)) % 2) hS (by omega) t0 t1 hT.2 (by omega)) (by omega) e3.1 e3.2) (by omega) (by omega) (Or.inr rfl) hq⟩
    rw [if_neg c2] at hq ⊢
    by_cases c3 : N 1 t = 3
    · rw [if_pos c3] at hq ⊢
      simp (disch := omega) only [ok364, fr45 hR, ak395, fr18 hR, ak374, fr23 hR, ak379, fr24 hR, ak380, fr42 hR, ak392, irem_of]
      refine ⟨by decide, ?_⟩
      by_cases co : f % 2 = 1
      · rw [if_pos co] at hq ⊢
        exact so hS (by omega) f0 (Or.inl rfl) hq
      · rw [if_neg co] at hq ⊢
        exact so hS (by omega) f0 (Or.inr rfl) hq
    rw [if_neg c3] at hq ⊢
    by_cases c4 : N 1 t = 4
    · rw [if_pos c4] at hq ⊢
      simp (disch := omega) only [ok364, fr45 hR, ak395, fr18 hR, ak374, fr23 hR, ak379, fr24 hR, ak380, fr42 hR, ak392, FM_all, FM_flo, FM_did, FM_fld, FM_ne2, stm_FM_all, stm_FM_flo, stm_FM_did, upf_hit, upf_ne, iadd_of, isub_of, imul_of]
      exact ⟨by omega, by omega, by omega, by omega, hq⟩
    rw [if_neg c4, if_neg c5]
    rw [if_neg c4] at hq
    by_cases c6 : N 1 t = 6
    · have ez := wn_sz hW t t0 t1 (by omega)
      rw [if_pos c6] at hq ⊢
      by_cases cm : f < N 2 t
      · rw [if_pos cm] at hq ⊢
        simp (disch := omega) only [ok364, fr45 hR, ak395, fr18 hR, ak374, fr23 hR, ak379, fr24 hR, ak380, fr42 hR, ak392, FM_all, FM_flo, FM_did, FM_fld, FM_ne2, stm_FM_all, stm_FM_flo, stm_FM_did, upf_hit, upf_ne, iadd_of, isub_of, imul_of]
        exact ⟨by decide, by decide, by decide, by decide, so (OKS_taken hS f0 hT.2) (by omega) (by omega) (Or.inl rfl) hq⟩
      · rw [if_neg cm] at hq ⊢
        simp (disch := omega) only [ok364, fr45 hR, ak395, fr18 hR, ak374, fr23 hR, ak379, fr24 hR, ak380, fr42 hR, ak392, FM_all, FM_flo, FM_did, FM_fld, FM_ne2, stm_FM_all, stm_FM_flo, stm_FM_did, upf_hit, upf_ne, iadd_of, isub_of, imul_of]
        exact ⟨by decide, by decide, by decide, by decide, so (OKS_taken (v := N 2 t) hS (by omega) hT.2) (by omega) (by omega) (Or.inl rfl) hq⟩
    rw [if_neg c6] at hq ⊢
    by_cases c7 : N 1 t = 7
    · have ez := wn_sz hW t t0 t1 (by omega)
      have s6 := hS.1 213 (by decide) (by decide)
      rw [if_pos c7] at hq ⊢
      simp (disch := omega) only [ok364, fr45 hR, ak395, fr18 hR, ak374, fr23 hR, ak379, fr24 hR, ak380, fr42 hR, ak392, FM_all, FM_flo, FM_did, FM_fld, FM_ne2, stm_FM_all, stm_FM_flo, stm_FM_did, upf_hit, upf_ne, iadd_of, isub_of, imul_of]
      exact ⟨by decide, by decide, by decide, by decide, so (OKS_out hS (i := 213) (v := S 213 + N 2 t) (by omega) (by decide) (by decide) (by decide) hT.2) (by omega) (by omega) (Or.inl rfl) hq⟩
    rw [if_neg c7] at hq ⊢
    by_cases c8 : N 1 t = 8
    · have ez := wn_sz hW t t0 t1 (by omega)
      have g1 := Int.emod_nonneg f (show N 2 t ≠ 0 by omega)
      have g2 : f % N 2 t ≤ f := by
        by_cases hlt : f < N 2 t
        · rw [Int.emod_eq_of_lt f0 hlt]; exact Int.le_refl f
        · have := Int.emod_lt_of_pos f (show 0 < N 2 t by omega)
          omega
      rw [if_pos c8] at hq ⊢
      simp (disch := omega) only [ok364, fr45 hR, ak395, fr18 hR, ak374, fr23 hR, ak379, fr24 hR, ak380, fr42 hR, ak392, FM_all, FM_flo, FM_did, FM_fld, FM_ne2, stm_FM_all, stm_FM_flo, stm_FM_did, upf_hit, upf_ne, iadd_of, isub_of, imul_of, irem_of]
      exact ⟨by decide, by decide, by omega, by decide, by decide, by omega, so (OKS_lost hS g1 hT.2) (by omega) (by omega) (Or.inl rfl) hq⟩
    rw [if_neg c8] at hq ⊢
    rw [ok364]
    exact so hS (by omega) f0 (Or.inl rfl) hq
theorem f_beat {K : Int} (hR : RM R) (hN : NM M b N) (hW : WN N) (hS : OKS N S K) (hK : K ≤ 400000000) (hB : S 216 ≤ 100000) (hC : BD S) (hl : M 364 47 = L.1) (hm : M 364 48 = L.2) (hL : -1 ≤ L.1) (hq : ∀ F', Q 0 SHX R (FM M (beatS N L S) F')) : Mw (d + 2) 209 [vr 364] SHX R (FM M S F) 0 0 Q := by
  refine Mw_of mok209 rfl fun _ _ => b_X12_beat_0 ?_
  have hT := wn_T hW
  have hw := wn_W hW
  have s6 := hS.1 216 (by decide) (by decide)
  simp (disch := omega) only [ok364, fr42 hR, ak392, fr45 hR, ak395, FM_all, FM_flo, FM_did, FM_fld, FM_ne2, stm_FM_all, stm_FM_flo, stm_FM_did, upf_hit, upf_ne, iadd_of, isub_of, imul_of]
  refine ⟨by decide, by decide, by decide, by decide, f_near (d := d) hR hN hW (oneM_ok hS hT.2) (by omega) fun F' hF => ?_⟩
  have hfl : ∀ t, 0 ≤ t → t < N 0 0 → F' t = flkS N S t := hF
  have loop : ∀ n : Nat, n ≤ (N 0 0).toNat → Go (d + 2) 209 Q 12 [vr 364, vi (n : Int)] [] SHX R (FM M (wkS N L (flkS N S) (nearS N S) n) F') 0 0 := by
    refine uptoN ?_ ?_
    · refine b_X12_beat_12 ?_
      rw [ok364]
      refine f_towerMany (d := d + 1) hR hN ?_
      rw [if_neg (by omega)]
      exact hq F'
    · intro n hn ih
      refine b_X12_beat_12 ?_
      rw [ok364]
      refine f_towerMany (d := d + 1) hR hN ?_
      rw [if_pos (by omega)]
      have g1 := flk_nn hW hS n (by omega) (by omega)
      have g2 := flk_le hW hS (t := (n : Int)) (by omega) (by omega)
      have g3 := step_ok (L := L) hW hS n (by omega)
      have g4 := hfl n (by omega) (by omega)
      obtain ⟨k1, k2⟩ := wkS_BD (S := nearS N S) (L := L) (F := flkS N S) hW n (by omega)
      have k3 := k2 n (by omega) (by omega)
      have k4 : nearS N S 213 = S 213 := near_hi hW (by omega) (by decide)
      have k5 : nearS N S (202 + (n : Int)) = S (202 + (n : Int)) := near_hi hW (by omega) (by omega)
      have k6 := hC.1
      have k7 := hC.2 n (by omega) (by omega)
      rw [if_neg (by omega)] at k3
      have g5 := g3.1 (202 + (n : Int)) (by omega) (by omega)
      have e1 : (n : Int) + 1 = ((n + 1 : Nat) : Int) := by omega
      have ih' : Go (d + 2) 209 Q 12 [vr 364, vi ((n : Int) + 1)] [] SHX R (FM M (doT N L (cameS (wkS N L (flkS N S) (nearS N S) n) n (flkS N S n)) n (flkS N S n)) F') 0 0 := by
        rw [e1]
        exact ih
      by_cases hf : 0 < flkS N S (n : Int)
      · simp (disch := omega) only [ok364, fr42 hR, ak392, fr45 hR, ak395, FM_all, FM_flo, FM_did, FM_fld, FM_ne2, stm_FM_all, stm_FM_flo, stm_FM_did, upf_hit, upf_ne, iadd_of, isub_of, imul_of, g4, if_pos hf]
        refine ⟨by omega, by omega, by omega, by omega, by omega, by omega, ?_⟩
        have ec : cameS (wkS N L (flkS N S) (nearS N S) n) n (flkS N S n) = upf (wkS N L (flkS N S) (nearS N S) n) (202 + (n : Int)) (wkS N L (flkS N S) (nearS N S) n (202 + (n : Int)) + 1) := if_pos hf
        have oc := cameS_ok (t := (n : Int)) (f := flkS N S (n : Int)) g3 (by omega) (by omega) hT.2
        rw [ec] at oc ih'
        refine f_does (d := d) hR hN hW oc (by omega) (by omega) (by omega) g1 g4 (by rw [upf_ne (by omega)]; omega) hl hm hL ?_
        exact ih'
      · simp (disch := omega) only [ok364, fr42 hR, ak392, fr45 hR, ak395, FM_all, FM_flo, FM_did, FM_fld, FM_ne2, stm_FM_all, stm_FM_flo, stm_FM_did, upf_hit, upf_ne, iadd_of, isub_of, imul_of, g4, if_neg hf]
        refine ⟨by omega, by omega, ?_⟩
        have ec : cameS (wkS N L (flkS N S) (nearS N S) n) n (flkS N S n) = wkS N L (flkS N S) (nearS N S) n := if_neg hf
        rw [ec] at ih'
        refine f_does (d := d) hR hN hW g3 (by omega) (by omega) (by omega) g1 g4 (by omega) hl hm hL ?_
        exact ih'
  exact loop 0 (Nat.zero_le _)
end
