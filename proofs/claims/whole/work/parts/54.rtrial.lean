/-! TRIALS: an opened sky -/
def clS (S : SK) : SK := fun i => if 0 ≤ i ∧ i < 218 then 0 else S i
def oS (N : NTW) (r : Int → Int) (S : SK) : Nat → SK
  | 0 => clS S
  | n + 1 => upf (oS N r S n) (192 + N 5 (n : Int)) (r (n : Int))
/-- the whole row begun -/
def opS (N : NTW) (r : Int → Int) (S : SK) : SK := oS N r S (N 0 1).toNat
theorem clS_at {S : SK} {i : Int} (h0 : 0 ≤ i) (h1 : i < 218) : clS S i = 0 := if_pos ⟨h0, h1⟩
theorem clS_z : clS (zS 0) = zS 0 := by
  funext i
  unfold clS zS
  split
  · split <;> rfl
  · rfl
/-- a row: 0 .. 999 at each start -/
def RW (N : NTW) (r : Int → Int) : Prop := ∀ s, 0 ≤ s → s < N 0 1 → 0 ≤ r s ∧ r s ≤ 999
section
variable {N : NTW} {S Z : SK} {r : Int → Int}
theorem oS_ne (hW : WN N) {i : Int} (h : i < 192 ∨ 202 ≤ i) : ∀ n : Nat, (n : Int) ≤ N 0 1 → oS N r S n i = clS S i
  | 0, _ => rfl
  | n + 1, hn => by
    have h5 := wn_st hW n (by omega) (by omega)
    have hT := wn_T hW
    show upf (oS N r S n) _ _ i = _
    rw [upf_ne (by omega), oS_ne hW h n (by omega)]
theorem oS_nst (hW : WN N) {t : Int} (h : ∀ s, 0 ≤ s → s < N 0 1 → N 5 s ≠ t) : ∀ n : Nat, (n : Int) ≤ N 0 1 → oS N r S n (192 + t) = clS S (192 + t)
  | 0, _ => rfl
  | n + 1, hn => by
    have h5 := h n (by omega) (by omega)
    show upf (oS N r S n) _ _ (192 + t) = _
    rw [upf_ne (by omega), oS_nst hW h n (by omega)]
theorem oS_fresh (hW : WN N) {s : Int} (s1 : s < N 0 1) : ∀ n : Nat, (n : Int) ≤ s → oS N r S n (192 + N 5 s) = clS S (192 + N 5 s)
  | 0, _ => rfl
  | n + 1, hn => by
    have h5 := wn_sm hW n s (by omega) (by omega) s1
    show upf (oS N r S n) _ _ (192 + N 5 s) = _
    rw [upf_ne (by omega), oS_fresh hW s1 n (by omega)]
theorem clS_nn (h : 0 ≤ S 218) : nn (clS S) := by
  intro i h0 h1
  unfold clS
  split
  · exact Int.le_refl 0
  · rw [show i = 218 by omega]; exact h
theorem oS_ok (hW : WN N) (hr : RW N r) (h : 0 ≤ S 218) : ∀ n : Nat, (n : Int) ≤ N 0 1 → OKS N (oS N r S n) (999 * (n : Int))
  | 0, _ => by
    have hT := wn_T hW
    have hw := wn_W hW
    refine ⟨clS_nn h, ?_, fun i g0 g1 => clS_at (by omega) (by omega), fun i g0 g1 => clS_at (by omega) (by omega), fun t g0 g1 _ => ?_⟩
    · show sm (clS S) 0 202 + clS S 214 + clS S 215 ≤ _
      rw [sm_0 202 fun i g0 g1 => clS_at (by omega) (by omega), clS_at (by decide) (by decide), clS_at (by decide) (by decide)]
      omega
    · show clS S (192 + t) ≤ 1
      rw [clS_at (by omega) (by omega)]
      decide
  | n + 1, hn => by
    have ih := oS_ok hW hr h n (by omega)
    have h5 := wn_st hW n (by omega) (by omega)
    have hT := wn_T hW
    have hrn := hr n (by omega) (by omega)
    have g := ih.1 (192 + N 5 n) (by omega) (by omega)
    exact (OKS_stay ih (v := r n) hrn.1 h5.1 h5.2.1 hT.2 (by omega)).mono (by omega)
theorem opS_ok (hW : WN N) (hr : RW N r) (h : 0 ≤ S 218) : OKS N (opS N r S) 2997 := by
  have hs := wn_S hW
  exact (oS_ok hW hr h _ (by omega)).mono (by omega)
theorem opS_ne (hW : WN N) {i : Int} (h : (0 ≤ i ∧ i < 192) ∨ (202 ≤ i ∧ i < 218)) : opS N r S i = 0 := by
  have hs := wn_S hW
  unfold opS
  rw [oS_ne hW (by omega) _ (by omega), clS_at (by omega) (by omega)]
theorem opS_BD (hW : WN N) : BD (opS N r S) := by
  refine ⟨?_, fun t t0 t1 => ?_⟩
  · rw [opS_ne hW (by omega), opS_ne hW (by omega)]; decide
  · rw [opS_ne hW (by omega), opS_ne hW (by omega)]; decide
theorem opS_TR (hW : WN N) : TR N (opS N r S) := by
  intro w k w0 w1 k0 k1
  have hw := wn_W hW
  have hb := wn_wb hW w w0 w1
  exact opS_ne hW (by omega)
theorem oS_cE : ∀ n : Nat, cE (oS N r S n) (oS N r Z n)
  | 0 => fun i h0 h1 => by
    show clS S i = clS Z i
    rw [clS_at h0 (by omega), clS_at h0 (by omega)]
  | n + 1 => cE_upf (oS_cE n)
theorem opS_cE : cE (opS N r S) (opS N r Z) := oS_cE _
theorem oS_congr {q : Int → Int} : ∀ n : Nat, (∀ s, 0 ≤ s → s < (n : Int) → r s = q s) → oS N r S n = oS N q S n
  | 0, _ => rfl
  | n + 1, h => by
    show upf (oS N r S n) _ _ = upf (oS N q S n) _ _
    rw [oS_congr n fun s h0 h1 => h s h0 (by omega), h n (by omega) (by omega)]
theorem fly_BD (hW : WN N) {L : Int × Int} (h : BD S) : ∀ k : Nat, BD (flyS N L S k)
  | 0 => h
  | k + 1 => beat_BD hW (fly_BD hW h k)
theorem fly_217 (hW : WN N) {L : Int × Int} {i : Int} (h : i = 212 ∨ i = 217) : ∀ k : Nat, flyS N L S k i = S i
  | 0 => rfl
  | k + 1 => by
    show beatS N L (flyS N L S k) i = _
    rw [beat_ne hW h, fly_217 hW h k]
/-- the first beat behind which all is still, of the first 200 -/
def StA (N : NTW) (S : SK) (x : Int) : Prop := (∃ k : Nat, x = (k : Int) ∧ k ≤ 200 ∧ still N (flyS N L0 S k) ∧ ∀ j : Nat, j < k → ¬ still N (flyS N L0 S j)) ∨ (x = -1 ∧ ∀ j : Nat, j ≤ 200 → ¬ still N (flyS N L0 S j))
theorem StA_one (hW : WN N) (h : cE S Z) {x y : Int} (hx : StA N S x) (hy : StA N Z y) : x = y := by
  have c : ∀ k : Nat, still N (flyS N L0 S k) → still N (flyS N L0 Z k) := fun k => still_cE hW (fly_cE hW h k)
  have c' : ∀ k : Nat, still N (flyS N L0 Z k) → still N (flyS N L0 S k) := fun k => still_cE hW (fly_cE hW h k).symm
  rcases hx with ⟨k, rfl, k1, k2, k3⟩ | ⟨rfl, k3⟩
  · rcases hy with ⟨j, rfl, j1, j2, j3⟩ | ⟨rfl, j3⟩
    · rcases Nat.lt_trichotomy k j with g | g | g
      · exact absurd (c k k2) (j3 k g)
      · rw [g]
      · exact absurd (c' j j2) (k3 j g)
    · exact absurd (c k k2) (j3 k k1)
  · rcases hy with ⟨j, rfl, j1, j2, j3⟩ | ⟨rfl, j3⟩
    · exact absurd (c' j j2) (k3 j j1)
    · rfl
end
section
variable {d : Nat} {R M : MEM} {b : Int} {N : NTW} {S F : SK} {Q : RES} {L : Int × Int}
theorem f_clearSky (hR : RM R) (hq : Q 0 SHX R (FM M (clS S) F)) : Mw d 203 [vr 364] SHX R (FM M S F) 0 0 Q := by
  refine w_clearSky hR ?_
  have e : fil (FM M S F) 392 0 218 0 = FM M (clS S) F := by
    funext q i
    unfold fil FM clS
    by_cases h1 : q = 392
    · by_cases h2 : 0 ≤ i ∧ i < 218
      · rw [if_pos ⟨h1, h2.1, h2.2⟩, if_pos h1, if_pos h2.2, if_pos h2]
      · rw [if_neg (fun z => h2 ⟨z.2.1, z.2.2⟩), if_pos h1, if_pos h1, if_neg h2]
    · rw [if_neg (fun z => h1 z.1), if_neg h1, if_neg h1]
      simp
  rw [e]
  exact hq
theorem f_clearFor (hR : RM R) (hN : NM M b N) (hW : WN N) (hq : Q 0 SHX R (FM M (opS N (M 396) S) F)) : Mw (d + 1) 226 [vr 364] SHX R (FM M S F) 0 0 Q := by
  refine Mw_of mok226 rfl fun _ _ => b_X12_clearFor_0 ?_
  have hs := wn_S hW
  have hT := wn_T hW
  have b0 := nm_b0 hN
  have b1 := nm_b1 hN
  rw [ok364]
  refine f_clearSky (d := d) hR ?_
  have loop : ∀ k : Nat, k ≤ (N 0 1).toNat → Go (d + 1) 226 Q 4 [vr 364, vi (k : Int)] [] SHX R (FM M (oS N (M 396) S k) F) 0 0 := by
    refine uptoN ?_ ?_
    · refine b_X12_clearFor_4 ?_
      rw [ok364]
      refine f_startMany (d := d) hR hN ?_
      rw [if_neg (by omega)]
      exact hq
    · intro k hk ih
      refine b_X12_clearFor_4 ?_
      rw [ok364]
      refine f_startMany (d := d) hR hN ?_
      rw [if_pos (by omega)]
      have h5 := wn_st hW k (by omega) (by omega)
      simp (disch := omega) only [ok364, fr42 hR, ak392, fr19 hR, ak375, fr46 hR, ak396, FM_all, FM_flo, FM_did, FM_fld, FM_ne2, stm_FM_all, stm_FM_flo, stm_FM_did, upf_hit, upf_ne, iadd_of, isub_of, imul_of, nm_b hN, nm5 hN]
      rw [show (k : Int) + 1 = ((k + 1 : Nat) : Int) by omega]
      exact ⟨by omega, by omega, by omega, by omega, by omega, by omega, ih⟩
  exact loop 0 (Nat.zero_le _)
theorem f_reckoned {t : Int} {k : Nat} (hR : RM R) (hN : NM M b N) (hW : WN N) (hr : RW N (M 396)) (h8 : 0 ≤ S 218) (hk : k ≤ 200) (t0 : 0 ≤ t) (t1 : t < 10) (hl : M 364 47 = L.1) (hm : M 364 48 = L.2) (hL : -1 ≤ L.1) (hq : ∀ F', Q (flyS N L (opS N (M 396) S) k (192 + t)) SHX R (FM M (flyS N L (opS N (M 396) S) k) F')) : Mw (d + 3) 227 [vr 364, vi t, vi (k : Int)] SHX R (FM M S F) 0 0 Q := by
  refine Mw_of mok227 rfl fun _ _ => b_X12_reckoned_0 ?_
  rw [ok364]
  refine f_clearFor (d := d + 1) hR hN hW ?_
  have o := opS_ok (S := S) hW hr h8
  have loop : ∀ j : Nat, j ≤ k → ∀ F', Go (d + 3) 227 Q 4 [vr 364, vi t, vi (k : Int), vi (j : Int)] [] SHX R (FM M (flyS N L (opS N (M 396) S) j) F') 0 0 := by
    refine uptoN ?_ ?_
    · intro F'
      refine b_X12_reckoned_4 ?_
      rw [if_neg (by omega)]
      simp (disch := omega) only [ok364, fr42 hR, ak392, FM_all, FM_flo, FM_did, FM_fld, FM_ne2, stm_FM_all, stm_FM_flo, stm_FM_did, upf_hit, upf_ne, iadd_of, isub_of, imul_of]
      exact ⟨by omega, by omega, hq F'⟩
    · intro j hj ih F'
      refine b_X12_reckoned_4 ?_
      rw [if_pos (by omega), ok364]
      have e6 := fly_216 (S := opS N (M 396) S) (L := L) hW j
      rw [opS_ne hW (by omega)] at e6
      refine f_beat (d := d) hR hN hW (fly_ok hW o j) (by omega) (by omega) (fly_BD hW (opS_BD hW) j) hl hm hL fun F'' => ?_
      rw [iadd_of (by omega) (by omega), show (j : Int) + 1 = ((j + 1 : Nat) : Int) by omega]
      exact ih F''
  exact loop 0 (Nat.zero_le _) F
end
