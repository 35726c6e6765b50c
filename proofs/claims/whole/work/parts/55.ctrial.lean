/-! THE CLASS'S TRIALS -/
theorem SKY_rows {δ a : Int} {A M : MEM} {S : SK} (h : SKY δ A S) : SKY δ (fun r => CS M a A (a + r)) S := by
  obtain ⟨a1, a2, a3, a4, a5, a6, a7, a8, a9, a10⟩ := h
  have e : ∀ r, 0 ≤ r → r < 5 → CS M a A (a + r) = A r := fun r h0 h1 => CS_k h0 h1
  refine ⟨fun w l w0 w1 l0 l1 => ?_, fun t t0 t1 => ?_, fun t t0 t1 => ?_, ?_, ?_, ?_, ?_, ?_, ?_, ?_⟩
  all_goals dsimp only
  all_goals rw [e _ (by decide) (by decide)]
  all_goals first | exact a1 w l w0 w1 l0 l1 | exact a2 t t0 t1 | exact a3 t t0 t1 | assumption
theorem NC_of {M M' : MEM} {n : Int} {N : NTW} (h : NC M n N) (e : ∀ q, n ≤ q → q ≤ n + 12 → M' q = M q) : NC M' n N := by
  obtain ⟨a1, a2, a3, a4, a5, a6, b1, b2, b3, b4, b5, b6, b7, b8, b9⟩ := h
  refine ⟨?_, ?_, ?_, ?_, ?_, ?_, ?_, ?_, ?_, ?_, ?_, ?_, ?_, ?_, ?_⟩
  · rw [e _ (by omega) (by omega)]; exact a1
  · rw [e _ (by omega) (by omega)]; exact a2
  · rw [e _ (by omega) (by omega)]; exact a3
  · rw [e _ (by omega) (by omega)]; exact a4
  · rw [e _ (by omega) (by omega)]; exact a5
  · rw [e _ (by omega) (by omega)]; exact a6
  all_goals intro t t0 t1
  all_goals rw [e _ (by omega) (by omega)]
  · exact b1 t t0 t1
  · exact b2 t t0 t1
  · exact b3 t t0 t1
  · exact b4 t t0 t1
  · exact b5 t t0 t1
  · exact b6 t t0 t1
  · exact b7 t t0 t1
  · exact b8 t t0 t1
  · exact b9 t t0 t1
theorem NC_CS {M A : MEM} {n a : Int} {N : NTW} (h : NC M n N) (hs : n + 12 < a) : NC (CS M a A) n N := NC_of h fun q h0 h1 => CS_ne (by omega)
theorem OKS_lz {N : NTW} {S : SK} {K w : Int} (hW : WN N) (h : OKS N S K) (h0 : 0 ≤ w) (h1 : w < N 0 2) (hp : 0 < S (slt N w)) : OKS N (upf (upf S 214 (S 214 + 1)) (slt N w) (S (slt N w) - 1)) K := by
  have hs := slt_rng hW h0 h1
  have hT := wn_T hW
  obtain ⟨a1, a2, a3, a4, a5⟩ := OKS_lost (v := 1) h (by decide) hT.2
  have hw := wn_W hW
  refine ⟨nn_upf a1 (by omega), by rw [ms_in (by omega) (by omega), upf_ne (by omega)]; omega, fun i g0 g1 => ?_, fun i g0 g1 => ?_, fun t g0 g1 g2 => ?_⟩
  · rw [upf_ne (by omega)]; exact a3 i g0 g1
  · rw [upf_ne (by omega)]; exact a4 i g0 g1
  · rw [upf_ne (by omega)]; exact a5 t g0 g1 g2
theorem lz_cE {N : NTW} {S : SK} {w : Int} (h : slt N w < 192) : cE (upf (upf S 214 (S 214 + 1)) (slt N w) (S (slt N w) - 1)) (lzS N S w) := by
  intro i h0 h1
  unfold lzS
  by_cases hi : i = slt N w
  · rw [upf_eq hi, upf_eq hi]
  · rw [upf_ne hi, upf_ne hi, upf_ne (by omega)]
/-- by how much less is reckoned, if one that set out on w in beat b is lost -/
def lossV (N : NTW) (Y : SK) (w t : Int) (b k : Nat) : Int := if 0 < flyS N L0 Y b (slt N w) then flyS N L0 Y k (192 + t) - flyS N L0 (lzS N (flyS N L0 Y b) w) (k - b) (192 + t) else 0
section
variable {d : Nat} {R M A : MEM} {a a2 n ρ : Int} {N : NTW} {Q : RES}
theorem c_open (h0 : R 261 0 = a) (hS : SR R a) (hN : NR R n) (hC : NC M n N) (hW : WN N) (hsep : n + 12 < a) (hρ : shk SHX ρ = (100, 3)) (hρ2 : ρ < a ∨ a + 5 ≤ ρ) (hr : RW N (M ρ)) (hq : ∀ A' δ, SKY δ A' (opS N (M ρ) (zS 0)) → Q 0 SHX R (CS M a A')) : Mw (d + 1) 96 [vr 261, vr n, vr ρ] SHX R (CS M a A) 0 0 Q := by
  refine Mw_of mok96 rfl fun _ _ => b_X10_open_0 ?_
  have hs := wn_S hW
  have hT := wn_T hW
  rw [ok261, h0, okS hS]
  refine c_clear (d := d) hS fun A1 hA1 => ?_
  have loop : ∀ k : Nat, k ≤ (N 0 1).toNat → ∀ A' δ, 0 ≤ δ → δ ≤ 999 * (k : Int) → SKY δ A' (oS N (M ρ) (zS 0) k) → Go (d + 1) 96 Q 6 [vr 261, vr n, vr ρ, vi (k : Int)] [] SHX R (CS M a A') 0 0 := by
    refine uptoN ?_ ?_
    · intro A' δ d0 d1 hA
      refine b_X10_open_6 ?_
      rw [okN hN, CS_n (show n < a by omega), nc_S hC, if_neg (by omega)]
      exact hq A' δ hA
    · intro k hk ih A' δ d0 d1 hA
      refine b_X10_open_6 ?_
      have h5 := wn_st hW k (by omega) (by omega)
      have n5 : M (n + 5) k = N 5 k := nc5 hC k (by omega) (by omega)
      have hrk := hr k (by omega) (by omega)
      have o := oS_ok (S := zS 0) hW hr (by rw [zS_ne (by decide)]; decide) k (by omega)
      have ef : oS N (M ρ) (zS 0) k (192 + N 5 k) = 0 := by
        rw [oS_fresh hW (by omega) k (by omega), clS_at (by omega) (by omega)]
      have e2 : oS N (M ρ) (zS 0) k 212 = 0 := by rw [oS_ne hW (by omega) k (by omega), clS_at (by omega) (by omega)]
      rw [okN hN, CS_n (show n < a by omega), nc_S hC, if_pos (by omega), ok261, okN hN, nr6 hN, aN5 hN, ak_mk hρ, h0, okS hS, CS_n (show n + 5 < a by omega), n5, CS_ne hρ2]
      refine ⟨by omega, by omega, by omega, by omega, c_settle (d := d) hS hA o (by omega) h5.1 (by omega) hrk.1 (by omega) (by omega) fun A2 hA2 => ?_⟩
      rw [ef, Int.zero_add] at hA2
      rw [iadd_of (by omega) (by omega), show (k : Int) + 1 = ((k + 1 : Nat) : Int) by omega]
      exact ih A2 _ (by omega) (by omega) hA2
  refine loop 0 (Nat.zero_le _) A1 0 (by decide) (by decide) ?_
  show SKY 0 A1 (clS (zS 0))
  rw [clS_z]
  exact hA1
theorem zop_ok {r : Int → Int} (hW : WN N) (hr : RW N r) : OKS N (opS N r (zS 0)) 2997 := opS_ok hW hr (by rw [zS_ne (by decide)]; decide)
theorem fly_at (hW : WN N) {S : SK} {K : Int} (hO : OKS N S K) {j k : Nat} (h : j ≤ k) (hs : still N (flyS N L0 S j)) : cE (flyS N L0 S k) (flyS N L0 S j) := by
  obtain ⟨u, rfl⟩ := Nat.le.dest h
  rw [fly_add]
  exact fly_still hW (fly_ok hW hO j) hs u
theorem c_reckoned {t : Int} {k : Nat} (h0 : R 261 0 = a) (hS : SR R a) (hN : NR R n) (hC : NC M n N) (hW : WN N) (hsep : n + 12 < a) (hρ : shk SHX ρ = (100, 3)) (hρ2 : ρ < a ∨ a + 5 ≤ ρ) (hr : RW N (M ρ)) (hk : k ≤ 200) (t0 : 0 ≤ t) (t1 : t < 10) (hq : ∀ A', Q (flyS N L0 (opS N (M ρ) (zS 0)) k (192 + t)) SHX R (CS M a A')) : Mw (d + 3) 97 [vr 261, vr n, vr ρ, vi t, vi (k : Int)] SHX R (CS M a A) 0 0 Q := by
  refine Mw_of mok97 rfl fun _ _ => b_X10_reckoned_0 ?_
  have o := zop_ok (N := N) hW hr
  rw [ok261]
  refine c_open (d := d + 1) h0 hS hN hC hW hsep hρ hρ2 hr fun A1 δ1 hA1 => ?_
  have loop : ∀ j : Nat, j ≤ k → ∀ A' δ, SKY δ A' (flyS N L0 (opS N (M ρ) (zS 0)) j) → Go (d + 3) 97 Q 6 [vr 261, vr n, vn, vi t, vi (k : Int), vi (j : Int)] [] SHX R (CS M a A') 0 0 := by
    refine uptoN ?_ ?_
    · intro A' δ hA
      refine b_X10_reckoned_6 ?_
      rw [if_neg (by omega), ok261, h0, okS hS, sr2 hS, aS3 hS, CS_3, sky_th hA t t0 t1]
      exact ⟨t0, t1, hq A'⟩
    · intro j hj ih A' δ hA
      refine b_X10_reckoned_6 ?_
      have oj := fly_ok (L := L0) hW o j
      have e6 := fly_216 (S := opS N (M ρ) (zS 0)) (L := L0) hW j
      rw [opS_ne hW (by omega)] at e6
      rw [if_pos (by omega), ok261, h0, okS hS]
      refine c_isStill (d := d + 2) hS hN hC hW hsep hA oj (fun st _ => ?_) (fun st _ => ?_)
      · rw [if_neg (by decide), ok261, h0, okS hS, sr2 hS, aS3 hS, CS_3, sky_th hA t t0 t1]
        have := fly_at hW o (show j ≤ k by omega) st (192 + t) (by omega) (by omega)
        rw [← this]
        exact ⟨t0, t1, hq A'⟩
      · rw [if_pos rfl, ok261, h0, okS hS]
        refine c_pass (d := d) hS hN hC hW hsep hA oj (by omega) (fly_BD hW (opS_BD hW) j) (by omega) fun A2 hA2 => ?_
        rw [iadd_of (by omega) (by omega), show (j : Int) + 1 = ((j + 1 : Nat) : Int) by omega]
        exact ih A2 δ hA2
  exact loop 0 (Nat.zero_le _) A1 δ1 hA1
theorem c_stillAt (h0 : R 261 0 = a) (hS : SR R a) (hN : NR R n) (hC : NC M n N) (hW : WN N) (hsep : n + 12 < a) (hρ : shk SHX ρ = (100, 3)) (hρ2 : ρ < a ∨ a + 5 ≤ ρ) (hr : RW N (M ρ)) (hq : ∀ A' x, StA N (opS N (M ρ) (zS 0)) x → Q x SHX R (CS M a A')) : Mw (d + 3) 98 [vr 261, vr n, vr ρ] SHX R (CS M a A) 0 0 Q := by
  refine Mw_of mok98 rfl fun _ _ => b_X10_stillAt_0 ?_
  have o := zop_ok (N := N) hW hr
  rw [ok261]
  refine c_open (d := d + 1) h0 hS hN hC hW hsep hρ hρ2 hr fun A1 δ1 hA1 => ?_
  have loop : ∀ j : Nat, j ≤ 201 → (∀ i : Nat, i < j → ¬ still N (flyS N L0 (opS N (M ρ) (zS 0)) i)) → ∀ A' δ, SKY δ A' (flyS N L0 (opS N (M ρ) (zS 0)) j) → Go (d + 3) 98 Q 6 [vr 261, vr n, vn, vi (j : Int)] [] SHX R (CS M a A') 0 0 := by
    refine uptoN ?_ ?_
    · intro hn A' δ hA
      refine b_X10_stillAt_6 ?_
      rw [if_pos (by decide)]
      exact hq A' _ (Or.inr ⟨rfl, fun i hi => hn i (by omega)⟩)
    · intro j hj ih hn A' δ hA
      refine b_X10_stillAt_6 ?_
      have oj := fly_ok (L := L0) hW o j
      have e6 := fly_216 (S := opS N (M ρ) (zS 0)) (L := L0) hW j
      rw [opS_ne hW (by omega)] at e6
      rw [if_neg (by omega), ok261, h0, okS hS]
      refine c_isStill (d := d + 2) hS hN hC hW hsep hA oj (fun st _ => ?_) (fun st _ => ?_)
      · rw [if_neg (by decide)]
        exact hq A' _ (Or.inl ⟨j, rfl, by omega, st, hn⟩)
      · rw [if_pos rfl, ok261, h0, okS hS]
        refine c_pass (d := d) hS hN hC hW hsep hA oj (by omega) (fly_BD hW (opS_BD hW) j) (by omega) fun A2 hA2 => ?_
        rw [iadd_of (by omega) (by omega), show (j : Int) + 1 = ((j + 1 : Nat) : Int) by omega]
        refine ih (fun i hi => ?_) A2 δ hA2
        by_cases hij : i = j
        · rw [hij]; exact st
        · exact hn i (by omega)
  exact loop 0 (Nat.zero_le _) (fun i hi => by omega) A1 δ1 hA1
theorem c_hasSetOut {w δ K : Int} {S : SK} (h0 : R 261 0 = a) (hS : SR R a) (hN : NR R n) (hC : NC M n N) (hW : WN N) (hsep : n + 12 < a) (hA : SKY δ A S) (hO : OKS N S K) (hB : S 216 ≤ 1900) (w0 : 0 ≤ w) (w1 : w < N 0 2) (hq : Q (if 0 < S (slt N w) then 1 else 0) SHX R (CS M a A)) : Mw (d + 2) 100 [vr 261, vr n, vi w] SHX R (CS M a A) 0 0 Q := by
  refine Mw_of mok100 rfl fun _ _ => b_X10_hasSetOut_0 ?_
  have hw := wn_W hW
  have hb := wn_wb hW w w0 w1
  have n8 : M (n + 8) w = N 8 w := nc8 hC w w0 w1
  have s6 := hO.1 216 (by decide) (by decide)
  rw [ok261, okN hN, nr10 hN, aN8 hN, h0, okS hS, CS_n (show n + 8 < a by omega), n8]
  refine ⟨w0, by omega, c_left (d := d) hS hA s6 (by omega) w0 (by omega) (by omega) (by omega) ?_⟩
  show if 0 < S (slt N w) then _ else _
  split
  · rename_i h; rwa [if_pos h] at hq
  · rename_i h; rwa [if_neg h] at hq
theorem c_without {w t δ K : Int} {S : SK} {k : Nat} (h0 : R 261 0 = a) (h1 : R 261 1 = a2) (hS : SR R a) (hS2 : SR R a2) (hd : a + 5 ≤ a2) (hN : NR R n) (hC : NC M n N) (hW : WN N) (hsep : n + 12 < a) (hA : SKY δ A S) (hO : OKS N S K) (hK : K ≤ 200000) (hB : S 216 ≤ 200) (hD : BD S) (w0 : 0 ≤ w) (w1 : w < N 0 2) (hp : 0 < S (slt N w)) (hk : k ≤ 200) (t0 : 0 ≤ t) (t1 : t < 10) (hq : ∀ B', Q (flyS N L0 (lzS N S w) k (192 + t)) SHX R (CS (CS M a A) a2 B')) : Mw (d + 3) 99 [vr 261, vr n, vi w, vi t, vi (k : Int)] SHX R (CS M a A) 0 0 Q := by
  refine Mw_of mok99 rfl fun _ _ => b_X10_reckonedWithout_0 ?_
  have hw := wn_W hW
  have hb := wn_wb hW w w0 w1
  have s6 := hO.1 216 (by decide) (by decide)
  have hsl := slt_rng hW w0 w1
  have hC2 := NC_CS (A := A) hC hsep
  have n8 : M (n + 8) w = N 8 w := nc8 hC w w0 w1
  rw [ok261, ok261, h0, h1, okS hS2, ← CS_self (CS M a A) a2]
  refine c_copy (d := d + 2) hS2 hS (Or.inl hd) (SKY_rows hA) fun B1 hB1 => ?_
  rw [ok261, okN hN, nr10 hN, aN8 hN, h1, okS hS2, CS_n (show n + 8 < a2 by omega), CS_n (show n + 8 < a by omega), n8]
  have es : 12 * w + N 8 w - 1 = slt N w := rfl
  refine ⟨w0, by omega, c_lose (d := d + 1) hS2 hB1 hO (by omega) (by omega) w0 (by omega) (by omega) (by omega) (by rw [es]; exact hp) fun B2 hB2 => ?_⟩
  rw [es] at hB2
  obtain ⟨Z, hZ⟩ : ∃ Z, Z = upf (upf S 214 (S 214 + 1)) (slt N w) (S (slt N w) - 1) := ⟨_, rfl⟩
  have oZ : OKS N Z K := by rw [hZ]; exact OKS_lz hW hO w0 w1 hp
  have cZ : cE Z (lzS N S w) := by rw [hZ]; exact lz_cE hsl.2.1
  have z6 : Z 216 = S 216 := by rw [hZ, upf_ne (by omega), upf_ne (by decide)]
  have dZ : BD Z := by
    refine ⟨?_, fun u u0 u1 => ?_⟩
    · rw [z6, hZ, upf_ne (by omega), upf_ne (by decide)]; exact hD.1
    · rw [z6, hZ, upf_ne (by omega), upf_ne (by omega)]; exact hD.2 u u0 u1
  rw [← hZ] at hB2
  have fin : ∀ j : Nat, j ≤ k → still N (flyS N L0 Z j) ∨ j = k → flyS N L0 Z j (192 + t) = flyS N L0 (lzS N S w) k (192 + t) := fun j hj hst => by
    rw [← fly_cE hW cZ k (192 + t) (by omega) (by omega)]
    rcases hst with hst | rfl
    · exact (fly_at hW oZ hj hst (192 + t) (by omega) (by omega)).symm
    · rfl
  have loop : ∀ j : Nat, j ≤ k → ∀ B', SKY δ B' (flyS N L0 Z j) → Go (d + 3) 99 Q 15 [vr 261, vr n, vn, vi t, vi (k : Int), vi (j : Int)] [] SHX R (CS (CS M a A) a2 B') 0 0 := by
    refine uptoN ?_ ?_
    · intro B' hB'
      refine b_X10_reckonedWithout_15 ?_
      rw [if_neg (by omega), ok261, h1, okS hS2, sr2 hS2, aS3 hS2, CS_3, sky_th hB' t t0 t1, fin k (Nat.le_refl _) (Or.inr rfl)]
      exact ⟨t0, t1, hq B'⟩
    · intro j hj ih B' hB'
      refine b_X10_reckonedWithout_15 ?_
      have oj := fly_ok (L := L0) hW oZ j
      have e6 := fly_216 (S := Z) (L := L0) hW j
      rw [z6] at e6
      rw [if_pos (by omega), ok261, h1, okS hS2]
      refine c_isStill (d := d + 2) hS2 hN hC2 hW (by omega) hB' oj (fun st _ => ?_) (fun st _ => ?_)
      · rw [if_neg (by decide), ok261, h1, okS hS2, sr2 hS2, aS3 hS2, CS_3, sky_th hB' t t0 t1, fin j (by omega) (Or.inl st)]
        exact ⟨t0, t1, hq B'⟩
      · rw [if_pos rfl, ok261, h1, okS hS2]
        refine c_pass (d := d) hS2 hN hC2 hW (by omega) hB' oj (by omega) (fly_BD hW dZ j) (by omega) fun B3 hB3 => ?_
        rw [iadd_of (by omega) (by omega), show (j : Int) + 1 = ((j + 1 : Nat) : Int) by omega]
        exact ih B3 hB3
  exact loop 0 (Nat.zero_le _) B2 hB2
theorem there_rng (hW : WN N) {S : SK} {K t : Int} (h : OKS N S K) (t0 : 0 ≤ t) (t1 : t < 10) : 0 ≤ S (192 + t) ∧ S (192 + t) ≤ K := by
  have a1 := h.1 (192 + t) (by omega) (by omega)
  have a2 := ms_le h.1 (i := 192 + t) (by omega) (by omega)
  have a3 := h.2.1
  omega
theorem lz_rng (hW : WN N) {S : SK} {K w t : Int} (h : OKS N S K) (w0 : 0 ≤ w) (w1 : w < N 0 2) (hp : 0 < S (slt N w)) (t0 : 0 ≤ t) (t1 : t < 10) (k : Nat) : 0 ≤ flyS N L0 (lzS N S w) k (192 + t) ∧ flyS N L0 (lzS N S w) k (192 + t) ≤ K + 990 * (k : Int) := by
  have hsl := slt_rng hW w0 w1
  have o := fly_ok (L := L0) hW (OKS_lz hW h w0 w1 hp) k
  have e := fly_cE hW (lz_cE (S := S) hsl.2.1) k (192 + t) (by omega) (by omega)
  rw [← e]
  exact there_rng hW o t0 t1
theorem c_lossOf {w t : Int} {b k : Nat} (h0 : R 261 0 = a) (h1 : R 261 1 = a2) (hS : SR R a) (hS2 : SR R a2) (hd : a + 5 ≤ a2) (hN : NR R n) (hC : NC M n N) (hW : WN N) (hsep : n + 12 < a) (hρ : shk SHX ρ = (100, 3)) (hρ2 : ρ < a ∨ a + 5 ≤ ρ) (hr : RW N (M ρ)) (w0 : 0 ≤ w) (w1 : w < N 0 2) (hk : k ≤ 100) (hb : b ≤ k) (t0 : 0 ≤ t) (t1 : t < 10) (hq : ∀ A', Q (lossV N (opS N (M ρ) (zS 0)) w t b k) SHX R (CS M a A')) (hq2 : ∀ A' B', Q (lossV N (opS N (M ρ) (zS 0)) w t b k) SHX R (CS (CS M a A') a2 B')) : Mw (d + 4) 101 [vr 261, vr n, vr ρ, vi w, vi (b : Int), vi t, vi (k : Int)] SHX R (CS M a A) 0 0 Q := by
  refine Mw_of mok101 rfl fun _ _ => b_X10_lossOf_0 ?_
  have o := zop_ok (N := N) hW hr
  rw [ok261]
  refine c_reckoned (d := d) h0 hS hN hC hW hsep hρ hρ2 hr (by omega) t0 t1 fun A1 => ?_
  rw [ok261]
  refine c_open (d := d + 2) h0 hS hN hC hW hsep hρ hρ2 hr fun A2 δ2 hA2 => ?_
  obtain ⟨Y, hY⟩ : ∃ Y, Y = opS N (M ρ) (zS 0) := ⟨_, rfl⟩
  have y6 : Y 216 = 0 := by rw [hY]; exact opS_ne hW (by omega)
  have yD : BD Y := by rw [hY]; exact opS_BD hW
  rw [← hY] at o hA2 ⊢
  have loop : ∀ j : Nat, j ≤ b → ∀ A' δ, SKY δ A' (flyS N L0 Y j) → Go (d + 4) 101 Q 13 [vr 261, vr n, vn, vi w, vi (b : Int), vi t, vi (k : Int), vi (flyS N L0 Y k (192 + t)), vi (j : Int)] [] SHX R (CS M a A') 0 0 := by
    refine uptoN ?_ ?_
    · intro A' δ hA
      refine b_X10_lossOf_13 ?_
      have ob := fly_ok (L := L0) hW o b
      have e6 := fly_216 (S := Y) (L := L0) hW b
      rw [if_neg (by omega), ok261]
      refine c_hasSetOut (d := d + 1) h0 hS hN hC hW hsep hA ob (by omega) w0 w1 fun _ => ?_
      have q1 := hq A'
      rw [← hY] at q1
      unfold lossV at q1
      by_cases hp : 0 < flyS N L0 Y b (slt N w)
      · rw [if_pos hp, if_neg (by decide), ok261, isub_of (by omega) (by omega), show (k : Int) - (b : Int) = ((k - b : Nat) : Int) by omega]
        refine c_without (d := d) h0 h1 hS hS2 hd hN hC hW hsep hA ob (by omega) (by omega) (fly_BD hW yD b) w0 w1 hp (by omega) t0 t1 fun B' => ?_
        have r1 := there_rng hW (fly_ok (L := L0) hW o k) t0 t1
        have r2 := lz_rng hW ob w0 w1 hp t0 t1 (k - b)
        have q2 := hq2 A' B'
        rw [← hY] at q2
        unfold lossV at q2
        rw [if_pos hp] at q2
        rw [isub_of (by omega) (by omega)]
        exact q2
      · rw [if_neg hp] at q1
        rw [if_neg hp, if_pos rfl]
        exact q1
    · intro j hj ih A' δ hA
      refine b_X10_lossOf_13 ?_
      have oj := fly_ok (L := L0) hW o j
      have e6 := fly_216 (S := Y) (L := L0) hW j
      rw [if_pos (by omega), ok261, h0, okS hS]
      refine c_pass (d := d + 1) hS hN hC hW hsep hA oj (by omega) (fly_BD hW yD j) (by omega) fun A3 hA3 => ?_
      rw [iadd_of (by omega) (by omega), show (j : Int) + 1 = ((j + 1 : Nat) : Int) by omega]
      exact ih A3 δ hA3
  exact loop 0 (Nat.zero_le _) A2 δ2 hA2
/-- one that sets out on w in beat b, and nobody sees it lost -/
def blV (N : NTW) (Y : SK) (t : Int) (k : Nat) (b w : Int) : Int := if 0 < flyS N L0 Y b.toNat (slt N w) ∧ flyS N L0 (lzS N (flyS N L0 Y b.toNat) w) (k - b.toNat) (192 + t) = flyS N L0 Y k (192 + t) then 1 else 0
theorem blV_rng {Y : SK} {t : Int} {k : Nat} {b w : Int} : 0 ≤ blV N Y t k b w ∧ blV N Y t k b w ≤ 1 := by
  unfold blV
  split <;> omega
theorem sm_le {f : Int → Int} {a c : Int} : ∀ n : Nat, (∀ i, a ≤ i → i < a + (n : Int) → f i ≤ c) → sm f a n ≤ c * (n : Int)
  | 0, _ => by show (0 : Int) ≤ c * ((0 : Nat) : Int); simp
  | n + 1, h => by
    have h1 := sm_le n fun i h0 h1 => h i h0 (by omega)
    have h2 := h (a + (n : Int)) (by omega) (by omega)
    show sm f a n + f (a + (n : Int)) ≤ c * ((n + 1 : Nat) : Int)
    have e : c * ((n + 1 : Nat) : Int) = c * (n : Int) + c := by
      rw [show ((n + 1 : Nat) : Int) = (n : Int) + 1 by omega, Int.mul_add, Int.mul_one]
    omega
/-- all that nobody sees, beat by beat -/
def blA (N : NTW) (Y : SK) (t : Int) (k : Nat) (n : Nat) : Int := sm (fun b => sm (fun w => blV N Y t k b w) 0 (N 0 2).toNat) 1 n
theorem blA_rng (hW : WN N) {Y : SK} {t : Int} {k : Nat} (n : Nat) : 0 ≤ blA N Y t k n ∧ blA N Y t k n ≤ 16 * (n : Int) := by
  have hw := wn_W hW
  refine ⟨sm_nn n fun b _ _ => sm_nn _ fun w _ _ => blV_rng.1, sm_le n fun b _ _ => ?_⟩
  have := sm_le (f := fun w => blV N Y t k b w) (a := 0) (c := 1) (N 0 2).toNat fun w _ _ => blV_rng.2
  omega
theorem c_unseen {t : Int} {k : Nat} (h0 : R 261 0 = a) (h1 : R 261 1 = a2) (hS : SR R a) (hS2 : SR R a2) (hd : a + 5 ≤ a2) (hN : NR R n) (hC : NC M n N) (hW : WN N) (hsep : n + 12 < a) (hρ : shk SHX ρ = (100, 3)) (hρ2 : ρ < a ∨ a + 5 ≤ ρ) (hr : RW N (M ρ)) (hk : k ≤ 100) (t0 : 0 ≤ t) (t1 : t < 10) (hq : ∀ A' B', Q (blA N (opS N (M ρ) (zS 0)) t k k) SHX R (CS (CS M a A') a2 B')) : Mw (d + 4) 102 [vr 261, vr n, vr ρ, vi t, vi (k : Int)] SHX R (CS M a A) 0 0 Q := by
  refine Mw_of mok102 rfl fun _ _ => b_X10_unseen_0 ?_
  have hw := wn_W hW
  have o := zop_ok (N := N) hW hr
  rw [ok261]
  refine c_reckoned (d := d) h0 hS hN hC hW hsep hρ hρ2 hr (by omega) t0 t1 fun A1 => ?_
  rw [ok261]
  refine c_open (d := d + 2) h0 hS hN hC hW hsep hρ hρ2 hr fun A2 δ2 hA2 => ?_
  obtain ⟨Y, hY⟩ : ∃ Y, Y = opS N (M ρ) (zS 0) := ⟨_, rfl⟩
  have y6 : Y 216 = 0 := by rw [hY]; exact opS_ne hW (by omega)
  have yD : BD Y := by rw [hY]; exact opS_BD hW
  rw [← hY] at o hA2 hq ⊢
  have loop : ∀ j : Nat, j ≤ k → ∀ A' B' δ, SKY δ A' (flyS N L0 Y j) → Go (d + 4) 102 Q 15 [vr 261, vr n, vn, vi t, vi (k : Int), vi (flyS N L0 Y k (192 + t)), vi (blA N Y t k j), vi ((j : Int) + 1), vn] [] SHX R (CS (CS M a A') a2 B') 0 0 := by
    refine uptoN ?_ ?_
    · intro A' B' δ hA
      refine b_X10_unseen_15 ?_
      rw [if_pos (by omega)]
      exact hq A' B'
    · intro j hj ih A' B' δ hA
      refine b_X10_unseen_15 ?_
      have oj := fly_ok (L := L0) hW o j
      have e6 := fly_216 (S := Y) (L := L0) hW j
      have oj1 := fly_ok (L := L0) hW o (j + 1)
      have e61 := fly_216 (S := Y) (L := L0) hW (j + 1)
      have sw : ∀ X : MEM, CS (CS M a X) a2 B' = CS (CS M a2 B') a X := fun X => by
        funext q
        unfold CS
        by_cases g1 : a2 ≤ q ∧ q < a2 + 5
        · rw [if_pos g1, if_neg (by omega), if_pos g1]
        · rw [if_neg g1]
          by_cases g2 : a ≤ q ∧ q < a + 5
          · rw [if_pos g2, if_pos g2]
          · rw [if_neg g2, if_neg g2, if_neg g1]
      have hC2 : NC (CS M a2 B') n N := NC_CS hC (by omega)
      rw [if_neg (by omega), ok261, h0, okS hS, sw]
      refine c_isStill (d := d + 3) hS hN hC2 hW hsep hA oj (fun st _ => ?_) (fun st _ => ?_)
      · rw [if_neg (by decide), ← sw]
        have z : blA N Y t k k = blA N Y t k j := by
          have e : k = j + (k - j) := by omega
          unfold blA
          have e2 : sm (fun b => sm (fun w => blV N Y t k b w) 0 (N 0 2).toNat) 1 k = sm (fun b => sm (fun w => blV N Y t k b w) 0 (N 0 2).toNat) 1 j + sm (fun b => sm (fun w => blV N Y t k b w) 0 (N 0 2).toNat) (1 + (j : Int)) (k - j) := by
            rw [← sm_add, ← e]
          rw [e2, sm_0 (k - j) fun b b0 b1 => sm_0 _ fun w w0 w1 => ?_, Int.add_zero]
          unfold blV
          have sl := slt_rng hW w0 (show w < N 0 2 by omega)
          have f1 := fly_at hW o (show j ≤ b.toNat by omega) st (slt N w) sl.1 (by omega)
          have f2 := still_zero oj.1 st sl.1 sl.2.1
          rw [if_neg (by rw [f1, f2]; omega)]
        rw [← z]
        exact hq A' B'
      · rw [if_pos rfl, ok261, h0, okS hS]
        refine c_pass (d := d + 1) hS hN hC2 hW hsep hA oj (by omega) (fly_BD hW yD j) (by omega) fun A3 hA3 => ?_
        have hA3' : SKY δ A3 (flyS N L0 Y (j + 1)) := hA3
        rw [← sw]
        have eb : ((j : Int) + 1).toNat = j + 1 := by omega
        have inner : ∀ u : Nat, u ≤ (N 0 2).toNat → ∀ B'', Go (d + 4) 102 Q 29 [vr 261, vr n, vn, vi t, vi (k : Int), vi (flyS N L0 Y k (192 + t)), vi (blA N Y t k j + sm (fun w => blV N Y t k ((j : Int) + 1) w) 0 u), vi ((j : Int) + 1), vi (u : Int)] [] SHX R (CS (CS M a A3) a2 B'') 0 0 := by
          have br := blA_rng (Y := Y) (t := t) (k := k) hW j
          refine uptoN ?_ ?_
          · intro B''
            refine b_X10_unseen_29 ?_
            rw [okN hN, CS_n (show n < a2 by omega), CS_n (show n < a by omega), nc_W hC, if_neg (by omega), iadd_of (by omega) (by omega)]
            have e1 : blA N Y t k j + sm (fun w => blV N Y t k ((j : Int) + 1) w) 0 (N 0 2).toNat = blA N Y t k (j + 1) := by
              unfold blA
              show _ = sm _ 1 j + sm (fun w => blV N Y t k (1 + (j : Int)) w) 0 (N 0 2).toNat
              rw [Int.add_comm 1 (j : Int)]
            rw [e1, show (j : Int) + 1 + 1 = ((j + 1 : Nat) : Int) + 1 by omega]
            exact ih A3 B'' δ hA3'
          · intro u hu ihu B''
            refine b_X10_unseen_29 ?_
            have sr1 := sm_nn (f := fun w => blV N Y t k ((j : Int) + 1) w) (a := 0) u fun w _ _ => blV_rng.1
            have sr2 := sm_le (f := fun w => blV N Y t k ((j : Int) + 1) w) (a := 0) (c := 1) u fun w _ _ => blV_rng.2
            have es : sm (fun w => blV N Y t k ((j : Int) + 1) w) 0 (u + 1) = sm (fun w => blV N Y t k ((j : Int) + 1) w) 0 u + blV N Y t k ((j : Int) + 1) u := by
              show _ + blV N Y t k ((j : Int) + 1) (0 + (u : Int)) = _
              rw [Int.zero_add]
            have ev : blV N Y t k ((j : Int) + 1) u = if 0 < flyS N L0 Y (j + 1) (slt N u) ∧ flyS N L0 (lzS N (flyS N L0 Y (j + 1)) u) (k - (j + 1)) (192 + t) = flyS N L0 Y k (192 + t) then 1 else 0 := by
              unfold blV
              rw [eb]
            have swB : CS (CS M a A3) a2 B'' = CS (CS M a2 B'') a A3 := by
              funext q
              unfold CS
              by_cases g1 : a2 ≤ q ∧ q < a2 + 5
              · rw [if_pos g1, if_neg (by omega), if_pos g1]
              · rw [if_neg g1]
                by_cases g2 : a ≤ q ∧ q < a + 5
                · rw [if_pos g2, if_pos g2]
                · rw [if_neg g2, if_neg g2, if_neg g1]
            have hC3 : NC (CS M a2 B'') n N := NC_CS hC (by omega)
            have nx : ∀ B3 v, v = blA N Y t k j + sm (fun w => blV N Y t k ((j : Int) + 1) w) 0 (u + 1) → Go (d + 4) 102 Q 29 [vr 261, vr n, vn, vi t, vi (k : Int), vi (flyS N L0 Y k (192 + t)), vi v, vi ((j : Int) + 1), vi (iadd (u : Int) 1)] [] SHX R (CS (CS M a A3) a2 B3) 0 0 := fun B3 v hv => by
              rw [iadd_of (by omega) (by omega), hv, show (u : Int) + 1 = ((u + 1 : Nat) : Int) by omega]
              exact ihu B3
            rw [okN hN, CS_n (show n < a2 by omega), CS_n (show n < a by omega), nc_W hC, if_pos (by omega), ok261, swB]
            refine c_hasSetOut (d := d + 1) h0 hS hN hC3 hW hsep hA3' oj1 (by omega) (by omega) (by omega) fun _ => ?_
            by_cases hp : 0 < flyS N L0 Y (j + 1) (slt N u)
            · rw [if_pos hp, if_neg (by decide), ok261, isub_of (by omega) (by omega), show (k : Int) - ((j : Int) + 1) = ((k - (j + 1) : Nat) : Int) by omega]
              refine c_without (d := d) h0 h1 hS hS2 hd hN hC3 hW hsep hA3' oj1 (by omega) (by omega) (fly_BD hW yD (j + 1)) (by omega) (by omega) hp (by omega) t0 t1 fun B4 => ?_
              have e4 : CS (CS (CS M a2 B'') a A3) a2 B4 = CS (CS M a A3) a2 B4 := by
                rw [← swB, CS_CS]
              rw [e4]
              by_cases hx : flyS N L0 (lzS N (flyS N L0 Y (j + 1)) u) (k - (j + 1)) (192 + t) = flyS N L0 Y k (192 + t)
              · rw [if_pos hx, iadd_of (by omega) (by omega)]
                refine nx B4 _ ?_
                rw [es, ev, if_pos ⟨hp, hx⟩]
                omega
              · rw [if_neg hx]
                refine nx B4 _ ?_
                rw [es, ev, if_neg fun z => hx z.2]
                omega
            · rw [if_neg hp, if_pos rfl, ← swB]
              refine nx B'' _ ?_
              rw [es, ev, if_neg fun z => hp z.1]
              omega
        have := inner 0 (Nat.zero_le _) B'
        have e0 : blA N Y t k j + sm (fun w => blV N Y t k ((j : Int) + 1) w) 0 0 = blA N Y t k j := by
          show _ + 0 = _
          omega
        rw [e0] at this
        exact this
  have e5 : CS M a A2 = CS (CS M a A2) a2 (fun r => CS M a A2 (a2 + r)) := (CS_self _ _).symm
  rw [e5]
  exact loop 0 (Nat.zero_le _) A2 _ δ2 hA2
end
