/-! THE CLASS GATHERS, AND PASSES A BEAT -/
/-- halfway: on the first n ways all have come nearer -/
def SKM (δ : Int) (A : MEM) (S : SK) (n : Int) : Prop := (∀ w l : Int, 0 ≤ w → w < 16 → 1 ≤ l → l ≤ 16 → A 1 (16 * w + (S 216 + l - (if w < n then 0 else 1)) % 16) = if l ≤ 12 then S (12 * w + l - 1) else 0) ∧ (∀ t : Int, 0 ≤ t → t < 10 → A 3 t = S (192 + t)) ∧ (∀ t : Int, 0 ≤ t → t < 10 → A 4 t = S (202 + t)) ∧ A 0 4 = S 212 + δ ∧ A 0 5 = S 213 ∧ A 0 6 = sm S 0 192 ∧ A 0 7 = S 214 ∧ A 0 8 = S 215 ∧ A 0 9 = S 217 ∧ A 0 10 = S 216
section
variable {δ : Int} {A : MEM} {S : SK} {N : NTW}
theorem SKM_0 (h : SKY δ A S) : SKM δ (stm A 0 10 (S 216 + 1)) (oneM S) 0 := by
  obtain ⟨a1, a2, a3, a4, a5, a6, a7, a8, a9, a10⟩ := h
  have e : ∀ i, i ≠ 216 → oneM S i = S i := fun i hi => upf_ne hi
  have e6 : oneM S 216 = S 216 + 1 := upf_hit
  refine ⟨fun w l w0 w1 l0 l1 => ?_, fun u u0 u1 => ?_, fun u u0 u1 => ?_, ?_, ?_, ?_, ?_, ?_, ?_, ?_⟩
  · rw [e6, stm_neq (by omega), if_neg (by omega), show S 216 + 1 + l - 1 = S 216 + l by omega, a1 w l w0 w1 l0 l1]
    split
    · rw [e _ (by omega)]
    · rfl
  · rw [stm_neq (by omega), e _ (by omega)]; exact a2 u u0 u1
  · rw [stm_neq (by omega), e _ (by omega)]; exact a3 u u0 u1
  · rw [stm_neq (by omega), e _ (by omega)]; exact a4
  · rw [stm_neq (by omega), e _ (by omega)]; exact a5
  · rw [stm_neq (by omega)]; unfold oneM; rw [sm_out 192 (by omega)]; exact a6
  · rw [stm_neq (by omega), e _ (by omega)]; exact a7
  · rw [stm_neq (by omega), e _ (by omega)]; exact a8
  · rw [stm_neq (by omega), e _ (by omega)]; exact a9
  · rw [stm_hit, e6]
theorem SKM_st {A' : MEM} {Z : SK} (h : SKM δ A S 0) (h0 : A' 0 = A 0) (h1 : A' 1 = A 1) (h4 : A' 4 = A 4) (h3 : ∀ t, 0 ≤ t → t < 10 → A' 3 t = Z (192 + t)) (hz : ∀ i, i < 192 ∨ 202 ≤ i → Z i = S i) : SKM δ A' Z 0 := by
  obtain ⟨a1, a2, a3, a4, a5, a6, a7, a8, a9, a10⟩ := h
  refine ⟨fun w l w0 w1 l0 l1 => ?_, h3, fun u u0 u1 => ?_, ?_, ?_, ?_, ?_, ?_, ?_, ?_⟩
  · rw [hz 216 (by omega), h1, a1 w l w0 w1 l0 l1]
    split
    · rw [hz _ (by omega)]
    · rfl
  · rw [h4, hz _ (by omega)]; exact a3 u u0 u1
  · rw [h0, hz _ (by omega)]; exact a4
  · rw [h0, hz _ (by omega)]; exact a5
  · rw [h0, sm_congr (f := Z) (g := S) 192 fun i _ g1 => hz i (by omega)]; exact a6
  · rw [h0, hz _ (by omega)]; exact a7
  · rw [h0, hz _ (by omega)]; exact a8
  · rw [h0, hz _ (by omega)]; exact a9
  · rw [h0, hz _ (by omega)]; exact a10
theorem SKM_slot {n : Int} (h : SKM δ A S n) (n0 : 0 ≤ n) (n1 : n < 16) : A 1 (16 * n + (S 216 + 0) % 16) = S (12 * n) := by
  have := h.1 n 1 n0 n1 (by decide) (by decide)
  rw [if_neg (by omega), if_pos (by decide)] at this
  rw [show S 216 + 0 = S 216 + 1 - 1 by omega, this, show 12 * n + 1 - 1 = 12 * n by omega]
theorem SKM_step {n i v x : Int} (h : SKM δ A S n) (n0 : 0 ≤ n) (n1 : n < 16) (hx : x = sm S 0 192 - S (12 * n)) : SKM δ (stm (stm (stm A 2 i v) 0 6 x) 1 (16 * n + (S 216 + 0) % 16) 0) (shS S n) (n + 1) := by
  obtain ⟨a1, a2, a3, a4, a5, a6, a7, a8, a9, a10⟩ := h
  have e : ∀ j, 192 ≤ j → shS S n j = S j := fun j hj => shS_out (by omega)
  refine ⟨fun w l w0 w1 l0 l1 => ?_, fun u u0 u1 => ?_, fun u u0 u1 => ?_, ?_, ?_, ?_, ?_, ?_, ?_, ?_⟩
  · rw [e 216 (by decide)]
    by_cases hw : w = n
    · subst hw
      rw [if_pos (by omega)]
      by_cases hl : l = 16
      · subst hl
        have e2 : 16 * w + (S 216 + 16 - 0) % 16 = 16 * w + (S 216 + 0) % 16 := by omega
        rw [e2, stm_hit, if_neg (by decide)]
      · rw [stm_neq (by omega), stm_neq (by omega), stm_neq (by omega)]
        have := a1 w (l + 1) w0 w1 (by omega) (by omega)
        rw [if_neg (by omega)] at this
        rw [show S 216 + l - 0 = S 216 + (l + 1) - 1 by omega, this]
        by_cases h12 : l ≤ 12
        · rw [if_pos h12]
          by_cases h11 : l = 12
          · subst h11
            rw [if_neg (by decide), show 12 * w + 12 - 1 = 12 * w + 11 by omega, shS_last]
          · rw [if_pos (by omega), shS_in (by omega) (by omega), show 12 * w + (l + 1) - 1 = 12 * w + l - 1 + 1 by omega]
        · rw [if_neg h12, if_neg (by omega)]
    · have hi : (if w < n + 1 then (0 : Int) else 1) = if w < n then 0 else 1 := by split <;> split <;> omega
      rw [hi, stm_neq (by omega), stm_neq (by omega), stm_neq (by omega), a1 w l w0 w1 l0 l1]
      split
      · rw [shS_out (by omega)]
      · rfl
  · rw [stm_neq (by omega), stm_neq (by omega), stm_neq (by omega), e _ (by omega)]; exact a2 u u0 u1
  · rw [stm_neq (by omega), stm_neq (by omega), stm_neq (by omega), e _ (by omega)]; exact a3 u u0 u1
  · rw [stm_neq (by omega), stm_neq (by omega), stm_neq (by omega), e _ (by omega)]; exact a4
  · rw [stm_neq (by omega), stm_neq (by omega), stm_neq (by omega), e _ (by omega)]; exact a5
  · rw [stm_neq (by omega), stm_hit, hx, sm_sh n0 n1]
  · rw [stm_neq (by omega), stm_neq (by omega), stm_neq (by omega), e _ (by omega)]; exact a7
  · rw [stm_neq (by omega), stm_neq (by omega), stm_neq (by omega), e _ (by omega)]; exact a8
  · rw [stm_neq (by omega), stm_neq (by omega), stm_neq (by omega), e _ (by omega)]; exact a9
  · rw [stm_neq (by omega), stm_neq (by omega), stm_neq (by omega), e _ (by omega)]; exact a10
theorem SKM_end {n : Int} (h : SKM δ A S n) (hz : ∀ i, 12 * n ≤ i → i < 192 → S i = 0) : SKY δ A S := by
  obtain ⟨a1, a2, a3, a4, a5, a6, a7, a8, a9, a10⟩ := h
  refine ⟨fun w l w0 w1 l0 l1 => ?_, a2, a3, a4, a5, a6, a7, a8, a9, a10⟩
  by_cases hw : w < n
  · have := a1 w l w0 w1 l0 l1
    rw [if_pos hw] at this
    rw [← this, Int.sub_zero]
  · have z : ∀ k, 1 ≤ k → k ≤ 16 → A 1 (16 * w + (S 216 + k - 1) % 16) = 0 := fun k k0 k1 => by
      have := a1 w k w0 w1 k0 k1
      rw [if_neg hw] at this
      rw [this]
      split
      · exact hz _ (by omega) (by omega)
      · rfl
    have z2 : A 1 (16 * w + (S 216 + l) % 16) = 0 := by
      by_cases hl : l = 16
      · have := z 1 (by decide) (by decide)
        rwa [show (S 216 + 1 - 1) % 16 = (S 216 + l) % 16 by omega] at this
      · have := z (l + 1) (by omega) (by omega)
        rwa [show S 216 + (l + 1) - 1 = S 216 + l by omega] at this
    rw [z2]
    split
    · exact (hz _ (by omega) (by omega)).symm
    · rfl
end
section
variable {d : Nat} {R M A : MEM} {a n δ : Int} {N : NTW} {S : SK} {Q : RES}
theorem c_gather {K : Int} (hS : SR R a) (hN : NR R n) (hC : NC M n N) (hW : WN N) (hsep : n + 12 < a) (hA : SKM δ A S 0) (hO : OKS N S K) (hB : S 216 ≤ 2000) (hK : K ≤ 1000000000) (hq : ∀ A', SKY δ A' (nwS N S (N 0 2).toNat) → (∀ t, 0 ≤ t → t < N 0 0 → A' 2 t = nwF N S (N 0 2).toNat t) → Q 0 SHX R (CS M a A')) : Mw (d + 1) 76 [vr a, vr n] SHX R (CS M a A) 0 0 Q := by
  refine Mw_of mok76 rfl fun _ _ => b_X8_gather_0 ?_
  have hT := wn_T hW
  have hw := wn_W hW
  have hs := wn_S hW
  have s6 := hO.1 216 (by decide) (by decide)
  have l3 : ∀ k : Nat, k ≤ (N 0 2).toNat → ∀ A', SKM δ A' (nwS N S k) k → (∀ t, 0 ≤ t → t < N 0 0 → A' 2 t = nwF N S k t) → Go (d + 1) 76 Q 41 [vr a, vr n, vi (k : Int), vn] [] SHX R (CS M a A') 0 0 := by
    refine uptoN ?_ ?_
    · intro A' h1 h2
      refine b_X8_gather_41 ?_
      rw [okN hN, CS_n (show n < a by omega), nc_W hC, if_neg (by omega)]
      refine hq A' (SKM_end h1 fun i g0 g1 => ?_) h2
      rw [nwS_un _ (by omega) g1]
      exact hO.2.2.1 i (by omega) g1
    · intro k hk ih A' h1 h2
      refine b_X8_gather_41 ?_
      rw [okN hN, CS_n (show n < a by omega), nc_W hC, if_pos (by omega), okS hS]
      have e10 : CS M a A' a 10 = S 216 := by
        rw [CS_0, h1.2.2.2.2.2.2.2.2.2, nwS_hi _ (by omega) (by decide), stS_ge _ (by omega)]
      have e6 : nwS N S k 216 = S 216 := by rw [nwS_hi _ (by omega) (by decide), stS_ge _ (by omega)]
      have h7 := wn_wt hW k (by omega) (by omega)
      have n7 : M (n + 7) k = N 7 k := nc7 hC k (by omega) (by omega)
      have g1 := nwF_nn (N := N) hO.1 hW k (by omega) _ h7.1 h7.2
      have g2 := nwF_le hW hO k (by omega) h7.1 h7.2
      have g3 := nwS_le hW hO k (by omega) (i := 12 * (k : Int)) (by omega) (by omega)
      have g4 := h2 _ h7.1 h7.2
      have g5 := SKM_slot h1 (by omega) (by omega)
      have g6 := sm_nn (f := nwS N S k) (a := 0) 192 fun i z0 z1 => (nwS_le hW hO k (by omega) z0 (by omega)).1
      have g7 : sm (nwS N S k) 0 192 ≤ K := by
        have y1 := (nwS_ok hW hO k (by omega)).2.1
        have y2 := nwF_nn (N := N) hO.1 hW k (by omega)
        have y3 := sm_nn (f := nwF N S k) (a := 0) (N 0 0).toNat fun i z0 z1 => y2 i z0 (by omega)
        have y4 : sm (nwS N S k) 0 202 = sm (nwS N S k) 0 192 + sm (nwS N S k) (0 + ((192 : Nat) : Int)) 10 := sm_add 192 10
        have y5 := sm_nn (f := nwS N S k) (a := 0 + ((192 : Nat) : Int)) 10 fun i z0 z1 => (nwS_le hW hO k (by omega) (i := i) (by omega) (by omega)).1
        have y6 := (nwS_ok hW hO k (by omega)).1 214 (by decide) (by decide)
        have y7 := (nwS_ok hW hO k (by omega)).1 215 (by decide) (by decide)
        unfold ms at y1
        omega
      have g8 : A' 0 6 = sm (nwS N S k) 0 192 := h1.2.2.2.2.2.1
      rw [e6] at g5
      refine c_slot (d := d) hS (by omega) (by omega) (by omega) (by omega) (by omega) (by omega) ?_
      rw [e10]
      simp (disch := omega) only [okN hN, okS hS, sr1 hS, aS2 hS, nr6 hN, aN5 hN, sr2 hS, aS3 hS, nr9 hN, aN7 hN, sr0 hS, aS1 hS, CS_0, CS_1, CS_2, CS_n, n7, g4, g5, g8, stm_CS0, stm_CS1, stm_CS2, stm_hit, stm_neq, iadd_of, isub_of]
      have e1 : (k : Int) + 1 = ((k + 1 : Nat) : Int) := by omega
      have hst := SKM_step (i := N 7 k) (v := nwF N S k (N 7 k) + nwS N S k (12 * k)) h1 (by omega) (by omega) rfl
      rw [e6, e1] at hst
      rw [e1]
      refine ⟨by omega, by omega, by omega, by omega, by omega, by omega, by omega, by omega, by omega, by omega, by omega, by omega, ih _ hst fun t t0 t1 => ?_⟩
      rw [stm_neq (by omega), stm_neq (by omega)]
      show stm A' 2 (N 7 k) _ 2 t = upf (nwF N S k) (N 7 k) _ t
      by_cases ht : t = N 7 k
      · rw [ht, stm_hit, upf_hit]
      · rw [stm_neq (by omega), upf_ne ht]; exact h2 t t0 t1
  have l2 : ∀ k : Nat, k ≤ (N 0 1).toNat → ∀ A', A' 0 = A 0 → A' 1 = A 1 → A' 4 = A 4 → (∀ t, 0 ≤ t → t < N 0 0 → (∀ r, (k : Int) ≤ r → r < N 0 1 → N 5 r ≠ t) → A' 2 t = stF N S t ∧ A' 3 t = if N 1 t = 0 then 0 else S (192 + t)) → (∀ r, (k : Int) ≤ r → r < N 0 1 → A' 3 (N 5 r) = S (192 + N 5 r)) → (∀ t, N 0 0 ≤ t → t < 10 → A' 3 t = S (192 + t)) → Go (d + 1) 76 Q 15 [vr a, vr n, vi (k : Int), vn] [] SHX R (CS M a A') 0 0 := by
    refine uptoN ?_ ?_
    · intro A' h0 h1 h4 h5 h6 h7
      refine b_X8_gather_15 ?_
      rw [okN hN, CS_n (show n < a by omega), nc_S hC, if_neg (by omega)]
      have stv : ∀ (m : Nat) (t : Int), 0 ≤ t → t < (m : Int) → stS N S m (192 + t) = if N 1 t = 0 then 0 else S (192 + t) := by
        intro m
        induction m with
        | zero => intro t t0 t1; omega
        | succ m ih =>
          intro t t0 t1
          unfold stS
          by_cases hc : N 1 (m : Int) = 0
          · rw [if_pos hc]
            by_cases ht : t = (m : Int)
            · rw [ht, upf_hit, if_pos hc]
            · rw [upf_ne (by omega)]; exact ih t t0 (by omega)
          · rw [if_neg hc]
            by_cases ht : t = (m : Int)
            · rw [ht, if_neg hc, stS_ge _ (by omega)]
            · exact ih t t0 (by omega)
      refine l3 0 (Nat.zero_le _) A' (SKM_st (Z := stS N S (N 0 0).toNat) hA h0 h1 h4 (fun t t0 t1 => ?_) fun i hi => stS_ge _ (by omega)) fun t t0 t1 => (h5 t t0 t1 fun r r0 r1 => by omega).1
      by_cases ht : t < N 0 0
      · rw [(h5 t t0 ht fun r r0 r1 => by omega).2, stv _ t t0 (by omega)]
      · rw [h7 t (by omega) t1, stS_ge _ (by omega)]
    · intro k hk ih A' h0 h1 h4 h5 h6 h7
      refine b_X8_gather_15 ?_
      have h5k := wn_st hW k (by omega) (by omega)
      have n5 : M (n + 5) k = N 5 k := nc5 hC k (by omega) (by omega)
      have h6k := h6 k (by omega) (by omega)
      rw [okN hN, CS_n (show n < a by omega), nc_S hC, if_pos (by omega)]
      simp (disch := omega) only [okN hN, okS hS, sr1 hS, aS2 hS, nr6 hN, aN5 hN, sr2 hS, aS3 hS, nr9 hN, aN7 hN, sr0 hS, aS1 hS, CS_2, CS_3, CS_n, n5, h6k, stm_CS2, stm_CS3, iadd_of]
      rw [show (k : Int) + 1 = ((k + 1 : Nat) : Int) by omega]
      refine ⟨by omega, by omega, by omega, by omega, by omega, by omega, by omega, by omega, ih _ ?_ ?_ ?_ (fun t t0 t1 hr => ?_) (fun r r0 r1 => ?_) fun t t0 t1 => ?_⟩
      · rw [stm_ne (by decide), stm_ne (by decide)]; exact h0
      · rw [stm_ne (by decide), stm_ne (by decide)]; exact h1
      · rw [stm_ne (by decide), stm_ne (by decide)]; exact h4
      · by_cases ht : t = N 5 k
        · rw [ht, stm_neq (by omega), stm_hit, stm_hit, if_pos h5k.2.2]
          exact ⟨(if_pos h5k.2.2).symm, rfl⟩
        · rw [stm_neq (by omega), stm_neq (by omega), stm_neq (by omega), stm_neq (by omega)]
          refine h5 t t0 t1 fun r r0 r1 => ?_
          by_cases hrk : r = (k : Int)
          · rw [hrk]; exact Ne.symm ht
          · exact hr r (by omega) r1
      · have := wn_sm hW k r (by omega) (by omega) r1
        rw [stm_neq (by omega), stm_neq (by omega)]
        exact h6 r (by omega) r1
      · rw [stm_neq (by omega), stm_neq (by omega)]
        exact h7 t t0 t1
  have l1 : ∀ k : Nat, k ≤ (N 0 0).toNat → ∀ A', A' 0 = A 0 → A' 1 = A 1 → A' 3 = A 3 → A' 4 = A 4 → (∀ t, 0 ≤ t → t < (k : Int) → A' 2 t = 0) → Go (d + 1) 76 Q 2 [vr a, vr n, vi (k : Int), vn] [] SHX R (CS M a A') 0 0 := by
    refine uptoN ?_ ?_
    · intro A' h0 h1 h3 h4 h2
      refine b_X8_gather_2 ?_
      rw [okN hN, CS_n (show n < a by omega), nc_T hC, if_neg (by omega)]
      refine l2 0 (Nat.zero_le _) A' h0 h1 h4 (fun t t0 t1 hr => ?_) (fun r r0 r1 => ?_) fun t t0 t1 => ?_
      · have hne : N 1 t ≠ 0 := fun z => by
          obtain ⟨r, r0, r1, r2⟩ := wn_sn hW t t0 t1 z
          exact hr r (by omega) r1 r2
        rw [h2 t t0 (by omega), if_neg hne, h3]
        exact ⟨(if_neg hne).symm, hA.2.1 t t0 (by omega)⟩
      · have := wn_st hW r (by omega) r1
        rw [h3]; exact hA.2.1 _ (by omega) (by omega)
      · rw [h3]; exact hA.2.1 t (by omega) t1
    · intro k hk ih A' h0 h1 h3 h4 h2
      refine b_X8_gather_2 ?_
      rw [okN hN, CS_n (show n < a by omega), nc_T hC, if_pos (by omega)]
      simp (disch := omega) only [okN hN, okS hS, sr1 hS, aS2 hS, nr6 hN, aN5 hN, sr2 hS, aS3 hS, nr9 hN, aN7 hN, sr0 hS, aS1 hS, stm_CS2, iadd_of]
      rw [show (k : Int) + 1 = ((k + 1 : Nat) : Int) by omega]
      refine ⟨by omega, by omega, ih _ ?_ ?_ ?_ ?_ fun t t0 t1 => ?_⟩
      · rw [stm_ne (by decide)]; exact h0
      · rw [stm_ne (by decide)]; exact h1
      · rw [stm_ne (by decide)]; exact h3
      · rw [stm_ne (by decide)]; exact h4
      · by_cases ht : t = (k : Int)
        · rw [ht, stm_hit]
        · rw [stm_neq (by omega)]; exact h2 t t0 (by omega)
  exact l1 0 (Nat.zero_le _) A rfl rfl rfl rfl fun t t0 t1 => by omega
theorem c_pass {K : Int} (hS : SR R a) (hN : NR R n) (hC : NC M n N) (hW : WN N) (hsep : n + 12 < a) (hA : SKY δ A S) (hO : OKS N S K) (hB : S 216 ≤ 1900) (hD : BD S) (hK : K ≤ 400000000) (hq : ∀ A', SKY δ A' (beatS N L0 S) → Q 0 SHX R (CS M a A')) : Mw (d + 2) 75 [vr a, vr n] SHX R (CS M a A) 0 0 Q := by
  refine Mw_of mok75 rfl fun _ _ => b_X8_pass_0 ?_
  have hT := wn_T hW
  have hw := wn_W hW
  have s6 := hO.1 216 (by decide) (by decide)
  have ek := sky_bt hA
  simp (disch := omega) only [okS hS, okN hN, CS_0, stm_CS0, ek, iadd_of]
  have e6 : oneM S 216 = S 216 + 1 := upf_hit
  refine c_gather (d := d) hS hN hC hW hsep (SKM_0 hA) (oneM_ok hO hT.2) (by omega) (by omega) fun A1 h1 h2 => ?_
  have loop : ∀ k : Nat, k ≤ (N 0 0).toNat → ∀ A', SKY δ A' (wkS N L0 (flkS N S) (nearS N S) k) → A' 2 = A1 2 → Go (d + 2) 75 Q 11 [vr a, vr n, vi (k : Int)] [] SHX R (CS M a A') 0 0 := by
    refine uptoN ?_ ?_
    · intro A' g1 g2
      refine b_X8_pass_11 ?_
      rw [okN hN, CS_n (show n < a by omega), nc_T hC, if_neg (by omega)]
      exact hq A' g1
    · intro k hk ih A' g1 g2
      refine b_X8_pass_11 ?_
      rw [okN hN, CS_n (show n < a by omega), nc_T hC, if_pos (by omega), okS hS]
      have y1 := flk_nn hW hO k (by omega) (by omega)
      have y2 := flk_le hW hO (t := (k : Int)) (by omega) (by omega)
      have y3 := step_ok (L := L0) hW hO k (by omega)
      have y4 : A' 2 (k : Int) = flkS N S k := by rw [g2]; exact h2 k (by omega) (by omega)
      obtain ⟨k1, k2⟩ := wkS_BD (S := nearS N S) (L := L0) (F := flkS N S) hW k (by omega)
      have k3 := k2 k (by omega) (by omega)
      have k4 : nearS N S 213 = S 213 := near_hi hW (by omega) (by decide)
      have k5 : nearS N S (202 + (k : Int)) = S (202 + (k : Int)) := near_hi hW (by omega) (by omega)
      have k6 := hD.1
      have k7 := hD.2 k (by omega) (by omega)
      have k8 := y3.1 213 (by decide) (by decide)
      have k9 : wkS N L0 (flkS N S) (nearS N S) k 216 = S 216 + 1 := by
        rw [wkS_ne hW (by omega) k (by omega)]
        unfold nearS
        rw [nwS_hi _ (by omega) (by decide), stS_ge _ (by omega)]
        exact upf_hit
      rw [if_neg (by omega)] at k3
      refine c_work (d := d) hS hN hC hW hsep g1 y3 (by omega) (by omega) (by omega) (by omega) y1 y4 k8 (by omega) (by omega) fun A2 z1 z2 => ?_
      rw [iadd_of (by omega) (by omega), show (k : Int) + 1 = ((k + 1 : Nat) : Int) by omega]
      exact ih A2 z1 (by rw [z2, g2])
  exact loop 0 (Nat.zero_le _) A1 h1 rfl
end
