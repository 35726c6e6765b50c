/-! MORE OF THE CLASS'S SKY -/
theorem stm_stm {M : MEM} {q i a b : Int} : stm (stm M q i a) q i b = stm M q i b := by
  funext p j
  unfold stm
  by_cases h : p = q ∧ j = i
  · rw [if_pos h, if_pos h]
  · rw [if_neg h, if_neg h, if_neg h]
theorem stm_comm {M : MEM} {q i a p j b : Int} (h : ¬(q = p ∧ i = j)) : stm (stm M q i a) p j b = stm (stm M p j b) q i a := by
  funext r k
  unfold stm
  by_cases h1 : r = p ∧ k = j
  · have h2 : ¬(r = q ∧ k = i) := fun z => h ⟨by omega, by omega⟩
    rw [if_pos h1, if_neg h2, if_pos h1]
  · rw [if_neg h1, if_neg h1]
theorem stm_self {M : MEM} {q i : Int} : stm M q i (M q i) = M := by
  funext r k
  unfold stm
  by_cases h1 : r = q ∧ k = i
  · rw [if_pos h1, h1.1, h1.2]
  · rw [if_neg h1]
theorem CS_of {X M : MEM} {a : Int} (h : ∀ q, q < a ∨ a + 5 ≤ q → X q = M q) : X = CS M a (fun r => X (a + r)) := by
  funext q
  unfold CS
  by_cases h1 : a ≤ q ∧ q < a + 5
  · rw [if_pos h1]
    show X q = X (a + (q - a))
    rw [show a + (q - a) = q by omega]
  · rw [if_neg h1, h q (by omega)]
/-- an empty sky -/
def zS (v : Int) : SK := fun i => if i = 217 then v else 0
theorem zS_ne {v i : Int} (h : i ≠ 217) : zS v i = 0 := if_neg h
theorem zS_hit {v : Int} : zS v 217 = v := if_pos rfl
/-- a gust on a way -/
def blP (S : SK) (w j : Int) : SK := fun i => if i = 12 * w + 11 then S (12 * w + 11) + S (12 * w + 10) else if 12 * w + 10 - j < i ∧ i < 12 * w + 11 then S (i - 1) else S i
def blS (S : SK) (w : Int) : SK := upf (blP S w 10) (12 * w) 0
theorem blP_0 {S : SK} {w : Int} : blP S w 0 = upf S (12 * w + 11) (S (12 * w + 11) + S (12 * w + 10)) := by
  funext i
  unfold blP upf
  by_cases h : i = 12 * w + 11
  · rw [if_pos h, if_pos h]
  · rw [if_neg h, if_neg h, if_neg (by omega)]
theorem blP_step {S : SK} {w j : Int} (h0 : 0 ≤ j) : upf (blP S w j) (12 * w + 10 - j) (S (12 * w + 10 - j - 1)) = blP S w (j + 1) := by
  funext i
  unfold blP upf
  by_cases h : i = 12 * w + 10 - j
  · rw [if_pos h, if_neg (by omega), if_pos (by omega), h]
  · rw [if_neg h]
    dsimp only
    by_cases h1 : i = 12 * w + 11
    · rw [if_pos h1, if_pos h1]
    · rw [if_neg h1, if_neg h1]
      by_cases h2 : 12 * w + 10 - j < i ∧ i < 12 * w + 11
      · rw [if_pos h2, if_pos (by omega)]
      · rw [if_neg h2, if_neg (by omega)]
theorem blP_lo {S : SK} {w j i : Int} (h : i ≤ 12 * w + 10 - j) (h0 : 0 ≤ j) : blP S w j i = S i := by
  unfold blP
  rw [if_neg (by omega), if_neg (by omega)]
theorem blP_out {S : SK} {w j i : Int} (h : i < 12 * w ∨ 12 * w + 12 ≤ i) (h1 : j ≤ 10) : blP S w j i = S i := by
  unfold blP
  rw [if_neg (by omega), if_neg (by omega)]
theorem blS_out {S : SK} {w i : Int} (h : i < 12 * w ∨ 12 * w + 12 ≤ i) : blS S w i = S i := by
  unfold blS
  rw [upf_ne (by omega), blP_out h (by decide)]
theorem blS_val {S : SK} {w k : Int} (h0 : 0 ≤ k) (h1 : k < 12) : blS S w (12 * w + k) = if k = 11 then S (12 * w + 11) + S (12 * w + 10) else if k = 0 then 0 else S (12 * w + k - 1) := by
  unfold blS
  by_cases h : k = 0
  · rw [upf_eq (by omega), if_neg (by omega), if_pos h]
  · rw [upf_ne (by omega)]
    unfold blP
    by_cases h2 : k = 11
    · rw [if_pos (by omega), if_pos h2]
    · rw [if_neg (by omega), if_neg h2, if_pos (by omega), if_neg h]
theorem sm_bl {S : SK} {w : Int} (h0 : 0 ≤ w) (h1 : w < 16) : sm (blS S w) 0 192 = sm S 0 192 := by
  obtain ⟨n, rfl⟩ := Int.eq_ofNat_of_zero_le h0
  have hn : n < 16 := by omega
  have e : 192 = 12 * n + (12 + (180 - 12 * n)) := by omega
  have c1 : (0 : Int) + ((12 * n : Nat) : Int) = 12 * (n : Int) := by omega
  have k12 : sm (blS S n) (12 * n) 12 = sm S (12 * n) 12 := by
    have v : ∀ k : Nat, k < 12 → blS S n (12 * (n : Int) + (k : Int)) = if (k : Int) = 11 then S (12 * n + 11) + S (12 * n + 10) else if (k : Int) = 0 then 0 else S (12 * n + k - 1) := fun k hk => blS_val (by omega) (by omega)
    simp only [sm, v 0 (by decide), v 1 (by decide), v 2 (by decide), v 3 (by decide), v 4 (by decide), v 5 (by decide), v 6 (by decide), v 7 (by decide), v 8 (by decide), v 9 (by decide), v 10 (by decide), v 11 (by decide)]
    have q : ∀ k : Nat, 12 * (n : Int) + ((k + 1 : Nat) : Int) - 1 = 12 * (n : Int) + (k : Int) := fun k => by omega
    have q1 := q 0
    have q2 := q 1
    have q3 := q 2
    have q4 := q 3
    have q5 := q 4
    have q6 := q 5
    have q7 := q 6
    have q8 := q 7
    have q9 := q 8
    have q10 := q 9
    simp only [Nat.zero_add, Nat.reduceAdd] at q1 q2 q3 q4 q5 q6 q7 q8 q9 q10
    have z1 : (12 * (n : Int) + 11) = 12 * (n : Int) + ((11 : Nat) : Int) := by omega
    have z2 : (12 * (n : Int) + 10) = 12 * (n : Int) + ((10 : Nat) : Int) := by omega
    rw [if_neg (by decide), if_pos (by decide), if_neg (by decide), if_neg (by decide), if_neg (by decide), if_neg (by decide), if_neg (by decide), if_neg (by decide), if_neg (by decide), if_neg (by decide), if_neg (by decide), if_neg (by decide), if_neg (by decide), if_neg (by decide), if_neg (by decide), if_neg (by decide), if_neg (by decide), if_neg (by decide), if_neg (by decide), if_neg (by decide), if_neg (by decide), if_neg (by decide), if_pos (by decide), q1, q2, q3, q4, q5, q6, q7, q8, q9, q10, z1, z2]
    omega
  rw [e, sm_add, sm_add, sm_add, sm_add, c1, k12, sm_congr (f := blS S n) (g := S) (12 * n) fun i _ h => blS_out (by omega), sm_congr (f := blS S n) (g := S) (180 - 12 * n) fun i h _ => blS_out (by omega)]
section
variable {d : Nat} {R M A : MEM} {a n δ : Int} {N : NTW} {S : SK} {Q : RES}
theorem c_isStill {K : Int} (hS : SR R a) (hN : NR R n) (hC : NC M n N) (hW : WN N) (hsep : n + 12 < a) (hA : SKY δ A S) (hO : OKS N S K) (hq1 : still N S → Q 1 SHX R (CS M a A)) (hq0 : ¬ still N S → Q 0 SHX R (CS M a A)) : Mw d 80 [vr a, vr n] SHX R (CS M a A) 0 0 Q := by
  refine Mw_of mok80 rfl fun _ _ => b_X8_isStill_0 ?_
  have hT := wn_T hW
  have g6 := sm_nn (f := S) (a := 0) 192 fun i z0 z1 => hO.1 i z0 (by omega)
  obtain ⟨fl, hfl⟩ : ∃ z, z = sm S 0 192 := ⟨_, rfl⟩
  rw [okS hS, CS_0, sky_fl hA, ← hfl]
  rw [← hfl] at g6
  have sz : still N S → fl = 0 := fun z => hfl.trans z.1
  by_cases hf : 0 < fl
  · rw [if_pos hf]
    exact hq0 fun z => by have := sz z; omega
  · rw [if_neg hf]
    have f0 : sm S 0 192 = 0 := by rw [← hfl]; omega
    have loop : ∀ k : Nat, k ≤ (N 0 0).toNat → (∀ t, 0 ≤ t → t < (k : Int) → (N 1 t = 0 → S (192 + t) = 0) ∧ (N 1 t = 5 → S (192 + t) < N 2 t)) → Go d 80 Q 7 [vr a, vr n, vi (k : Int), vn] [] SHX R (CS M a A) 0 0 := by
      refine uptoN ?_ ?_
      · intro h
        refine b_X8_isStill_7 ?_
        rw [okN hN, CS_n (show n < a by omega), nc_T hC, if_neg (by omega)]
        exact hq1 ⟨f0, fun t t0 t1 => h t t0 (by omega)⟩
      · intro k hk ih h
        refine b_X8_isStill_7 ?_
        have n1 : M (n + 1) k = N 1 k := nc1 hC k (by omega) (by omega)
        have n2 : M (n + 2) k = N 2 k := nc2 hC k (by omega) (by omega)
        have e9 := sky_th hA k (by omega) (by omega)
        have s9 := hO.1 (192 + (k : Int)) (by omega) (by omega)
        rw [okN hN, CS_n (show n < a by omega), nc_T hC, if_pos (by omega)]
        simp (disch := omega) only [okS hS, okN hN, nr1 hN, aN1 hN, sr2 hS, aS3 hS, nr2 hN, aN2 hN, CS_3, CS_n, n1, n2, e9]
        rw [iadd_of (by omega) (by omega), show (k : Int) + 1 = ((k + 1 : Nat) : Int) by omega]
        have nx : (N 1 k = 0 → S (192 + (k : Int)) = 0) → (N 1 k = 5 → S (192 + (k : Int)) < N 2 k) → ∀ t, 0 ≤ t → t < ((k + 1 : Nat) : Int) → (N 1 t = 0 → S (192 + t) = 0) ∧ (N 1 t = 5 → S (192 + t) < N 2 t) := fun z1 z2 t t0 t1 => by
          by_cases ht : t = (k : Int)
          · rw [ht]; exact ⟨z1, z2⟩
          · exact h t t0 (by omega)
        have no : ¬ ((N 1 k = 0 → S (192 + (k : Int)) = 0) ∧ (N 1 k = 5 → S (192 + (k : Int)) < N 2 k)) → Q 0 SHX R (CS M a A) := fun z => hq0 fun y => z (y.2 k (by omega) (by omega))
        refine ⟨by omega, by omega, ?_⟩
        by_cases c0 : N 1 k = 0
        · rw [if_pos c0]
          refine ⟨by omega, by omega, ?_⟩
          by_cases cs : 0 < S (192 + (k : Int))
          · rw [if_pos cs]
            exact no fun z => by have := z.1 c0; omega
          · rw [if_neg cs, if_neg (show ¬ N 1 k = 5 by omega)]
            exact ih (nx (fun _ => by omega) fun z => by omega)
        · rw [if_neg c0]
          by_cases c5 : N 1 k = 5
          · rw [if_pos c5]
            refine ⟨by omega, by omega, by omega, by omega, ?_⟩
            by_cases cs : S (192 + (k : Int)) < N 2 k
            · rw [if_pos cs]
              exact ih (nx (fun z => by omega) fun _ => cs)
            · rw [if_neg cs]
              exact no fun z => cs (z.2 c5)
          · rw [if_neg c5]
            exact ih (nx (fun z => by omega) fun z => by omega)
    exact loop 0 (Nat.zero_le _) fun t t0 t1 => by omega
theorem c_clear {v : Int} (hS : SR R a) (hq : ∀ A', SKY 0 A' (zS v) → Q 0 SHX R (CS M a A')) : Mw d 67 [vr a, vi v] SHX R (CS M a A) 0 0 Q := by
  refine Mw_of mok67 rfl fun _ _ => b_X8_clear_0 ?_
  have l2 : ∀ i : Int, 0 ≤ i → i ≤ 10 → ∀ A', (∀ j, 0 ≤ j → j < 256 → A' 1 j = 0) → (∀ j, 0 ≤ j → j < i → A' 3 j = 0 ∧ A' 4 j = 0) → Go d 67 Q 16 [vr a, vi v, vi i] [] SHX R (CS M a A') 0 0 := by
    refine upto ?_ ?_
    · intro A' h1 h2
      refine b_X8_clear_16 ?_
      rw [if_neg (by decide)]
      simp only [okS hS, stm_CS0]
      refine hq _ ⟨fun w l w0 w1 l0 l1 => ?_, fun t t0 t1 => ?_, fun t t0 t1 => ?_, ?_, ?_, ?_, ?_, ?_, ?_, ?_⟩
      · simp (disch := omega) only [stm_neq]
        have e : zS v 216 = 0 := zS_ne (by decide)
        rw [h1 _ (by rw [e]; omega) (by rw [e]; omega)]
        split
        · rw [zS_ne (by omega)]
        · rfl
      · simp (disch := omega) only [stm_neq, zS_ne]
        exact (h2 t t0 t1).1
      · simp (disch := omega) only [stm_neq, zS_ne]
        exact (h2 t t0 t1).2
      · simp (disch := omega) only [stm_neq, stm_hit, zS_ne]; rfl
      · simp (disch := omega) only [stm_neq, stm_hit, zS_ne]
      · simp (disch := omega) only [stm_neq, stm_hit]
        exact (sm_0 192 fun i _ g1 => zS_ne (by omega)).symm
      · simp (disch := omega) only [stm_neq, stm_hit, zS_ne]
      · simp (disch := omega) only [stm_neq, stm_hit, zS_ne]
      · simp (disch := omega) only [stm_neq, stm_hit, zS_hit]
      · simp (disch := omega) only [stm_neq, stm_hit, zS_ne]
    · intro i i0 i1 ih A' h1 h2
      refine b_X8_clear_16 ?_
      rw [if_pos i1]
      simp (disch := omega) only [okS hS, sr0 hS, aS1 hS, sr2 hS, aS3 hS, sr3 hS, aS4 hS, stm_CS3, stm_CS4, iadd_of]
      refine ⟨i0, by omega, i0, by omega, ih _ (fun j j0 j1 => ?_) fun j j0 j1 => ?_⟩
      · simp (disch := omega) only [stm_neq]; exact h1 j j0 j1
      · by_cases hj : j = i
        · subst hj
          rw [stm_hit, stm_neq (by omega), stm_hit]
          exact ⟨rfl, rfl⟩
        · simp (disch := omega) only [stm_neq]; exact h2 j j0 (by omega)
  have l1 : ∀ i : Int, 0 ≤ i → i ≤ 256 → ∀ A', (∀ j, 0 ≤ j → j < i → A' 1 j = 0) → Go d 67 Q 2 [vr a, vi v, vi i] [] SHX R (CS M a A') 0 0 := by
    refine upto ?_ ?_
    · intro A' h1
      refine b_X8_clear_2 ?_
      rw [okS hS, sr0 hS, hS.2.1.2.1]
      refine bud_iff.mpr ⟨rfl, ?_⟩
      rw [if_neg (show ¬ (256 : Int) < Int.ofNat (100, 256).snd by decide)]
      exact l2 0 (by decide) (by decide) A' h1 fun j j0 j1 => by omega
    · intro i i0 i1 ih A' h1
      refine b_X8_clear_2 ?_
      rw [okS hS, sr0 hS, hS.2.1.2.1]
      refine bud_iff.mpr ⟨rfl, ?_⟩
      rw [if_pos (show i < Int.ofNat (100, 256).snd from i1)]
      simp (disch := omega) only [okS hS, sr0 hS, aS1 hS, sr2 hS, aS3 hS, sr3 hS, aS4 hS, stm_CS1, iadd_of]
      refine ⟨i0, by omega, ih _ fun j j0 j1 => ?_⟩
      by_cases hj : j = i
      · rw [hj, stm_hit]
      · rw [stm_neq (by omega)]; exact h1 j j0 (by omega)
  exact l1 0 (by decide) (by decide) A fun j j0 j1 => by omega
theorem c_settle {t m K : Int} (hS : SR R a) (hA : SKY δ A S) (hO : OKS N S K) (hK : K + m ≤ 1000000000) (t0 : 0 ≤ t) (t1 : t < 10) (m0 : 0 ≤ m) (hb0 : 0 ≤ S 212 + δ) (hb : S 212 + δ + m ≤ 1000000000) (hq : ∀ A', SKY (δ + m) A' (upf S (192 + t) (S (192 + t) + m)) → Q 0 SHX R (CS M a A')) : Mw d 73 [vr a, vi t, vi m] SHX R (CS M a A) 0 0 Q := by
  refine Mw_of mok73 rfl fun _ _ => b_X8_settle_0 ?_
  have s1 := hO.1 (192 + t) (by omega) (by omega)
  have s2 := ms_le hO.1 (i := 192 + t) (by omega) (by omega)
  have s3 := hO.2.1
  have e9 := sky_th hA t t0 t1
  have eb := sky_be hA
  simp (disch := omega) only [okS hS, sr2 hS, aS3 hS, CS_3, CS_0, stm_CS3, stm_CS0, stm_neq, e9, eb, iadd_of]
  refine ⟨t0, t1, t0, t1, hq _ ?_⟩
  obtain ⟨a1, a2, a3, a4, a5, a6, a7, a8, a9, a10⟩ := sky_there (v := S (192 + t) + m) hA t0 t1
  refine ⟨fun w l w0 w1 l0 l1 => by rw [stm_neq (by omega)]; exact a1 w l w0 w1 l0 l1, fun u u0 u1 => by rw [stm_neq (by omega)]; exact a2 u u0 u1, fun u u0 u1 => by rw [stm_neq (by omega)]; exact a3 u u0 u1, ?_, by rw [stm_neq (by omega)]; exact a5, by rw [stm_neq (by omega)]; exact a6, by rw [stm_neq (by omega)]; exact a7, by rw [stm_neq (by omega)]; exact a8, by rw [stm_neq (by omega)]; exact a9, by rw [stm_neq (by omega)]; exact a10⟩
  rw [stm_hit, upf_ne (by omega)]
  omega
theorem sky_begun {v : Int} (h : SKY δ A S) : SKY (δ + S 212 - v) A (upf S 212 v) := by
  obtain ⟨a1, a2, a3, a4, a5, a6, a7, a8, a9, a10⟩ := h
  have e : ∀ i, i ≠ 212 → upf S 212 v i = S i := fun i hi => upf_ne hi
  refine ⟨fun w l w0 w1 l0 l1 => ?_, fun u u0 u1 => ?_, fun u u0 u1 => ?_, ?_, ?_, ?_, ?_, ?_, ?_, ?_⟩
  · rw [e 216 (by omega), a1 w l w0 w1 l0 l1]
    split
    · rw [e _ (by omega)]
    · rfl
  · rw [e _ (by omega)]; exact a2 u u0 u1
  · rw [e _ (by omega)]; exact a3 u u0 u1
  · rw [upf_hit]; omega
  · rw [e _ (by omega)]; exact a5
  · rw [sm_out 192 (by omega)]; exact a6
  · rw [e _ (by omega)]; exact a7
  · rw [e _ (by omega)]; exact a8
  · rw [e _ (by omega)]; exact a9
  · rw [e _ (by omega)]; exact a10
theorem c_lose {w l K : Int} (hS : SR R a) (hA : SKY δ A S) (hO : OKS N S K) (hK : K ≤ 1000000000) (hB : S 216 ≤ 1900) (w0 : 0 ≤ w) (w1 : w < 16) (l0 : 1 ≤ l) (l1 : l ≤ 12) (hp : 0 < S (12 * w + l - 1)) (hq : ∀ A', SKY δ A' (upf (upf S 214 (S 214 + 1)) (12 * w + l - 1) (S (12 * w + l - 1) - 1)) → Q 0 SHX R (CS M a A')) : Mw (d + 1) 74 [vr a, vi w, vi l] SHX R (CS M a A) 0 0 Q := by
  refine Mw_of mok74 rfl fun _ _ => b_X8_lose_0 ?_
  have s6 := hO.1 216 (by decide) (by decide)
  have s4 := hO.1 214 (by decide) (by decide)
  have s4' := ms_le hO.1 (i := 214) (by decide) (by decide)
  have s5' := ms_le hO.1 (i := 12 * w + l - 1) (by omega) (by omega)
  have hk := hO.2.1
  have sf := sm_nn (f := S) (a := 0) 192 fun i g0 g1 => hO.1 i g0 (by omega)
  have sf2 : sm S 0 192 ≤ ms S := by
    have e1 : sm S 0 202 = sm S 0 192 + sm S (0 + ((192 : Nat) : Int)) 10 := sm_add 192 10
    have e2 := sm_nn (f := S) (a := 0 + ((192 : Nat) : Int)) 10 fun i g0 g1 => hO.1 i (by omega) (by omega)
    have e3 := hO.1 215 (by decide) (by decide)
    unfold ms
    omega
  have e10 : CS M a A a 10 = S 216 := by rw [CS_0]; exact sky_bt hA
  have eo := sky_on hA w l w0 w1 l0 (by omega)
  rw [if_pos l1] at eo
  rw [okS hS, okS hS]
  refine c_slot (d := d) hS (by omega) (by omega) w0 w1 (by omega) (by omega) ?_
  rw [e10]
  simp (disch := omega) only [okS hS, sr0 hS, aS1 hS, CS_0, CS_1, stm_CS0, stm_CS1, stm_neq, sky_fl hA, sky_lo hA, eo, iadd_of, isub_of]
  refine ⟨by omega, by omega, by omega, by omega, hq _ ?_⟩
  have h2 := sky_lost (v := S 214 + 1) hA
  have e6 : upf S 214 (S 214 + 1) 216 = S 216 := upf_ne (by decide)
  have h3 := sky_slot (w := w) (l := l) (v := S (12 * w + l - 1) - 1) (x := sm S 0 192 - 1) h2 w0 w1 l0 l1 (by rw [sm_out 192 (by omega), upf_ne (by omega)]; omega)
  rw [e6] at h3
  rw [stm_comm (by omega), stm_comm (q := 1) (p := 0) (j := 7) (by omega), stm_comm (q := 1) (p := 0) (j := 6) (by omega)]
  exact h3
theorem c_onWay {w K : Int} (hS : SR R a) (hA : SKY δ A S) (hO : OKS N S K) (hK : K ≤ 1000000000) (hB : S 216 ≤ 1900) (w0 : 0 ≤ w) (w1 : w < 16) (hq : Q (sm S (12 * w) 12) SHX R (CS M a A)) : Mw (d + 1) 71 [vr a, vi w] SHX R (CS M a A) 0 0 Q := by
  refine Mw_of mok71 rfl fun _ _ => b_X8_onWay_0 ?_
  have s6 := hO.1 216 (by decide) (by decide)
  have e10 : CS M a A a 10 = S 216 := by rw [CS_0]; exact sky_bt hA
  have nnw : ∀ k : Nat, k ≤ 12 → 0 ≤ sm S (12 * w) k ∧ sm S (12 * w) k ≤ K := fun k hk => by
    refine ⟨sm_nn k fun i g0 g1 => hO.1 i (by omega) (by omega), ?_⟩
    obtain ⟨u, rfl⟩ := Int.eq_ofNat_of_zero_le w0
    have b1 := sm_mono (f := S) (a := 12 * (u : Int)) k 12 hk fun i g0 g1 => hO.1 i (by omega) (by omega)
    have b2 : sm S 0 (12 * u + 12) = sm S 0 (12 * u) + sm S (0 + ((12 * u : Nat) : Int)) 12 := sm_add _ _
    rw [show (0 : Int) + ((12 * u : Nat) : Int) = 12 * (u : Int) by omega] at b2
    have b3 := sm_nn (f := S) (a := 0) (12 * u) fun i g0 g1 => hO.1 i (by omega) (by omega)
    have b4 := sm_mono (f := S) (a := 0) (12 * u + 12) 202 (by omega) fun i g0 g1 => hO.1 i (by omega) (by omega)
    have b5 := hO.2.1
    have b6 := hO.1 214 (by decide) (by decide)
    have b7 := hO.1 215 (by decide) (by decide)
    unfold ms at b5
    omega
  have loop : ∀ k : Nat, k ≤ 12 → Go (d + 1) 71 Q 4 [vr a, vi w, vi (sm S (12 * w) k), vi ((k : Int) + 1)] [] SHX R (CS M a A) 0 0 := by
    refine uptoN ?_ ?_
    · refine b_X8_onWay_4 ?_
      rw [if_pos (by decide)]
      exact hq
    · intro k hk ih
      refine b_X8_onWay_4 ?_
      rw [if_neg (by omega), okS hS, okS hS]
      refine c_slot (d := d) hS (by omega) (by omega) w0 w1 (by omega) (by omega) ?_
      have eo := sky_on hA w ((k : Int) + 1) w0 w1 (by omega) (by omega)
      rw [if_pos (by omega), show 12 * w + ((k : Int) + 1) - 1 = 12 * w + k by omega] at eo
      have b1 := nnw k (by omega)
      have b2 := nnw (k + 1) (by omega)
      have b3 : sm S (12 * w) (k + 1) = sm S (12 * w) k + S (12 * w + k) := rfl
      rw [e10]
      simp (disch := omega) only [okS hS, sr0 hS, aS1 hS, CS_1, eo, iadd_of]
      rw [← b3, show (k : Int) + 1 = ((k + 1 : Nat) : Int) by omega]
      exact ⟨by omega, by omega, ih⟩
  exact loop 0 (Nat.zero_le _)
theorem c_atTowers {K : Int} (hS : SR R a) (hA : SKY δ A S) (hO : OKS N S K) (hK : K ≤ 1000000000) (hq : Q (sm S 192 10) SHX R (CS M a A)) : Mw d 72 [vr a] SHX R (CS M a A) 0 0 Q := by
  refine Mw_of mok72 rfl fun _ _ => b_X8_atTowers_0 ?_
  have nnw : ∀ k : Nat, k ≤ 10 → 0 ≤ sm S 192 k ∧ sm S 192 k ≤ K := fun k hk => by
    refine ⟨sm_nn k fun i g0 g1 => hO.1 i (by omega) (by omega), ?_⟩
    have b1 := sm_mono (f := S) (a := 192) k 10 hk fun i g0 g1 => hO.1 i (by omega) (by omega)
    have b2 : sm S 0 202 = sm S 0 192 + sm S (0 + ((192 : Nat) : Int)) 10 := sm_add 192 10
    have b3 := sm_nn (f := S) (a := 0) 192 fun i g0 g1 => hO.1 i (by omega) (by omega)
    rw [show (0 : Int) + ((192 : Nat) : Int) = 192 by decide] at b2
    have b5 := hO.2.1
    have b6 := hO.1 214 (by decide) (by decide)
    have b7 := hO.1 215 (by decide) (by decide)
    unfold ms at b5
    omega
  have loop : ∀ k : Nat, k ≤ 10 → Go d 72 Q 4 [vr a, vi (sm S 192 k), vi (k : Int)] [] SHX R (CS M a A) 0 0 := by
    refine uptoN ?_ ?_
    · refine b_X8_atTowers_4 ?_
      rw [if_neg (by decide)]
      exact hq
    · intro k hk ih
      refine b_X8_atTowers_4 ?_
      rw [if_pos (by omega)]
      have e9 := sky_th hA k (by omega) (by omega)
      have b1 := nnw k (by omega)
      have b2 := nnw (k + 1) (by omega)
      have b3 : sm S 192 (k + 1) = sm S 192 k + S (192 + k) := rfl
      simp (disch := omega) only [okS hS, sr2 hS, aS3 hS, CS_3, e9, iadd_of]
      rw [← b3, show (k : Int) + 1 = ((k + 1 : Nat) : Int) by omega]
      exact ⟨by omega, by omega, ih⟩
  exact loop 0 (Nat.zero_le _)
end
