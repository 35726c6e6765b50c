/-! THE CLASS FLIES: its methods -/
abbrev L0 : Int × Int := (-1, 0)
theorem CS_q {Q : RES} {x a : Int} {R M A A' : MEM} (h : Q x SHX R (CS M a A)) (e : A' = A) : Q x SHX R (CS M a A') := e ▸ h
theorem CS_1 {M A : MEM} {a : Int} : CS M a A (a + 1) = A 1 := CS_k (by decide) (by decide)
theorem CS_2 {M A : MEM} {a : Int} : CS M a A (a + 2) = A 2 := CS_k (by decide) (by decide)
theorem CS_3 {M A : MEM} {a : Int} : CS M a A (a + 3) = A 3 := CS_k (by decide) (by decide)
theorem CS_4 {M A : MEM} {a : Int} : CS M a A (a + 4) = A 4 := CS_k (by decide) (by decide)
theorem stm_CS1 {M A : MEM} {a i v : Int} : stm (CS M a A) (a + 1) i v = CS M a (stm A 1 i v) := stm_CS (by decide) (by decide)
theorem stm_CS2 {M A : MEM} {a i v : Int} : stm (CS M a A) (a + 2) i v = CS M a (stm A 2 i v) := stm_CS (by decide) (by decide)
theorem stm_CS3 {M A : MEM} {a i v : Int} : stm (CS M a A) (a + 3) i v = CS M a (stm A 3 i v) := stm_CS (by decide) (by decide)
theorem stm_CS4 {M A : MEM} {a i v : Int} : stm (CS M a A) (a + 4) i v = CS M a (stm A 4 i v) := stm_CS (by decide) (by decide)
theorem CS_n {M A : MEM} {a q i : Int} (h : q < a) : CS M a A q i = M q i := by rw [CS_ne (Or.inl h)]
section
variable {d : Nat} {R M A : MEM} {a n δ : Int} {N : NTW} {S : SK} {Q : RES}
theorem c_slot {w l : Int} (hS : SR R a) (hB : 0 ≤ M a 10) (hB2 : M a 10 ≤ 2000) (w0 : 0 ≤ w) (w1 : w < 16) (l0 : 0 ≤ l) (l1 : l ≤ 16) (hq : Q (16 * w + (M a 10 + l) % 16) SHX R M) : Mw d 69 [vr a, vi w, vi l] SHX R M 0 0 Q := by
  refine Mw_of mok69 rfl fun _ _ => b_X8_slot_0 ?_
  simp (disch := omega) only [okS hS, imul_of, iadd_of, irem_of]
  refine ⟨by decide, ?_⟩
  rwa [show w * 16 + (M a 10 + l) % 16 = 16 * w + (M a 10 + l) % 16 by omega]
theorem c_left {w l : Int} (hS : SR R a) (hA : SKY δ A S) (hB : 0 ≤ S 216) (hB2 : S 216 ≤ 2000) (w0 : 0 ≤ w) (w1 : w < 16) (l0 : 1 ≤ l) (l1 : l ≤ 12) (hq : Q (S (12 * w + l - 1)) SHX R (CS M a A)) : Mw (d + 1) 70 [vr a, vi w, vi l] SHX R (CS M a A) 0 0 Q := by
  refine Mw_of mok70 rfl fun _ _ => b_X8_left_0 ?_
  have e10 : CS M a A a 10 = S 216 := by rw [CS_0]; exact sky_bt hA
  simp only [okS hS, sr0 hS, aS1 hS]
  refine c_slot hS (by omega) (by omega) w0 w1 (by omega) (by omega) ?_
  simp only [okS hS, sr0 hS, aS1 hS, CS_1]
  rw [e10, sky_on hA w l w0 w1 l0 (by omega), if_pos l1]
  exact ⟨by omega, by omega, hq⟩
theorem c_setOut {w m K : Int} (hS : SR R a) (hN : NR R n) (hC : NC M n N) (hW : WN N) (hsep : n + 12 < a) (hA : SKY δ A S) (hO : OKS N S K) (hB : S 216 ≤ 2000) (hK : K + m ≤ 2000000000) (hm : -1000000000 ≤ m) (h0 : -1 ≤ w) (h1 : w < N 0 2) (hq : ∀ A', SKY δ A' (setO N L0 S w (if 0 < m then m else 0)) → A' 2 = A 2 → Q 0 SHX R (CS M a A')) : Mw d 78 [vr a, vr n, vi w, vi m] SHX R (CS M a A) 0 0 Q := by
  refine Mw_of mok78 rfl fun _ _ => b_X8_setOut_0 ?_
  by_cases hz : 0 < m
  · rw [if_pos hz]
    rw [if_pos hz] at hq
    have s4 := hO.1 214 (by decide) (by decide)
    have s4' := ms_le hO.1 (i := 214) (by decide) (by decide)
    have s6 := hO.1 216 (by decide) (by decide)
    have hk := hO.2.1
    have hww := wn_W hW
    by_cases hw : w = -1
    · rw [if_pos hw]
      simp (disch := omega) only [okS hS, sr0 hS, aS1 hS, okN hN, nr10 hN, aN8 hN, CS_0, stm_CS0, sky_lo hA, iadd_of]
      have e : setO N L0 S w m = upf S 214 (S 214 + m) := by
        unfold setO
        rw [if_neg (by omega), if_pos (by omega)]
      rw [e] at hq
      exact hq _ (sky_lost hA) (stm_ne (by decide))
    · rw [if_neg hw]
      have w0 : 0 ≤ w := by omega
      have hb8 := wn_wb hW w w0 h1
      have s5 := hO.1 (12 * w + N 8 w - 1) (by omega) (by omega)
      have s5' := ms_le hO.1 (i := 12 * w + N 8 w - 1) (by omega) (by omega)
      have sf := sm_nn (f := S) (a := 0) 192 fun i g0 g1 => hO.1 i g0 (by omega)
      have sf2 : sm S 0 192 ≤ ms S := by
        have e1 : sm S 0 202 = sm S 0 192 + sm S (0 + ((192 : Nat) : Int)) 10 := sm_add 192 10
        have e2 := sm_nn (f := S) (a := 0 + ((192 : Nat) : Int)) 10 fun i g0 g1 => hO.1 i (by omega) (by omega)
        have e3 := hO.1 215 (by decide) (by decide)
        unfold ms
        omega
      have e8 : CS M a A (n + 8) w = N 8 w := by rw [CS_n (by omega)]; exact nc8 hC w w0 h1
      have key : ∀ g : Int, g = capg m → setO N L0 S w m = upf (upf S 214 (S 214 + (m - g))) (12 * w + N 8 w - 1) (S (12 * w + N 8 w - 1) + g) := fun g hg => by
        unfold setO
        rw [if_neg (by omega), if_neg (by omega), if_neg (by show ¬(w = -1 ∧ _); omega), hg]
      have fin : ∀ g : Int, g = capg m → SKY δ (stm (stm (stm A 0 7 (S 214 + (m - g))) 0 6 (sm S 0 192 + g)) 1 (16 * w + (S 216 + N 8 w) % 16) (S (12 * w + N 8 w - 1) + g)) (setO N L0 S w m) := fun g hg => by
        rw [key g hg]
        have h2 := sky_lost (v := S 214 + (m - g)) hA
        have e6 : upf S 214 (S 214 + (m - g)) 216 = S 216 := upf_ne (by decide)
        have h3 := sky_slot (w := w) (l := N 8 w) (v := S (12 * w + N 8 w - 1) + g) (x := sm S 0 192 + g) h2 w0 (by omega) (by omega) (by omega) (by rw [sm_out 192 (by omega), upf_ne (by omega)]; omega)
        rwa [e6] at h3
      by_cases hc : m < 999999
      · have ec : m = capg m := by unfold capg; rw [if_neg (by omega)]
        rw [if_pos hc]
        simp (disch := omega) only [okS hS, sr0 hS, aS1 hS, okN hN, nr10 hN, aN8 hN, CS_0, CS_1, CS_n, stm_CS0, stm_CS1, stm_hit, stm_neq, e8, nc8 hC, sky_lo hA, sky_fl hA, sky_bt hA, iadd_of, isub_of, imul_of, irem_of]
        rw [show w * 16 + (S 216 + N 8 w) % 16 = 16 * w + (S 216 + N 8 w) % 16 by omega, sky_on hA w (N 8 w) w0 (by omega) (by omega) (by omega), if_pos (by omega)]
        simp (disch := omega) only [iadd_of]
        refine ⟨w0, by omega, by decide, by omega, by omega, by omega, by omega, hq _ (fin m ec) ?_⟩
        rw [stm_ne (by decide), stm_ne (by decide), stm_ne (by decide)]
      · have ec : 999999 = capg m := by unfold capg; split <;> omega
        rw [if_neg hc]
        simp (disch := omega) only [okS hS, sr0 hS, aS1 hS, okN hN, nr10 hN, aN8 hN, CS_0, CS_1, CS_n, stm_CS0, stm_CS1, stm_hit, stm_neq, e8, nc8 hC, sky_lo hA, sky_fl hA, sky_bt hA, iadd_of, isub_of, imul_of, irem_of]
        rw [show w * 16 + (S 216 + N 8 w) % 16 = 16 * w + (S 216 + N 8 w) % 16 by omega, sky_on hA w (N 8 w) w0 (by omega) (by omega) (by omega), if_pos (by omega)]
        simp (disch := omega) only [iadd_of]
        refine ⟨w0, by omega, by decide, by omega, by omega, by omega, by omega, hq _ (fin 999999 ec) ?_⟩
        rw [stm_ne (by decide), stm_ne (by decide), stm_ne (by decide)]
  · rw [if_neg hz]
    rw [if_neg hz] at hq
    have e : setO N L0 S w 0 = S := by unfold setO; rw [if_pos rfl]
    rw [e] at hq
    exact hq A hA rfl
end
