/-! THE CLASS'S BEAT -/
section
variable {d : Nat} {R M A : MEM} {a n δ : Int} {N : NTW} {S : SK} {Q : RES}
theorem c_work {t f K : Int} (hS : SR R a) (hN : NR R n) (hC : NC M n N) (hW : WN N) (hsep : n + 12 < a) (hA : SKY δ A S) (hO : OKS N S K) (hB : S 216 ≤ 2000) (hK : K + f + 99 ≤ 1000000000) (t0 : 0 ≤ t) (t1 : t < N 0 0) (f0 : 0 ≤ f) (hf : A 2 t = f) (h13 : 0 ≤ S 213) (h13' : S 213 ≤ 1000000000) (hca : S (202 + t) ≤ 1000000) (hq : ∀ A', SKY δ A' (doS N L0 S t f) → A' 2 = A 2 → Q 0 SHX R (CS M a A')) : Mw (d + 1) 77 [vr a, vr n, vi t] SHX R (CS M a A) 0 0 Q := by
  refine Mw_of mok77 rfl fun _ _ => b2_X8_work_0 ?_
  have hT := wn_T hW
  have e3 := wn_fi hW t t0 t1
  have e4 := wn_se hW t t0 t1
  have s1 := hO.1 (192 + t) (by omega) (by omega)
  have s2 := ms_le hO.1 (i := 192 + t) (by omega) (by omega)
  have s3 := hO.2.1
  have s4 := hO.1 214 (by decide) (by decide)
  have s4' := ms_le hO.1 (i := 214) (by decide) (by decide)
  have s5 := hO.1 215 (by decide) (by decide)
  have s5' := ms_le hO.1 (i := 215) (by decide) (by decide)
  have s6 := hO.1 (202 + t) (by omega) (by omega)
  have n1 : M (n + 1) t = N 1 t := nc1 hC t t0 t1
  have n2 : M (n + 2) t = N 2 t := nc2 hC t t0 t1
  have n3 : M (n + 3) t = N 3 t := nc3 hC t t0 t1
  have n4 : M (n + 4) t = N 4 t := nc4 hC t t0 t1
  have tail : ∀ A1 : MEM, SKY δ A1 (cameS S t f) → A1 2 = A 2 → Go (d + 1) 77 Q 32 [vr a, vr n, vi t, vi (N 2 t), vi (N 3 t), vi f, vi (f + S (192 + t)), vn] [] SHX R (CS M a A1) 0 0 := by
    intro A1 hA1 hA2
    have o1 := cameS_ok (t := t) (f := f) hO t0 t1 hT.2
    have x9 : cameS S t f (192 + t) = S (192 + t) := cameS_ne (by omega)
    have x3 : cameS S t f 213 = S 213 := cameS_ne (by omega)
    have x4 : cameS S t f 214 = S 214 := cameS_ne (by omega)
    have x5 : cameS S t f 215 = S 215 := cameS_ne (by omega)
    have x6 : cameS S t f 216 = S 216 := cameS_ne (by omega)
    have so : ∀ {d : Nat} {w m K : Int} {S' : SK} {A' : MEM}, SKY δ A' S' → OKS N S' K → S' 216 ≤ 2000 → K + m ≤ 2000000000 → 0 ≤ m → (w = N 3 t ∨ w = N 4 t) → ∀ {Q : RES}, (∀ A'', SKY δ A'' (setO N L0 S' w m) → A'' 2 = A' 2 → Q 0 SHX R (CS M a A'')) → Mw d 78 [vr a, vr n, vi w, vi m] SHX R (CS M a A') 0 0 Q := fun {d w m K S' A'} g1 g2 g3 g4 g5 g6 {Q} g7 => c_setOut hS hN hC hW hsep g1 g2 g3 g4 (by omega) (by rcases g6 with rfl | rfl <;> omega) (by rcases g6 with rfl | rfl <;> omega) (by
      have e : (if 0 < m then m else 0) = m := by split <;> omega
      rw [e]; exact g7)
    unfold doS doT at hq
    rw [x9] at hq
    refine b2_X8_work_32 ?_
    rw [okN hN, nr1 hN, aN1 hN, CS_n (show n + 1 < a by omega), n1]
    refine ⟨t0, by omega, ?_⟩
    by_cases c2 : N 1 t = 2
    · rw [if_neg (show ¬ N 1 t = 5 by omega), if_pos c2] at hq
      rw [if_pos c2]
      have c5 := hO.2.2.2.2 t t0 t1 c2
      simp (disch := omega) only [okN hN, nr2 hN, aN2 hN, nr3 hN, aN3 hN, okS hS, sr1 hS, aS2 hS, sr2 hS, aS3 hS, sr3 hS, aS4 hS, nr1 hN, aN1 hN, nr4 hN, aN4 hN, idiv_of, irem_of, stm_CS3]
      refine ⟨by decide, t0, by omega, by decide, so (sky_there hA1 t0 (by omega)) (OKS_stay (v := (f + S (192 + t)) % 2) o1 (by omega) t0 t1 hT.2 (by omega)) (by rw [upf_ne (by omega), x6]; exact hB) (by rw [x9]; omega) (by omega) (Or.inl rfl) fun A2 hA2' h2 => ?_⟩
      simp (disch := omega) only [okN hN, nr2 hN, aN2 hN, nr3 hN, aN3 hN, okS hS, sr1 hS, aS2 hS, sr2 hS, aS3 hS, sr3 hS, aS4 hS, nr1 hN, aN1 hN, nr4 hN, aN4 hN, CS_n, n4]
      refine ⟨t0, by omega, by decide, so hA2' (setO_ok hW (OKS_stay (v := (f + S (192 + t)) % 2) o1 (by omega) t0 t1 hT.2 (by omega)) (by omega) e3.1 e3.2) (by rw [setO_ne (by decide) (by decide) (fun y => by have := slot_rng hW y e3.2; have := wn_W hW; omega), upf_ne (by omega), x6]; exact hB) (by rw [x9]; omega) (by omega) (Or.inr rfl) fun A3 hA3 h3 => ?_⟩
      by_cases cf : f = 0
      · refine hq A3 ?_ (by rw [h3, h2, stm_ne (by decide), hA2])
        rw [if_pos cf]
        have e0 : (f + S (192 + t)) / 2 = 0 := by omega
        have e1 : (f + S (192 + t)) % 2 = S (192 + t) := by omega
        rw [e0, e1] at hA3
        have z : ∀ (Y : SK) (u : Int), setO N L0 Y u 0 = Y := fun Y u => by unfold setO; rw [if_pos rfl]
        rw [z, z, upf_self x9] at hA3
        exact hA3
      · rw [if_neg cf] at hq
        exact hq A3 hA3 (by rw [h3, h2, stm_ne (by decide), hA2])
    rw [if_neg c2]
    by_cases c3 : N 1 t = 3
    · rw [if_neg (show ¬ N 1 t = 5 by omega), if_neg c2, if_pos c3] at hq
      rw [if_pos c3]
      simp (disch := omega) only [okN hN, nr2 hN, aN2 hN, nr3 hN, aN3 hN, okS hS, sr1 hS, aS2 hS, sr2 hS, aS3 hS, sr3 hS, aS4 hS, nr1 hN, aN1 hN, nr4 hN, aN4 hN, irem_of, CS_n, n4]
      refine ⟨by decide, ?_⟩
      have hq' : ∀ A', SKY δ A' (setO N L0 (cameS S t f) (if f % 2 = 1 then N 3 t else N 4 t) f) → A' 2 = A 2 → Q 0 SHX R (CS M a A') := fun A' h1 h2 => hq A' (by
        by_cases cf : f = 0
        · rw [if_pos cf]
          rw [cf] at h1 ⊢
          have z : ∀ (Y : SK) (u : Int), setO N L0 Y u 0 = Y := fun Y u => by unfold setO; rw [if_pos rfl]
          rwa [z] at h1
        · rw [if_neg cf]; exact h1) h2
      by_cases co : f % 2 = 1
      · rw [if_pos co] at hq' ⊢
        exact so hA1 o1 (by omega) (by omega) f0 (Or.inl rfl) fun A2 h1 h2 => hq' A2 h1 (by rw [h2, hA2])
      · rw [if_neg co] at hq' ⊢
        exact ⟨t0, by omega, so hA1 o1 (by omega) (by omega) f0 (Or.inr rfl) fun A2 h1 h2 => hq' A2 h1 (by rw [h2, hA2])⟩
    rw [if_neg c3]
    by_cases c4 : N 1 t = 4
    · rw [if_neg (show ¬ N 1 t = 5 by omega), if_neg c2, if_neg c3, if_pos c4] at hq
      rw [if_pos c4]
      simp (disch := omega) only [okN hN, nr2 hN, aN2 hN, nr3 hN, aN3 hN, okS hS, sr1 hS, aS2 hS, sr2 hS, aS3 hS, sr3 hS, aS4 hS, nr1 hN, aN1 hN, nr4 hN, aN4 hN, stm_CS3]
      refine ⟨t0, by omega, hq _ ?_ (by rw [stm_ne (by decide), hA2])⟩
      have h3 := sky_there (t := t) (v := f + S (192 + t)) hA1 t0 (by omega)
      by_cases cf : f = 0
      · rw [if_pos cf]
        rwa [upf_self (by rw [x9]; omega)] at h3
      · rw [if_neg cf, show S (192 + t) + f = f + S (192 + t) by omega]
        exact h3
    rw [if_neg c4]
    by_cases c5 : N 1 t = 5
    · have ez := wn_sz hW t t0 t1 (by omega)
      rw [if_pos c5] at hq
      rw [if_pos c5]
      by_cases c : f + S (192 + t) < N 2 t
      · rw [if_pos (show S (192 + t) + f < N 2 t by omega), show S (192 + t) + f = f + S (192 + t) by omega] at hq
        simp (disch := omega) only [okN hN, nr2 hN, aN2 hN, nr3 hN, aN3 hN, okS hS, sr1 hS, aS2 hS, sr2 hS, aS3 hS, sr3 hS, aS4 hS, nr1 hN, aN1 hN, nr4 hN, aN4 hN, stm_CS3, CS_3, if_pos c, stm_hit, isub_of]
        refine ⟨t0, by omega, t0, by omega, so (sky_there hA1 t0 (by omega)) (OKS_stay (v := f + S (192 + t)) o1 (by omega) t0 t1 hT.2 (by omega)) (by rw [upf_ne (by omega), x6]; exact hB) (by rw [x9]; omega) (by omega) (Or.inl rfl) fun A2 h1 h2 => hq A2 ?_ (by rw [h2, stm_ne (by decide), hA2])⟩
        have z : ∀ (Y : SK) (u : Int), setO N L0 Y u 0 = Y := fun Y u => by unfold setO; rw [if_pos rfl]
        rwa [show f + S (192 + t) - (f + S (192 + t)) = 0 by omega, z] at h1
      · rw [if_neg (show ¬ S (192 + t) + f < N 2 t by omega), show S (192 + t) + f - N 2 t = f + S (192 + t) - N 2 t by omega] at hq
        simp (disch := omega) only [okN hN, nr2 hN, aN2 hN, nr3 hN, aN3 hN, okS hS, sr1 hS, aS2 hS, sr2 hS, aS3 hS, sr3 hS, aS4 hS, nr1 hN, aN1 hN, nr4 hN, aN4 hN, stm_CS3, CS_3, if_neg c, stm_hit, isub_of]
        refine ⟨t0, by omega, t0, by omega, so (sky_there hA1 t0 (by omega)) (OKS_stay (v := f + S (192 + t) - N 2 t) o1 (by omega) t0 t1 hT.2 (by omega)) (by rw [upf_ne (by omega), x6]; exact hB) (by rw [x9]; omega) (by omega) (Or.inl rfl) fun A2 h1 h2 => hq A2 ?_ (by rw [h2, stm_ne (by decide), hA2])⟩
        rwa [show f + S (192 + t) - (f + S (192 + t) - N 2 t) = N 2 t by omega] at h1
    rw [if_neg c5]
    rw [if_neg c5, if_neg c2, if_neg c3, if_neg c4] at hq
    by_cases c6 : N 1 t = 6
    · have ez := wn_sz hW t t0 t1 (by omega)
      rw [if_pos c6] at hq
      rw [if_pos c6]
      have em : imin (N 2 t) f = if f < N 2 t then f else N 2 t := rfl
      have em2 : 0 ≤ (if f < N 2 t then f else N 2 t) ∧ (if f < N 2 t then f else N 2 t) ≤ f := by split <;> omega
      have et := sky_ta hA1
      rw [x5] at et hq
      simp (disch := omega) only [okN hN, nr2 hN, aN2 hN, nr3 hN, aN3 hN, okS hS, sr1 hS, aS2 hS, sr2 hS, aS3 hS, sr3 hS, aS4 hS, nr1 hN, aN1 hN, nr4 hN, aN4 hN, CS_0, stm_CS0, em, et, isub_of, iadd_of]
      refine c_setOut hS hN hC hW hsep (sky_taken hA1) (K := K + (if f < N 2 t then f else N 2 t)) (by have := OKS_taken (v := if f < N 2 t then f else N 2 t) o1 em2.1 hT.2; rwa [x5] at this) (by rw [upf_ne (by decide), x6]; exact hB) (by omega) (by omega) e3.1 e3.2 fun A2 h1 h2 => hq A2 ?_ (by rw [h2, stm_ne (by decide), hA2])
      have e7 : (if 0 < f - N 2 t then f - N 2 t else 0) = f - (if f < N 2 t then f else N 2 t) := by split <;> split <;> omega
      rw [e7] at h1
      by_cases cf : f = 0
      · rw [if_pos cf]
        have z : ∀ (Y : SK) (u : Int), setO N L0 Y u 0 = Y := fun Y u => by unfold setO; rw [if_pos rfl]
        have e8 : (if f < N 2 t then f else N 2 t) = 0 := by split <;> omega
        rw [e8, show f - 0 = 0 by omega, z, upf_self (by omega)] at h1
        exact h1
      · rw [if_neg cf]; exact h1
    rw [if_neg c6]
    rw [if_neg c6] at hq
    by_cases c7 : N 1 t = 7
    · have ez := wn_sz hW t t0 t1 (by omega)
      rw [if_pos c7] at hq
      rw [if_pos c7]
      have et := sky_br hA1
      rw [x3] at et hq
      by_cases cf : 0 < f
      · rw [if_neg (show ¬ f = 0 by omega)] at hq
        simp (disch := omega) only [okN hN, nr2 hN, aN2 hN, nr3 hN, aN3 hN, okS hS, sr1 hS, aS2 hS, sr2 hS, aS3 hS, sr3 hS, aS4 hS, nr1 hN, aN1 hN, nr4 hN, aN4 hN, CS_0, stm_CS0, et, if_pos cf, iadd_of]
        refine so (sky_bred hA1) (OKS_out o1 (i := 213) (v := S 213 + N 2 t) (by omega) (by decide) (by decide) (by decide) hT.2) (by rw [upf_ne (by decide), x6]; exact hB) (by omega) (by omega) (Or.inl rfl) fun A2 h1 h2 => hq A2 h1 (by rw [h2, stm_ne (by decide), hA2])
      · rw [if_pos (show f = 0 by omega)] at hq
        simp (disch := omega) only [okN hN, nr2 hN, aN2 hN, nr3 hN, aN3 hN, okS hS, sr1 hS, aS2 hS, sr2 hS, aS3 hS, sr3 hS, aS4 hS, nr1 hN, aN1 hN, nr4 hN, aN4 hN, CS_0, stm_CS0, et, if_neg cf, iadd_of]
        refine so (m := 0) (sky_bred hA1) (OKS_out o1 (i := 213) (v := S 213 + 0) (by omega) (by decide) (by decide) (by decide) hT.2) (by rw [upf_ne (by decide), x6]; exact hB) (by omega) (by omega) (Or.inl rfl) fun A2 h1 h2 => hq A2 ?_ (by rw [h2, stm_ne (by decide), hA2])
        have z : ∀ (Y : SK) (u : Int), setO N L0 Y u 0 = Y := fun Y u => by unfold setO; rw [if_pos rfl]
        rwa [z, upf_self (by omega)] at h1
    rw [if_neg c7]
    rw [if_neg c7] at hq
    by_cases c8 : N 1 t = 8
    · have ez := wn_sz hW t t0 t1 (by omega)
      have g1 := Int.emod_nonneg f (show N 2 t ≠ 0 by omega)
      have g2 : f % N 2 t ≤ f := by
        by_cases hlt : f < N 2 t
        · rw [Int.emod_eq_of_lt f0 hlt]; exact Int.le_refl f
        · have := Int.emod_lt_of_pos f (show 0 < N 2 t by omega)
          omega
      rw [if_pos c8] at hq
      rw [if_pos c8]
      have et := sky_lo hA1
      rw [x4] at et hq
      simp (disch := omega) only [okN hN, nr2 hN, aN2 hN, nr3 hN, aN3 hN, okS hS, sr1 hS, aS2 hS, sr2 hS, aS3 hS, sr3 hS, aS4 hS, nr1 hN, aN1 hN, nr4 hN, aN4 hN, CS_0, stm_CS0, et, if_pos (show 0 < N 2 t by omega), irem_of, iadd_of, isub_of]
      refine ⟨by omega, so (sky_lost hA1) (K := K + f % N 2 t) (by have := OKS_lost o1 g1 hT.2; rwa [x4] at this) (by rw [upf_ne (by decide), x6]; exact hB) (by omega) (by omega) (Or.inl rfl) fun A2 h1 h2 => hq A2 ?_ (by rw [h2, stm_ne (by decide), hA2])⟩
      by_cases cf : f = 0
      · rw [if_pos cf]
        have z : ∀ (Y : SK) (u : Int), setO N L0 Y u 0 = Y := fun Y u => by unfold setO; rw [if_pos rfl]
        have e8 : f % N 2 t = 0 := by omega
        rw [e8, show f - 0 = 0 by omega, z, upf_self (by omega)] at h1
        exact h1
      · rw [if_neg cf]; exact h1
    rw [if_neg c8]
    rw [if_neg c8] at hq
    rw [okS hS]
    refine so hA1 o1 (by omega) (by omega) f0 (Or.inl rfl) fun A2 h1 h2 => hq A2 ?_ (by rw [h2, hA2])
    by_cases cf : f = 0
    · rw [if_pos cf]
      have z : ∀ (Y : SK) (u : Int), setO N L0 Y u 0 = Y := fun Y u => by unfold setO; rw [if_pos rfl]
      rwa [cf, z, ← cf] at h1
    · rw [if_neg cf]; exact h1
  have e9 := sky_th hA t t0 (by omega)
  have ec := sky_ca hA t t0 (by omega)
  by_cases hf0 : 0 < f
  · simp (disch := omega) only [okN hN, nr2 hN, aN2 hN, nr3 hN, aN3 hN, okS hS, sr1 hS, aS2 hS, sr2 hS, aS3 hS, sr3 hS, aS4 hS, nr1 hN, aN1 hN, nr4 hN, aN4 hN, CS_2, CS_3, CS_4, CS_n, n2, n3, hf, e9, ec, if_pos hf0, stm_CS4, iadd_of]
    have hk := sky_came (t := t) (v := S (202 + t) + 1) hA t0 (by omega)
    have ek : cameS S t f = upf S (202 + t) (S (202 + t) + 1) := if_pos hf0
    rw [← ek] at hk
    exact ⟨t0, by omega, t0, by omega, t0, by omega, t0, by omega, t0, by omega, t0, by omega, tail _ hk (stm_ne (by decide))⟩
  · simp (disch := omega) only [okN hN, nr2 hN, aN2 hN, nr3 hN, aN3 hN, okS hS, sr1 hS, aS2 hS, sr2 hS, aS3 hS, sr3 hS, aS4 hS, nr1 hN, aN1 hN, nr4 hN, aN4 hN, CS_2, CS_3, CS_4, CS_n, n2, n3, hf, e9, ec, if_neg hf0, iadd_of]
    have ek : cameS S t f = S := if_neg hf0
    have hk := hA
    rw [← ek] at hk
    exact ⟨t0, by omega, t0, by omega, t0, by omega, t0, by omega, tail _ hk rfl⟩
end
