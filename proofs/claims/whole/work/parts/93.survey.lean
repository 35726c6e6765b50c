/-! SIGHTS: all rows -/
noncomputable def soC (P : Nat → Prop) : Nat → Int
  | 0 => 0
  | v + 1 => @ite Int (P v) (Classical.propDecidable _) (soC P v + 1) (soC P v)
def FST (P : Nat → Prop) (L : Nat → Int) (v : Nat) (x : Int) : Prop := ∃ u : Nat, u < v ∧ P u ∧ (∀ w : Nat, w < u → ¬ P w) ∧ x = L u
def CU (P : Nat → Prop) (L : Nat → Int) (v : Nat) (a q : Int) : Prop := FST P L v a ∧ (q = 0 ∨ q = 1) ∧ (q = 0 ↔ ∀ u : Nat, u < v → P u → L u = a)
def RU (P : Nat → Prop) (L : Nat → Int) (v : Nat) (f l h : Int) : Prop := FST P L v f ∧ (∀ u : Nat, u < v → P u → l ≤ L u ∧ L u ≤ h) ∧ (∃ u : Nat, u < v ∧ P u ∧ L u = l) ∧ (∃ u : Nat, u < v ∧ P u ∧ L u = h)
def SOP (N : NTW) (M : MEM) (m z : Int) : Nat → Prop := fun u => SO N M (lay N m (u : Int)) z
def LWs (N : NTW) (m s : Int) : Nat → Int := fun u => lay N m (u : Int) s
section
variable {P : Nat → Prop} {L : Nat → Int} {v : Nat} {a q f l h x y : Int}
theorem soC_1 (hp : P v) : soC P (v + 1) = soC P v + 1 := by
  show @ite Int (P v) (Classical.propDecidable _) _ _ = _
  exact if_pos hp
theorem soC_0 (hp : ¬ P v) : soC P (v + 1) = soC P v := by
  show @ite Int (P v) (Classical.propDecidable _) _ _ = _
  exact if_neg hp
theorem soC_b : ∀ v : Nat, 0 ≤ soC P v ∧ soC P v ≤ (v : Int)
  | 0 => ⟨Int.le_refl _, Int.le_refl _⟩
  | v + 1 => by
    have ih := soC_b v
    by_cases hp : P v
    · rw [soC_1 hp]; omega
    · rw [soC_0 hp]; omega
theorem soC_no : ∀ v : Nat, soC P v = 0 → ∀ u : Nat, u < v → ¬ P u
  | 0, _, u, hu => by omega
  | v + 1, h0, u, hu => by
    by_cases hp : P v
    · have := soC_b (P := P) v
      rw [soC_1 hp] at h0
      omega
    · rw [soC_0 hp] at h0
      by_cases huv : u = v
      · rw [huv]; exact hp
      · exact soC_no v h0 u (by omega)
theorem soC_ex : ∀ v : Nat, 0 < soC P v → ∃ u : Nat, u < v ∧ P u
  | 0, h0 => absurd h0 (by show ¬ (0 : Int) < 0; decide)
  | v + 1, h0 => by
    by_cases hp : P v
    · exact ⟨v, by omega, hp⟩
    · rw [soC_0 hp] at h0
      obtain ⟨u, u1, u2⟩ := soC_ex v h0
      exact ⟨u, by omega, u2⟩
theorem FST_one (h1 : FST P L v x) (h2 : FST P L v y) : x = y := by
  obtain ⟨u, u1, u2, u3, rfl⟩ := h1
  obtain ⟨w, w1, w2, w3, rfl⟩ := h2
  by_cases hlt : u < w
  · exact absurd u2 (w3 u hlt)
  · by_cases hgt : w < u
    · exact absurd w2 (u3 w hgt)
    · rw [show u = w by omega]
theorem FST_up (h1 : FST P L v x) : FST P L (v + 1) x := by
  obtain ⟨u, u1, u2⟩ := h1
  exact ⟨u, by omega, u2⟩
theorem FST_new (h0 : soC P v = 0) (hp : P v) : FST P L (v + 1) (L v) := ⟨v, Nat.lt_succ_self v, hp, soC_no v h0, rfl⟩
theorem CU_skip (h1 : CU P L v a q) (hp : ¬ P v) : CU P L (v + 1) a q := by
  obtain ⟨h2, h3, h4⟩ := h1
  refine ⟨FST_up h2, h3, h4.trans ⟨fun z u hu hpu => ?_, fun z u hu hpu => z u (by omega) hpu⟩⟩
  by_cases huv : u = v
  · rw [huv] at hpu; exact absurd hpu hp
  · exact z u (by omega) hpu
theorem CU_step {a' q' : Int} (h1 : 0 < soC P v → CU P L v a q) (hp : P v) (ha : a' = if soC P v = 0 then L v else a) (hq : q' = if 0 < soC P v ∧ (q ≠ 0 ∨ L v ≠ a') then 1 else 0) : CU P L (v + 1) a' q' := by
  have hb := soC_b (P := P) v
  by_cases h0 : soC P v = 0
  · rw [if_pos h0] at ha
    rw [if_neg (by omega)] at hq
    subst ha hq
    refine ⟨FST_new h0 hp, Or.inl rfl, ⟨fun _ u hu hpu => ?_, fun _ => rfl⟩⟩
    by_cases huv : u = v
    · rw [huv]
    · exact absurd hpu (soC_no v h0 u (by omega))
  · rw [if_neg h0] at ha
    subst ha
    obtain ⟨h2, h3, h4⟩ := h1 (by omega)
    refine ⟨FST_up h2, ?_, ?_⟩
    · rw [hq]; split <;> simp
    · constructor
      · intro hz u hu hpu
        have hn : ¬ (0 < soC P v ∧ (q ≠ 0 ∨ L v ≠ a')) := fun z => by rw [if_pos z] at hq; omega
        have q0 : q = 0 := by
          rcases h3 with e | e
          · exact e
          · exact absurd ⟨by omega, Or.inl (by omega)⟩ hn
        by_cases huv : u = v
        · rw [huv]
          by_cases hl : L v = a'
          · exact hl
          · exact absurd ⟨by omega, Or.inr hl⟩ hn
        · exact h4.1 q0 u (by omega) hpu
      · intro hz
        rw [hq, if_neg]
        rintro ⟨_, z | z⟩
        · exact z (h4.2 fun u hu hpu => hz u (by omega) hpu)
        · exact z (hz v (Nat.lt_succ_self v) hp)
theorem RU_skip (h1 : RU P L v f l h) (hp : ¬ P v) : RU P L (v + 1) f l h := by
  obtain ⟨h2, h3, ⟨u, u1, u2⟩, ⟨w, w1, w2⟩⟩ := h1
  refine ⟨FST_up h2, fun u hu hpu => ?_, ⟨u, by omega, u2⟩, ⟨w, by omega, w2⟩⟩
  by_cases huv : u = v
  · rw [huv] at hpu; exact absurd hpu hp
  · exact h3 u (by omega) hpu
theorem RU_step {f' l' h' : Int} (h1 : 0 < soC P v → RU P L v f l h) (hp : P v) (hf : f' = if soC P v = 0 then L v else f) (hl : l' = if soC P v = 0 ∨ L v < l then L v else l) (hh : h' = if soC P v = 0 ∨ h < L v then L v else h) : RU P L (v + 1) f' l' h' := by
  have hb := soC_b (P := P) v
  by_cases h0 : soC P v = 0
  · rw [if_pos h0] at hf
    rw [if_pos (Or.inl h0)] at hl hh
    subst hf hl hh
    refine ⟨FST_new h0 hp, fun u hu hpu => ?_, ⟨v, Nat.lt_succ_self v, hp, rfl⟩, ⟨v, Nat.lt_succ_self v, hp, rfl⟩⟩
    by_cases huv : u = v
    · rw [huv]; exact ⟨Int.le_refl _, Int.le_refl _⟩
    · exact absurd hpu (soC_no v h0 u (by omega))
  · rw [if_neg h0] at hf
    obtain ⟨h2, h3, ⟨u, u1, u2, u3⟩, ⟨w, w1, w2, w3⟩⟩ := h1 (by omega)
    have cl : l' ≤ l ∧ l' ≤ L v ∧ (l' = l ∨ l' = L v) := by
      by_cases hc : L v < l
      · rw [if_pos (Or.inr hc)] at hl; omega
      · rw [if_neg (by omega)] at hl; omega
    have ch : h ≤ h' ∧ L v ≤ h' ∧ (h' = h ∨ h' = L v) := by
      by_cases hc : h < L v
      · rw [if_pos (Or.inr hc)] at hh; omega
      · rw [if_neg (by omega)] at hh; omega
    subst hf
    refine ⟨FST_up h2, fun p hpv hpp => ?_, ?_, ?_⟩
    · by_cases huv : p = v
      · rw [huv]; omega
      · have := h3 p (by omega) hpp; omega
    · rcases cl.2.2 with e | e
      · exact ⟨u, by omega, u2, by omega⟩
      · exact ⟨v, by omega, hp, by omega⟩
    · rcases ch.2.2 with e | e
      · exact ⟨w, by omega, w2, by omega⟩
      · exact ⟨v, by omega, hp, by omega⟩
theorem CR_eq (h1 : CU P L v a q) (h2 : RU P L v f l h) : (q = 0 → l = h ∧ l = a) ∧ (q ≠ 0 → l ≠ h) := by
  obtain ⟨⟨e, e1, e2, e3, e4⟩, c2, c3⟩ := h1
  obtain ⟨r1, r2, ⟨u, u1, u2, u3⟩, ⟨w, w1, w2, w3⟩⟩ := h2
  constructor
  · intro q0
    have k1 := c3.1 q0 u u1 u2
    have k2 := c3.1 q0 w w1 w2
    omega
  · intro q0 hlh
    refine q0 (c3.2 fun p hp hpp => ?_)
    have k1 := r2 p hp hpp
    have k2 := r2 e e1 e2
    omega
end
section
variable {d c : Nat} {R M X : MEM} {b n x y z t m k v u : Int} {N : NTW} {Q : RES}
theorem SOP_of {M' : MEM} (e0 : M' 364 70 = M 364 70) (e : ∀ q, 405 ≤ q → q ≤ 409 → M' q = M q) : SOP N M' m z = SOP N M m z := funext fun u => propext (SO_of e0 e)
theorem c_sv1 (hC0 : RC R) (hN : NR R n) (hS : X n 5 = N 0 1) (h3 : N 0 1 ≤ 3) (n1 : n ≤ 14) (u0 : 0 ≤ u) (u1 : u < N 0 1) (h : ∀ a q, (a = if X 355 8 = 0 then X 361 u else X 362 u) → (q = if 0 < X 355 8 ∧ (X 363 u ≠ 0 ∨ X 361 u ≠ a) then 1 else 0) → Go d 64 Q 25 [vr 355, vr n, vi m, vi z, vi k, vi y, vi (u + 1)] [] SHX R (stm (stm X 362 u a) 363 u q) 0 0) : Go d 64 Q 25 [vr 355, vr n, vi m, vi z, vi k, vi y, vi u] [] SHX R X 0 0 := by
  have K : ∀ a, (a = if X 355 8 = 0 then X 361 u else X 362 u) → Go d 64 Q 45 [vr 355, vr n, vi m, vi z, vi k, vi y, vi u] [] SHX R (stm X 362 u a) 0 0 := fun a ha => by
    have K2 : ∀ q, (q = if 0 < X 355 8 ∧ (X 363 u ≠ 0 ∨ X 361 u ≠ a) then 1 else 0) → Go d 64 Q 69 [vr 355, vr n, vi m, vi z, vi k, vi y, vi u] [] SHX R (stm (stm X 362 u a) 363 u q) 0 0 := fun q hq => by
      refine b2_X7_survey_69 ?_
      rw [iadd_of (by omega) (by omega)]
      exact h a q ha hq
    refine b2_X7_survey_45 ?_
    have e8 : stm X 362 u a 355 8 = X 355 8 := stm_neq (by omega)
    have e3 : stm X 362 u a 363 u = X 363 u := stm_neq (by omega)
    have e1 : stm X 362 u a 361 u = X 361 u := stm_neq (by omega)
    have e2 : stm X 362 u a 362 u = a := stm_hit _ _ _ _
    simp only [ok355, rc355_7 hC0, rc355_9 hC0, rc355_10 hC0, ak361, ak362, ak363, e8, e3, e1, e2]
    by_cases h8 : 0 < X 355 8
    · rw [if_pos h8]
      refine ⟨u0, by omega, ?_⟩
      by_cases h6 : X 363 u = 0
      · rw [if_pos h6]
        refine ⟨u0, by omega, u0, by omega, ?_⟩
        by_cases hr : X 361 u = a
        · rw [if_pos hr]
          exact ⟨u0, by omega, K2 0 (by rw [if_neg]; rintro ⟨_, z | z⟩; exact z h6; exact z hr)⟩
        · rw [if_neg hr]
          exact ⟨u0, by omega, K2 1 (by rw [if_pos ⟨h8, Or.inr hr⟩])⟩
      · rw [if_neg h6]
        exact ⟨u0, by omega, K2 1 (by rw [if_pos ⟨h8, Or.inl h6⟩])⟩
    · rw [if_neg h8]
      exact ⟨u0, by omega, K2 0 (by rw [if_neg fun z => h8 z.1])⟩
  refine b2_X7_survey_25 ?_
  simp only [okN hN, hS, ok355, rc355_7 hC0, rc355_9 hC0, ak361, ak362]
  rw [if_pos u1]
  by_cases h8 : X 355 8 = 0
  · rw [if_pos h8]
    exact ⟨u0, by omega, u0, by omega, K _ (by rw [if_pos h8])⟩
  · rw [if_neg h8]
    exact ⟨u0, by omega, u0, by omega, K _ (by rw [if_neg h8])⟩
theorem c_survey (hC0 : RC R) (hN : NR R n) (hC : NC M n N) (hW : WN N) (n1 : n ≤ 14) (hg : IG M N) (m0 : 0 ≤ m) (m1 : m ≤ 9) (hq : ∀ M', (∀ q j, ¬ (q = 355 ∧ j = 8) → ¬ (361 ≤ q ∧ q ≤ 363) → (q < 262 ∨ 267 ≤ q) → M' q j = M q j) → M' 355 8 = soC (SOP N M m z) (rwsN N m).toNat → (0 < soC (SOP N M m z) (rwsN N m).toNat → ∀ s, 0 ≤ s → s < N 0 1 → CU (SOP N M m z) (LWs N m s) (rwsN N m).toNat (M' 362 s) (M' 363 s)) → Q 0 SHX R M') : Mw (d + 4) 64 [vr 355, vr n, vi m, vi z] SHX R M 0 0 Q := by
  have hS := wn_S hW
  have rb := rwsN_b (N := N) (m := m) hS.2 m0 (by omega)
  refine Mw_of mok64 rfl fun _ _ => b2_X7_survey_0 ?_
  rw [ok355, okN hN]
  refine c_rows (d := d + 3) hN (NC_of9 hC fun q q0 q1 => stm_ne (by omega)) hW m0 (by omega) ?_
  have key : ∀ v : Nat, v ≤ (rwsN N m).toNat → ∀ X, (∀ q j, ¬ (q = 355 ∧ j = 8) → ¬ (361 ≤ q ∧ q ≤ 363) → (q < 262 ∨ 267 ≤ q) → X q j = M q j) → X 355 8 = soC (SOP N M m z) v → (0 < soC (SOP N M m z) v → ∀ s, 0 ≤ s → s < N 0 1 → CU (SOP N M m z) (LWs N m s) v (X 362 s) (X 363 s)) → Go (d + 4) 64 Q 9 [vr 355, vr n, vi m, vi z, vi (rwsN N m), vi (v : Int), vn] [] SHX R X 0 0 := by
    refine uptoN ?_ ?_
    · intro X f e8 hu
      refine b2_X7_survey_9 ?_
      rw [if_neg (by omega)]
      exact hq X f e8 hu
    · intro v hv ih X f e8 hu
      have fr : ∀ q, q ≠ 355 → ¬ (361 ≤ q ∧ q ≤ 363) → (q < 262 ∨ 267 ≤ q) → X q = M q := fun q q1 q2 q3 => funext fun j => f q j (fun z => q1 z.1) q2 q3
      have cb := soC_b (P := SOP N M m z) v
      refine b2_X7_survey_9 ?_
      rw [if_pos (by omega), ok355, rc355_7 hC0, okN hN, iadd_of (by omega) (by omega)]
      refine c_setRow (d := d + 3) hN (NC_of9 hC fun q q0 q1 => fr q (by omega) (by omega) (by omega)) hW fs361 m0 (by omega) (by omega) (by omega) fun X1 k1 f1 => ?_
      have hC1 : NC X1 n N := NC_of9 hC fun q q0 q1 => by rw [f1 q (by omega), fr q (by omega) (by omega) (by omega)]
      have hg1 : IG X1 N := IG_of hg (by rw [f1 _ (by decide), f _ _ (by omega) (by omega) (by omega)]) (by rw [f1 _ (by decide), f _ _ (by omega) (by omega) (by omega)]) (by rw [f1 _ (by decide), f _ _ (by omega) (by omega) (by omega)]) (by rw [f1 _ (by decide), f _ _ (by omega) (by omega) (by omega)]) (fun q q0 q1 => by rw [f1 q (by omega), fr q (by omega) (by omega) (by omega)]) (fun q q0 q1 => by rw [f1 q (by omega), fr q (by omega) (by omega) (by omega)])
      have hso : SO N X1 (X1 361) z ↔ SOP N M m z v := by
        rw [SO_row hW (row' := lay N m (v : Int)) k1]
        exact SO_of (by rw [f1 _ (by decide), f _ _ (by omega) (by omega) (by omega)]) fun q q0 q1 => by rw [f1 q (by omega), fr q (by omega) (by omega) (by omega)]
      rw [ok355]
      refine c_isSo (d := d) hC0 hN hC1 hW (by omega) hg1 (fun s s0 s1 => by rw [k1 s s0 s1]; exact lay_RW m0 (by omega) s s0 s1) (fun X2 f2 hs _ => ?_) fun X2 f2 hs _ => ?_
      · rw [if_neg (by decide)]
        have hp : SOP N M m z v := hso.1 hs
        have e2 : ∀ q, q ≠ 361 → (q < 262 ∨ 267 ≤ q) → X2 q = X q := fun q q1 q2 => by rw [f2 q q2, f1 q q1]
        have L25 : ∀ u, 0 ≤ u → u ≤ N 0 1 → ∀ Y, (∀ q j, ¬ (q = 355 ∧ j = 8) → ¬ (361 ≤ q ∧ q ≤ 363) → (q < 262 ∨ 267 ≤ q) → Y q j = M q j) → Y 355 8 = soC (SOP N M m z) v → (∀ s, 0 ≤ s → s < N 0 1 → Y 361 s = lay N m (v : Int) s) → (∀ s, 0 ≤ s → s < u → CU (SOP N M m z) (LWs N m s) (v + 1) (Y 362 s) (Y 363 s)) → (0 < soC (SOP N M m z) v → ∀ s, u ≤ s → s < N 0 1 → CU (SOP N M m z) (LWs N m s) v (Y 362 s) (Y 363 s)) → Go (d + 4) 64 Q 25 [vr 355, vr n, vi m, vi z, vi (rwsN N m), vi (v : Int), vi u] [] SHX R Y 0 0 := by
          refine upto (fun Y g g8 gr gn go => ?_) fun u u0 u1 ihu Y g g8 gr gn go => ?_
          · refine b2_X7_survey_25 ?_
            have gS : Y n 5 = N 0 1 := by rw [g _ _ (by omega) (by omega) (by omega)]; exact nc_S hC
            rw [okN hN, gS, if_neg (by omega), ok355, ok355, g8, iadd_of (x := (v : Int)) (by omega) (by omega), iadd_of (by omega) (by omega)]
            refine ih _ (fun q j q1 q2 q3 => by rw [stm_neq q1, g q j q1 q2 q3]) ?_ fun _ s s0 s1 => ?_
            · rw [stm_hit, soC_1 hp]
            · rw [stm_neq (by omega), stm_neq (by omega)]
              exact gn s s0 s1
          · have gS : Y n 5 = N 0 1 := by rw [g _ _ (by omega) (by omega) (by omega)]; exact nc_S hC
            refine c_sv1 hC0 hN gS hS.2 n1 u0 u1 fun a q ha hq2 => ihu _ (fun q' j q1 q2 q3 => ?_) ?_ (fun s s0 s1 => ?_) (fun s s0 s1 => ?_) fun hp0 s s0 s1 => ?_
            · rw [stm_neq (by omega), stm_neq (by omega), g q' j q1 q2 q3]
            · rw [stm_neq (by omega), stm_neq (by omega), g8]
            · rw [stm_neq (by omega), stm_neq (by omega), gr s s0 s1]
            · by_cases hsu : s = u
              · subst hsu
                rw [stm_neq (by omega), stm_hit, stm_hit]
                rw [g8, gr s u0 u1] at ha hq2
                exact CU_step (a := Y 362 s) (q := Y 363 s) (fun h0 => go h0 s (Int.le_refl _) u1) hp ha hq2
              · rw [stm_neq (by omega), stm_neq (by omega), stm_neq (by omega), stm_neq (by omega)]
                exact gn s s0 (by omega)
            · rw [stm_neq (by omega), stm_neq (by omega), stm_neq (by omega), stm_neq (by omega)]
              exact go hp0 s (by omega) s1
        refine L25 0 (by decide) hS.1 X2 (fun q j q1 q2 q3 => by rw [e2 q (by omega) q3, f q j q1 q2 q3]) (by rw [e2 _ (by decide) (by omega), e8]) (fun s s0 s1 => by rw [f2 _ (by omega), k1 s s0 s1]) (fun s s0 s1 => by omega) fun h0 s s0 s1 => ?_
        rw [e2 _ (by decide) (by omega), e2 _ (by decide) (by omega)]
        exact hu h0 s s0 s1
      · rw [if_pos rfl]
        have hp : ¬ SOP N M m z v := fun z => hs (hso.2 z)
        have e2 : ∀ q, q ≠ 361 → (q < 262 ∨ 267 ≤ q) → X2 q = X q := fun q q1 q2 => by rw [f2 q q2, f1 q q1]
        rw [show (v : Int) + 1 = ((v + 1 : Nat) : Int) by omega]
        refine ih X2 (fun q j q1 q2 q3 => by rw [e2 q (by omega) q3, f q j q1 q2 q3]) (by rw [e2 _ (by decide) (by omega), e8, soC_0 hp]) fun h0 s s0 s1 => ?_
        rw [e2 _ (by decide) (by omega), e2 _ (by decide) (by omega)]
        rw [soC_0 hp] at h0
        exact CU_skip (hu h0 s s0 s1) hp
  refine key 0 (Nat.zero_le _) _ (fun q j q1 q2 q3 => stm_neq q1) ?_ fun h0 => ?_
  · rw [stm_hit]; rfl
  · exact absurd h0 (by show ¬ (0 : Int) < 0; decide)
theorem m_cb1 (hR : RM R) (hM : X 364 36 = b) (b0 : 0 ≤ b) (b1 : b ≤ 1) (hS : X 368 b = N 0 1) (h3 : N 0 1 ≤ 3) (u0 : 0 ≤ u) (u1 : u < N 0 1) (h : ∀ f l a, (f = if k = 0 then X 396 u else X 410 u) → (l = if k = 0 ∨ X 396 u < X 411 u then X 396 u else X 411 u) → (a = if k = 0 ∨ X 412 u < X 396 u then X 396 u else X 412 u) → ∀ X', (∀ q j, ¬ ((410 ≤ q ∧ q ≤ 412) ∧ j = u) → X' q j = X q j) → X' 410 u = f → X' 411 u = l → X' 412 u = a → Go (d + 1) 269 Q 24 [vr 364, vi m, vi z, vi k, vi v, vi (u + 1)] [] SHX R X' 0 0) : Go (d + 1) 269 Q 24 [vr 364, vi m, vi z, vi k, vi v, vi u] [] SHX R X 0 0 := by
  have K76 : ∀ X', (∀ q j, ¬ ((410 ≤ q ∧ q ≤ 412) ∧ j = u) → X' q j = X q j) → (X' 410 u = if k = 0 then X 396 u else X 410 u) → (X' 411 u = if k = 0 ∨ X 396 u < X 411 u then X 396 u else X 411 u) → (X' 412 u = if k = 0 ∨ X 412 u < X 396 u then X 396 u else X 412 u) → Go (d + 1) 269 Q 76 [vr 364, vi m, vi z, vi k, vi v, vi u] [] SHX R X' 0 0 := fun X' g g0 g1 g2 => by
    refine b2_X12_countBegun_76 ?_
    rw [iadd_of (by omega) (by omega)]
    exact h _ _ _ rfl rfl rfl X' g g0 g1 g2
  have K57 : ∀ X', (∀ q j, ¬ ((410 ≤ q ∧ q ≤ 411) ∧ j = u) → X' q j = X q j) → (X' 410 u = if k = 0 then X 396 u else X 410 u) → (X' 411 u = if k = 0 ∨ X 396 u < X 411 u then X 396 u else X 411 u) → Go (d + 1) 269 Q 57 [vr 364, vi m, vi z, vi k, vi v, vi u] [] SHX R X' 0 0 := fun X' g g0 g1 => by
    have e6 : X' 396 u = X 396 u := g _ _ (by omega)
    have e2 : X' 412 u = X 412 u := g _ _ (by omega)
    refine b2_X12_countBegun_57 ?_
    simp only [ok364, fr46 hR, fr69 hR, ak396, ak412, e6, e2]
    have S1 : ∀ w, (w = if k = 0 ∨ X 412 u < X 396 u then X 396 u else X 412 u) → Go (d + 1) 269 Q 76 [vr 364, vi m, vi z, vi k, vi v, vi u] [] SHX R (stm X' 412 u w) 0 0 := fun w hw => K76 _ (fun q j hq => by rw [stm_neq (by omega), g q j (by omega)]) (by rw [stm_neq (by omega), g0]) (by rw [stm_neq (by omega), g1]) (by rw [stm_hit, hw])
    by_cases hk : k = 0
    · rw [if_pos hk]
      exact ⟨u0, by omega, u0, by omega, S1 _ (by rw [if_pos (Or.inl hk)])⟩
    · rw [if_neg hk]
      refine ⟨u0, by omega, u0, by omega, ?_⟩
      by_cases hl : X 412 u < X 396 u
      · rw [if_pos hl]
        exact ⟨u0, by omega, u0, by omega, S1 _ (by rw [if_pos (Or.inr hl)])⟩
      · rw [if_neg hl]
        exact K76 X' (fun q j hq => g q j (by omega)) g0 g1 (by rw [e2, if_neg (by omega)])
  have K38 : ∀ X', (∀ q j, ¬ (q = 410 ∧ j = u) → X' q j = X q j) → (X' 410 u = if k = 0 then X 396 u else X 410 u) → Go (d + 1) 269 Q 38 [vr 364, vi m, vi z, vi k, vi v, vi u] [] SHX R X' 0 0 := fun X' g g0 => by
    have e6 : X' 396 u = X 396 u := g _ _ (by omega)
    have e2 : X' 411 u = X 411 u := g _ _ (by omega)
    refine b2_X12_countBegun_38 ?_
    simp only [ok364, fr46 hR, fr68 hR, ak396, ak411, e6, e2]
    have S1 : ∀ w, (w = if k = 0 ∨ X 396 u < X 411 u then X 396 u else X 411 u) → Go (d + 1) 269 Q 57 [vr 364, vi m, vi z, vi k, vi v, vi u] [] SHX R (stm X' 411 u w) 0 0 := fun w hw => K57 _ (fun q j hq => by rw [stm_neq (by omega), g q j (by omega)]) (by rw [stm_neq (by omega), g0]) (by rw [stm_hit, hw])
    by_cases hk : k = 0
    · rw [if_pos hk]
      exact ⟨u0, by omega, u0, by omega, S1 _ (by rw [if_pos (Or.inl hk)])⟩
    · rw [if_neg hk]
      refine ⟨u0, by omega, u0, by omega, ?_⟩
      by_cases hl : X 396 u < X 411 u
      · rw [if_pos hl]
        exact ⟨u0, by omega, u0, by omega, S1 _ (by rw [if_pos (Or.inr hl)])⟩
      · rw [if_neg hl]
        exact K57 X' (fun q j hq => g q j (by omega)) g0 (by rw [e2, if_neg (by omega)])
  refine b2_X12_countBegun_24 ?_
  rw [ok364]
  refine w_startMany (d := d) hR hM b0 b1 ?_
  rw [hS, if_pos u1]
  by_cases hk : k = 0
  · rw [if_pos hk]
    simp only [ok364, fr46 hR, fr67 hR, ak396, ak410]
    exact ⟨u0, by omega, u0, by omega, K38 _ (fun q j hq => stm_neq hq) (by rw [stm_hit, if_pos hk])⟩
  · rw [if_neg hk]
    exact K38 X (fun _ _ _ => rfl) (by rw [if_neg hk])
theorem m_countBegun {M1 : MEM} (hR : RM R) (hM : NM M b N) (hW : WN N) (hf : IF M) (hg : IG M N) (m0 : 0 ≤ m) (m1 : m ≤ 9) (e1 : ∀ q j, KP q j → M1 q j = M q j) (h9 : 0 ≤ M1 364 49) (hq : ∀ M', (∀ q j, KP q j → M' q j = M q j) → 0 ≤ M' 364 49 → (0 < soC (SOP N M m z) (rwsN N m).toNat → ∀ s, 0 ≤ s → s < N 0 1 → RU (SOP N M m z) (LWs N m s) (rwsN N m).toNat (M' 410 s) (M' 411 s) (M' 412 s)) → Q (soC (SOP N M m z) (rwsN N m).toNat) SHX R M') : Mw (d + 4) 269 [vr 364, vi m, vi z] SHX R M1 0 0 Q := by
  have hS := wn_S hW
  have b0 := nm_b0 hM
  have b1 := nm_b1 hM
  have rb := rwsN_b (N := N) (m := m) hS.2 m0 (by omega)
  refine Mw_of mok269 rfl fun _ _ => b2_X12_countBegun_0 ?_
  rw [ok364]
  refine m_putAside (d := d + 3) hR ?_
  rw [ok364]
  refine m_keepRow (d := d + 3) hR fun X0 x1 x2 => ?_
  have hX0 := RT_new e1 h9 x1 x2
  have key : ∀ v : Nat, v ≤ (rwsN N m).toNat → ∀ X, RT M X → (0 < soC (SOP N M m z) v → ∀ s, 0 ≤ s → s < N 0 1 → RU (SOP N M m z) (LWs N m s) v (X 410 s) (X 411 s) (X 412 s)) → Go (d + 4) 269 Q 8 [vr 364, vi m, vi z, vi (soC (SOP N M m z) v), vi (v : Int), vn] [] SHX R X 0 0 := by
    refine uptoN ?_ ?_
    · intro X hX hu
      refine b2_X12_countBegun_8 ?_
      rw [ok364]
      refine m_rowsOf (d := d + 2) hR (RT_nm hM hX) hW m0 (by omega) ?_
      rw [if_neg (by omega), ok364]
      refine m_bringRow (d := d + 3) hR fun X1 k1 k2 => ?_
      rw [ok364]
      refine m_bb (d := d + 3) hR fun X2 k3 k4 => ?_
      obtain ⟨g1, g2⟩ := RT_end hX k1 k2 k3 k4
      refine hq X2 g1 g2 fun h0 s s0 s1 => ?_
      rw [k4 _ _ (by omega), k4 _ _ (by omega), k4 _ _ (by omega), k2 _ _ (by omega), k2 _ _ (by omega), k2 _ _ (by omega)]
      exact hu h0 s s0 s1
    · intro v hv ih X hX hu
      have cb := soC_b (P := SOP N M m z) v
      refine b2_X12_countBegun_8 ?_
      rw [ok364]
      refine m_rowsOf (d := d + 2) hR (RT_nm hM hX) hW m0 (by omega) ?_
      rw [if_pos (by omega), ok364, iadd_of (x := (v : Int)) (by omega) (by omega)]
      refine m_layRow (d := d + 2) hR (RT_nm hM hX) hW m0 (by omega) (by omega) (by omega) fun X1 k1 f1 => ?_
      have hX1 : RT M X1 := RT_off hX fun q q1 _ => f1 q q1
      have e70 : X1 364 70 = M 364 70 := hX1.1 _ _ (by unfold KP; omega) (by decide) (by decide)
      have e40 : ∀ q, 405 ≤ q → q ≤ 409 → X1 q = M q := fun q q0 q1 => RT_row0 hX1 (fun j => by unfold KP; omega) (by omega) (by omega)
      have hg1 : IG X1 N := IG_of hg (hX1.1 _ _ (by unfold KP; omega) (by decide) (by decide)) e70 (hX1.1 _ _ (by unfold KP; omega) (by decide) (by decide)) (hX1.1 _ _ (by unfold KP; omega) (by decide) (by decide)) (fun q q0 q1 => RT_row0 hX1 (fun j => by unfold KP; omega) (by omega) (by omega)) e40
      have hso : SO N X1 (X1 396) z ↔ SOP N M m z v := by
        rw [SO_row hW (row' := lay N m (v : Int)) k1]
        exact SO_of e70 e40
      rw [ok364]
      refine f_areSo (d := d) hR (RT_nm hM hX1) hW hg1 (fun s s0 s1 => by rw [k1 s s0 s1]; exact lay_RW m0 (by omega) s s0 s1) (RT_7 hf hX1) hX1.2.2.2 (fun X2 f2 h92 hs _ => ?_) fun X2 f2 h92 hs _ => ?_
      · rw [if_neg (by decide)]
        have hp : SOP N M m z v := hso.1 hs
        have hX2 := RT_rec hX1 f2 h92
        have e2 : ∀ q j, q ≠ 392 → q ≠ 395 → q ≠ 396 → ¬ (q = 364 ∧ j = 49) → X2 q j = X q j := fun q j q1 q2 q3 q4 => by rw [f2 q j q1 q2 q4, f1 q q3]
        have L24 : ∀ u, 0 ≤ u → u ≤ N 0 1 → ∀ Y, RT M Y → (∀ s, 0 ≤ s → s < N 0 1 → Y 396 s = lay N m (v : Int) s) → (∀ s, 0 ≤ s → s < u → RU (SOP N M m z) (LWs N m s) (v + 1) (Y 410 s) (Y 411 s) (Y 412 s)) → (0 < soC (SOP N M m z) v → ∀ s, u ≤ s → s < N 0 1 → RU (SOP N M m z) (LWs N m s) v (Y 410 s) (Y 411 s) (Y 412 s)) → Go (d + 4) 269 Q 24 [vr 364, vi m, vi z, vi (soC (SOP N M m z) v), vi (v : Int), vi u] [] SHX R Y 0 0 := by
          refine upto (fun Y hY gr gn go => ?_) fun u u0 u1 ihu Y hY gr gn go => ?_
          · have hMY := RT_nm hM hY
            refine b2_X12_countBegun_24 ?_
            rw [ok364]
            refine w_startMany (d := d + 3) hR (nm_b hMY) b0 b1 ?_
            rw [nm_S hMY, if_neg (by omega), iadd_of (x := (v : Int)) (by omega) (by omega), iadd_of (by omega) (by omega), ← soC_1 hp, show (v : Int) + 1 = ((v + 1 : Nat) : Int) by omega]
            exact ih Y hY fun _ s s0 s1 => gn s s0 s1
          · have hMY := RT_nm hM hY
            refine m_cb1 (d := d + 3) (N := N) hR (nm_b hMY) b0 b1 (nm_S hMY) hS.2 u0 u1 fun f l a hf2 hl2 ha2 Y' fy y0 y1 y2 => ?_
            have hY' : RT M Y' := by
              obtain ⟨r1, r2, r3, r4⟩ := hY
              refine ⟨fun q j hk q2 q6 => ?_, fun i i0 i1 => ?_, fun i i0 i1 => ?_, ?_⟩
              · have := KP_out2 hk
                rw [fy q j (by omega), r1 q j hk q2 q6]
              · rw [fy _ _ (by omega), r2 i i0 i1]
              · rw [fy _ _ (by omega), r3 i i0 i1]
              · rw [fy _ _ (by omega)]; exact r4
            refine ihu Y' hY' (fun s s0 s1 => by rw [fy _ _ (by omega), gr s s0 s1]) (fun s s0 s1 => ?_) fun hp0 s s0 s1 => ?_
            · by_cases hsu : s = u
              · subst hsu
                rw [y0, y1, y2]
                rw [gr s u0 u1] at hf2 hl2 ha2
                exact RU_step (f := Y 410 s) (l := Y 411 s) (h := Y 412 s) (fun h0 => go h0 s (Int.le_refl _) u1) hp hf2 hl2 ha2
              · rw [fy _ _ (by omega), fy _ _ (by omega), fy _ _ (by omega)]
                exact gn s s0 (by omega)
            · rw [fy _ _ (by omega), fy _ _ (by omega), fy _ _ (by omega)]
              exact go hp0 s (by omega) s1
        refine L24 0 (by decide) hS.1 X2 hX2 (fun s s0 s1 => by rw [f2 _ _ (by decide) (by decide) (by omega), k1 s s0 s1]) (fun s s0 s1 => by omega) fun h0 s s0 s1 => ?_
        rw [e2 _ _ (by decide) (by decide) (by decide) (by omega), e2 _ _ (by decide) (by decide) (by decide) (by omega), e2 _ _ (by decide) (by decide) (by decide) (by omega)]
        exact hu h0 s s0 s1
      · rw [if_pos rfl]
        have hp : ¬ SOP N M m z v := fun z => hs (hso.2 z)
        have hX2 := RT_rec hX1 f2 h92
        have e2 : ∀ q j, q ≠ 392 → q ≠ 395 → q ≠ 396 → ¬ (q = 364 ∧ j = 49) → X2 q j = X q j := fun q j q1 q2 q3 q4 => by rw [f2 q j q1 q2 q4, f1 q q3]
        rw [show (v : Int) + 1 = ((v + 1 : Nat) : Int) by omega, ← soC_0 hp]
        refine ih X2 hX2 fun h0 s s0 s1 => ?_
        rw [e2 _ _ (by decide) (by decide) (by decide) (by omega), e2 _ _ (by decide) (by decide) (by decide) (by omega), e2 _ _ (by decide) (by decide) (by decide) (by omega)]
        rw [soC_0 hp] at h0
        exact RU_skip (hu h0 s s0 s1) hp
  exact key 0 (Nat.zero_le _) X0 hX0 fun h0 => absurd h0 (by show ¬ (0 : Int) < 0; decide)
end
