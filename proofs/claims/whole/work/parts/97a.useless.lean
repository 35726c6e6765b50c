/-! WAYS THAT CHANGE NOTHING at a dusk -/
/-- the same net but for the ways' beats -/
def SN (N N' : NTW) : Prop := ∀ i, i ≠ 8 → N' i = N i
def chN (N : NTW) (w b : Int) : NTW := fun i => if i = 8 then upf (N 8) w b else N i
/-- nobody was ever outside A -/
def AIV (N : NTW) (A : Int → Prop) (S : SK) : Prop := (∀ w k, 0 ≤ w → w < N 0 2 → 0 ≤ k → k < 12 → ¬ A (N 6 w) → S (12 * w + k) = 0) ∧ (∀ u, 0 ≤ u → u < N 0 0 → ¬ A u → S (192 + u) = 0)
/-- the same in B and on the ways into B -/
def SIM (N : NTW) (B : Int → Prop) (S Z : SK) : Prop := (∀ w k, 0 ≤ w → w < N 0 2 → 0 ≤ k → k < 12 → B (N 7 w) → S (12 * w + k) = Z (12 * w + k)) ∧ (∀ u, 0 ≤ u → u < N 0 0 → B u → S (192 + u) = Z (192 + u))
section
variable {N N' : NTW} {S Z : SK} {w0 : Int} {A B : Int → Prop}
theorem SN_ch {w b : Int} : SN N (chN N w b) := fun _ hi => if_neg hi
theorem SN_tr {N2 : NTW} (h : SN N N') (g : SN N' N2) : SN N N2 := fun i hi => (g i hi).trans (h i hi)
theorem SN_refl : SN N N := fun _ _ => rfl
theorem chN_8 {w b : Int} : chN N w b 8 = upf (N 8) w b := if_pos rfl
theorem AIV_cE (hw : N 0 2 ≤ 16) (hT : N 0 0 ≤ 10) (h : AIV N A S) (e : cE Z S) : AIV N A Z := ⟨fun w k w0 w1 k0 k1 hn => by rw [e _ (by omega) (by omega)]; exact h.1 w k w0 w1 k0 k1 hn, fun u u0 u1 hn => by rw [e _ (by omega) (by omega)]; exact h.2 u u0 u1 hn⟩
theorem AIV_pond (hW : WN N) (h : AIV N A S) {u : Int} (u0 : 0 ≤ u) (u1 : u < N 0 0) (hA : ¬ A u) : N 1 u = 5 → S (192 + u) < N 2 u := fun hc => by
  have := wn_sz hW u u0 u1 (by omega)
  rw [h.2 u u0 u1 hA]; omega
theorem AIV_do (hW : WN N) (h : AIV N A S) {u f : Int} (u0 : 0 ≤ u) (u1 : u < N 0 0) (hf : ¬ A u → f = 0) : AIV N A (doS N L0 S u f) := by
  have hT := wn_T hW
  have hw := wn_W hW
  by_cases hA : A u
  · have far : ∀ w k x, 0 ≤ k → k < 12 → ¬ A (N 6 w) → x < N 0 2 → (0 ≤ x → N 6 x = u) → 0 ≤ x → 12 * w + k ≠ 12 * x + N 8 x - 1 := fun w k x k0 k1 hn x1 h6 x0 he => by
      have := slot_rng hW x0 x1
      have e : w = x := by omega
      rw [e, h6 x0] at hn
      exact hn hA
    refine ⟨fun w k w0 w1 k0 k1 hn => ?_, fun t t0 t1 hn => ?_⟩
    · rw [doS_ne (by omega) (by omega) (Or.inl (by omega)) (far w k _ k0 k1 hn (wn_fi hW u u0 u1).2 (wn_ff hW u u0 u1)) (far w k _ k0 k1 hn (wn_se hW u u0 u1).2 (wn_sf hW u u0 u1))]
      exact h.1 w k w0 w1 k0 k1 hn
    · have htu : t ≠ u := fun z => hn (z ▸ hA)
      have i3 := (wn_fi hW u u0 u1).2
      have i4 := (wn_se hW u u0 u1).2
      rw [doS_ne (by omega) (by omega) (Or.inl (by omega)) (fun z => by have := slot_rng hW z (wn_fi hW u u0 u1).2; omega) (fun z => by have := slot_rng hW z (wn_se hW u u0 u1).2; omega)]
      exact h.2 t t0 t1 hn
  · rw [hf hA]
    exact AIV_cE hw.2 hT.2 h (doS_still u0 (AIV_pond hW h u0 u1 hA))
theorem AIV_wk (hW : WN N) {F : Int → Int} (h : AIV N A S) (hF : ∀ u, 0 ≤ u → u < N 0 0 → ¬ A u → F u = 0) : ∀ n : Nat, (n : Int) ≤ N 0 0 → AIV N A (wkS N L0 F S n)
  | 0, _ => h
  | n + 1, hn => AIV_do hW (AIV_wk hW h hF n (by omega)) (by omega) (by omega) (hF n (by omega) (by omega))
theorem AIV_near (hW : WN N) (h : AIV N A S) : AIV N A (nwS N S (N 0 2).toNat) := by
  have hT := wn_T hW
  have hw := wn_W hW
  refine ⟨fun w k w0 w1 k0 k1 hn => ?_, fun u u0 u1 hn => ?_⟩
  · rw [nwS_lo _ w0 (by omega) (by omega) k0 k1]
    split
    · rfl
    · rw [show 12 * w + k + 1 = 12 * w + (k + 1) by omega]
      exact h.1 w (k + 1) w0 w1 (by omega) (by omega) hn
  · rw [nwS_hi _ (by omega) (by omega)]
    rcases stS_val (N := N) (S := S) (N 0 0).toNat (192 + u) with e | e
    · rw [e]; exact h.2 u u0 u1 hn
    · exact e
theorem AIV_nwF (hW : WN N) (hA : ∀ w, 0 ≤ w → w < N 0 2 → A (N 6 w) → A (N 7 w)) (h : AIV N A S) : ∀ n : Nat, (n : Int) ≤ N 0 2 → ∀ u, 0 ≤ u → u < N 0 0 → ¬ A u → nwF N S n u = 0
  | 0, _, u, u0, u1, hn => by
    show stF N S u = 0
    unfold stF
    split
    · exact h.2 u u0 u1 hn
    · rfl
  | n + 1, hn, u, u0, u1, hu => by
    have hw := wn_W hW
    show upf (nwF N S n) (N 7 (n : Int)) (nwF N S n (N 7 (n : Int)) + nwS N S n (12 * (n : Int))) u = 0
    by_cases e : u = N 7 (n : Int)
    · have h6 : ¬ A (N 6 (n : Int)) := fun z => hu (e ▸ hA n (by omega) (by omega) z)
      have hz := h.1 n 0 (by omega) (by omega) (by decide) (by decide) h6
      rw [upf_eq e, ← e, AIV_nwF hW hA h n (by omega) u u0 u1 hu, nwS_un n (by omega) (by omega), show 12 * (n : Int) = 12 * (n : Int) + 0 by omega, hz]
      rfl
    · rw [upf_ne e]
      exact AIV_nwF hW hA h n (by omega) u u0 u1 hu
theorem AIV_beat (hW : WN N) (hA : ∀ w, 0 ≤ w → w < N 0 2 → A (N 6 w) → A (N 7 w)) (h : AIV N A S) : AIV N A (beatS N L0 S) := by
  have hT := wn_T hW
  have hw := wn_W hW
  have h1 : AIV N A (oneM S) := AIV_cE hw.2 hT.2 h (cE_out (by decide))
  exact AIV_wk hW (AIV_near hW h1) (AIV_nwF hW hA h1 _ (by omega)) _ (by omega)
theorem SIM_cE2 {S' Z' : SK} (hw : N 0 2 ≤ 16) (hT : N 0 0 ≤ 10) (h : SIM N B S Z) (e : cE S' S) (g : cE Z' Z) : SIM N B S' Z' := ⟨fun w k w0 w1 k0 k1 hb => by rw [e _ (by omega) (by omega), g _ (by omega) (by omega)]; exact h.1 w k w0 w1 k0 k1 hb, fun u u0 u1 hb => by rw [e _ (by omega) (by omega), g _ (by omega) (by omega)]; exact h.2 u u0 u1 hb⟩
theorem SIM_upf {i v : Int} (h : SIM N B S Z) : SIM N B (upf S i v) (upf Z i v) := by
  refine ⟨fun w k w0 w1 k0 k1 hb => ?_, fun u u0 u1 hb => ?_⟩
  · unfold upf
    split
    · rfl
    · exact h.1 w k w0 w1 k0 k1 hb
  · unfold upf
    split
    · rfl
    · exact h.2 u u0 u1 hb
theorem setO_SIM (hW : WN N) (hW' : WN N') (hs : SN N N') (h8 : ∀ w, w ≠ w0 → N' 8 w = N 8 w) {w n : Int} (h : SIM N B S Z) (w1 : w < N 0 2) (hw0 : w = w0 → ¬ B (N 7 w0)) : SIM N B (setO N L0 S w n) (setO N' L0 Z w n) := by
  have hT := wn_T hW
  have hw := wn_W hW
  have e : ∀ Y : SK, ∀ w' : Int, ¬ w' < 0 → ¬ (w' = L0.1 ∧ Y 216 = L0.2) := fun Y w' z1 z2 => by
    have := z2.1
    simp only [L0] at this
    omega
  unfold setO
  split
  · exact h
  · split
    · exact SIM_cE2 hw.2 hT.2 h (cE_out (by decide)) (cE_out (by decide))
    · rename_i hn
      rw [if_neg (e S w hn), if_neg (e Z w hn)]
      have r1 := slot_rng hW (w := w) (by omega) w1
      have r2 := slot_rng hW' (w := w) (by omega) (by rw [hs 0 (by decide)]; exact w1)
      refine ⟨fun w' k g0 g1 k0 k1 hb => ?_, fun u u0 u1 hb => ?_⟩
      · by_cases hww : w = w0
        · have hne : w' ≠ w := fun z => hw0 hww (by rw [← hww, ← z]; exact hb)
          rw [upf_ne (by omega), upf_ne (by omega), upf_ne (by omega), upf_ne (by omega)]
          exact h.1 w' k g0 g1 k0 k1 hb
        · rw [h8 w hww]
          have hk := h.1 w' k g0 g1 k0 k1 hb
          by_cases hi : 12 * w' + k = 12 * w + N 8 w - 1
          · rw [upf_eq hi, upf_eq hi, ← hi, hk]
          · rw [upf_ne hi, upf_ne hi, upf_ne (by omega), upf_ne (by omega)]
            exact hk
      · rw [upf_ne (by omega), upf_ne (by omega), upf_ne (by omega), upf_ne (by omega)]
        exact h.2 u u0 u1 hb
theorem doT_SIM (hW : WN N) (hW' : WN N') (hs : SN N N') (h8 : ∀ w, w ≠ w0 → N' 8 w = N 8 w) {t f : Int} (t0 : 0 ≤ t) (t1 : t < N 0 0) (hb : B t) (h : SIM N B S Z) (h3 : N 3 t = w0 → ¬ B (N 7 w0)) (h4 : N 4 t = w0 → ¬ B (N 7 w0)) : SIM N B (doT N L0 S t f) (doT N' L0 Z t f) := by
  have hT := wn_T hW
  have hw := wn_W hW
  have e : S (192 + t) = Z (192 + t) := h.2 t t0 t1 hb
  have w3 := (wn_fi hW t t0 t1).2
  have w4 := (wn_se hW t t0 t1).2
  unfold doT
  rw [hs 1 (by decide), hs 2 (by decide), hs 3 (by decide), hs 4 (by decide), e]
  repeat' split
  all_goals first
    | exact h
    | exact SIM_upf h
    | exact setO_SIM hW hW' hs h8 h w3 h3
    | exact setO_SIM hW hW' hs h8 h w4 h4
    | exact setO_SIM hW hW' hs h8 (SIM_upf h) w3 h3
    | exact setO_SIM hW hW' hs h8 (setO_SIM hW hW' hs h8 (SIM_upf h) w3 h3) w4 h4
    | exact setO_SIM hW hW' hs h8 (SIM_cE2 hw.2 hT.2 h (cE_out (by decide)) (cE_out (by decide))) w3 h3
theorem came_cE {t f : Int} (h0 : 0 ≤ t) : cE (cameS S t f) S := by
  unfold cameS
  split
  · exact cE_out (by omega)
  · exact cE.refl S
theorem wk_SIM (hW : WN N) (hW' : WN N') (hs : SN N N') (h8 : ∀ w, w ≠ w0 → N' 8 w = N 8 w) (g0 : 0 ≤ w0) (hw0 : ¬ A (N 6 w0) ∨ ¬ B (N 7 w0)) (hB : ∀ w, 0 ≤ w → w < N 0 2 → B (N 7 w) → B (N 6 w)) {F G : Int → Int} (hF : ∀ u, 0 ≤ u → u < N 0 0 → ¬ A u → F u = 0) (hG : ∀ u, 0 ≤ u → u < N 0 0 → ¬ A u → G u = 0) (hFG : ∀ u, 0 ≤ u → u < N 0 0 → B u → F u = G u) (h : SIM N B S Z) (a1 : AIV N A S) (a2 : AIV N' A Z) : ∀ n : Nat, (n : Int) ≤ N 0 0 → SIM N B (wkS N L0 F S n) (wkS N' L0 G Z n)
  | 0, _ => h
  | n + 1, hn => by
    have hT := wn_T hW
    have hw := wn_W hW
    have e0 : N' 0 = N 0 := hs 0 (by decide)
    have ih := wk_SIM hW hW' hs h8 g0 hw0 hB hF hG hFG h a1 a2 n (by omega)
    have b1 := AIV_wk hW a1 hF n (by omega)
    have b2 := AIV_wk hW' (F := G) a2 (fun u u0 u1 => hG u u0 (by rw [e0] at u1; exact u1)) n (by rw [e0]; omega)
    show SIM N B (doS N L0 (wkS N L0 F S n) (n : Int) (F (n : Int))) (doS N' L0 (wkS N' L0 G Z n) (n : Int) (G (n : Int)))
    have u0 : (0 : Int) ≤ (n : Int) := by omega
    have u1 : (n : Int) < N 0 0 := by omega
    by_cases hA : A (n : Int)
    · have nw : ∀ x, (0 ≤ x → N 6 x = (n : Int)) → x = w0 → ¬ B (N 7 w0) := fun x h6 hx => by
        rcases hw0 with z | z
        · rw [← hx, h6 (by omega)] at z; exact absurd hA z
        · exact z
      by_cases hb : B (n : Int)
      · rw [hFG n u0 u1 hb]
        exact doT_SIM hW hW' hs h8 u0 u1 hb (SIM_cE2 hw.2 hT.2 ih (came_cE u0) (came_cE u0)) (nw _ (wn_ff hW n u0 u1)) (nw _ (wn_sf hW n u0 u1))
      · have far : ∀ (N2 : NTW) w k x, SN N N2 → WN N2 → 0 ≤ k → k < 12 → B (N 7 w) → x < N 0 2 → (0 ≤ x → N 6 x = (n : Int)) → 0 ≤ x → 12 * w + k ≠ 12 * x + N2 8 x - 1 := fun N2 w k x hs2 hW2 k0 k1 hbw x1 h6 x0 he => by
          have := slot_rng hW2 x0 (by rw [hs2 0 (by decide)]; exact x1)
          have ex : w = x := by omega
          rw [ex] at hbw
          have := hB x x0 x1 hbw
          rw [h6 x0] at this
          exact hb this
        have i3 := (wn_fi hW n u0 u1).2
        have i4 := (wn_se hW n u0 u1).2
        have f3 := wn_ff hW n u0 u1
        have f4 := wn_sf hW n u0 u1
        have e3 : N' 3 = N 3 := hs 3 (by decide)
        have e4 : N' 4 = N 4 := hs 4 (by decide)
        refine ⟨fun w k g0 g1 k0 k1 hbw => ?_, fun t t0 t1 hbt => ?_⟩
        · rw [doS_ne (by omega) (by omega) (Or.inl (by omega)) (far N w k _ SN_refl hW k0 k1 hbw i3 f3) (far N w k _ SN_refl hW k0 k1 hbw i4 f4), doS_ne (N := N') (by omega) (by omega) (Or.inl (by omega)) (by rw [e3]; exact far N' w k _ hs hW' k0 k1 hbw i3 f3) (by rw [e4]; exact far N' w k _ hs hW' k0 k1 hbw i4 f4)]
          exact ih.1 w k g0 g1 k0 k1 hbw
        · have htn : t ≠ (n : Int) := fun z => hb (z ▸ hbt)
          have q3 : ∀ (N2 : NTW) x, WN N2 → SN N N2 → x < N 0 2 → 0 ≤ x → 192 + t ≠ 12 * x + N2 8 x - 1 := fun N2 x hW2 hs2 x1 x0 => by
            have := slot_rng hW2 x0 (by rw [hs2 0 (by decide)]; exact x1)
            omega
          rw [doS_ne (by omega) (by omega) (Or.inl (by omega)) (q3 N _ hW SN_refl i3) (q3 N _ hW SN_refl i4), doS_ne (N := N') (by omega) (by omega) (Or.inl (by omega)) (by rw [e3]; exact q3 N' _ hW' hs i3) (by rw [e4]; exact q3 N' _ hW' hs i4)]
          exact ih.2 t t0 t1 hbt
    · rw [hF n u0 u1 hA, hG n u0 u1 hA]
      exact SIM_cE2 hw.2 hT.2 ih (doS_still u0 (AIV_pond hW b1 u0 u1 hA)) (doS_still (N := N') u0 (AIV_pond hW' b2 u0 (by rw [e0]; exact u1) hA))
theorem st_SIM (hs : SN N N') (h : SIM N B S Z) : ∀ n : Nat, SIM N B (stS N S n) (stS N' Z n)
  | 0 => h
  | n + 1 => by
    unfold stS
    rw [hs 1 (by decide)]
    split
    · exact SIM_upf (st_SIM hs h n)
    · exact st_SIM hs h n
theorem near_SIM (hW : WN N) (hs : SN N N') (h : SIM N B S Z) : SIM N B (nwS N S (N 0 2).toNat) (nwS N' Z (N 0 2).toNat) := by
  have hT := wn_T hW
  have hw := wn_W hW
  refine ⟨fun w k w0 w1 k0 k1 hb => ?_, fun u u0 u1 hb => ?_⟩
  · rw [nwS_lo _ w0 (by omega) (by omega) k0 k1, nwS_lo _ w0 (by omega) (by omega) k0 k1]
    split
    · rfl
    · rw [show 12 * w + k + 1 = 12 * w + (k + 1) by omega]
      exact h.1 w (k + 1) w0 w1 (by omega) (by omega) hb
  · rw [nwS_hi _ (by omega) (by omega), nwS_hi _ (by omega) (by omega), hs 0 (by decide)]
    exact (st_SIM hs h _).2 u u0 u1 hb
theorem nwF_SIM (hW : WN N) (hs : SN N N') (h : SIM N B S Z) : ∀ n : Nat, (n : Int) ≤ N 0 2 → ∀ u, 0 ≤ u → u < N 0 0 → B u → nwF N S n u = nwF N' Z n u
  | 0, _, u, u0, u1, hb => by
    show stF N S u = stF N' Z u
    unfold stF
    rw [hs 1 (by decide)]
    split
    · exact h.2 u u0 u1 hb
    · rfl
  | n + 1, hn, u, u0, u1, hb => by
    have hw := wn_W hW
    have ih := nwF_SIM hW hs h n (by omega) u u0 u1 hb
    show upf (nwF N S n) (N 7 (n : Int)) (nwF N S n (N 7 (n : Int)) + nwS N S n (12 * (n : Int))) u = upf (nwF N' Z n) (N' 7 (n : Int)) (nwF N' Z n (N' 7 (n : Int)) + nwS N' Z n (12 * (n : Int))) u
    rw [hs 7 (by decide)]
    by_cases e : u = N 7 (n : Int)
    · have hz := h.1 n 0 (by omega) (by omega) (by decide) (by decide) (e ▸ hb)
      rw [show 12 * (n : Int) + 0 = 12 * (n : Int) by omega] at hz
      rw [upf_eq e, upf_eq e, ← e, ih, nwS_un n (by omega) (by omega), nwS_un n (by omega) (by omega), hz]
    · rw [upf_ne e, upf_ne e]
      exact ih
theorem beat_SIM (hW : WN N) (hW' : WN N') (hs : SN N N') (h8 : ∀ w, w ≠ w0 → N' 8 w = N 8 w) (g0 : 0 ≤ w0) (hw0 : ¬ A (N 6 w0) ∨ ¬ B (N 7 w0)) (hA : ∀ w, 0 ≤ w → w < N 0 2 → A (N 6 w) → A (N 7 w)) (hB : ∀ w, 0 ≤ w → w < N 0 2 → B (N 7 w) → B (N 6 w)) (h : SIM N B S Z) (a1 : AIV N A S) (a2 : AIV N' A Z) : SIM N B (beatS N L0 S) (beatS N' L0 Z) := by
  have hT := wn_T hW
  have hw := wn_W hW
  have e0 : N' 0 = N 0 := hs 0 (by decide)
  have hA' : ∀ w, 0 ≤ w → w < N' 0 2 → A (N' 6 w) → A (N' 7 w) := by rw [e0, hs 6 (by decide), hs 7 (by decide)]; exact hA
  have h1 : SIM N B (oneM S) (oneM Z) := SIM_cE2 hw.2 hT.2 h (cE_out (by decide)) (cE_out (by decide))
  have b1 : AIV N A (oneM S) := AIV_cE hw.2 hT.2 a1 (cE_out (by decide))
  have b2 : AIV N' A (oneM Z) := AIV_cE (by rw [e0]; exact hw.2) (by rw [e0]; exact hT.2) a2 (cE_out (by decide))
  show SIM N B (wkS N L0 (nwF N (oneM S) (N 0 2).toNat) (nwS N (oneM S) (N 0 2).toNat) (N 0 0).toNat) (wkS N' L0 (nwF N' (oneM Z) (N' 0 2).toNat) (nwS N' (oneM Z) (N' 0 2).toNat) (N' 0 0).toNat)
  have c2 := AIV_near hW' b2
  have z2 := AIV_nwF hW' hA' b2 (N' 0 2).toNat (by rw [e0]; omega)
  rw [e0] at c2 z2 ⊢
  exact wk_SIM hW hW' hs h8 g0 hw0 hB (AIV_nwF hW hA b1 _ (by omega)) z2 (nwF_SIM hW hs h1 _ (by omega)) (near_SIM hW hs h1) (AIV_near hW b1) c2 _ (by omega)
theorem fly_SIM (hW : WN N) (hW' : WN N') (hs : SN N N') (h8 : ∀ w, w ≠ w0 → N' 8 w = N 8 w) (g0 : 0 ≤ w0) (hw0 : ¬ A (N 6 w0) ∨ ¬ B (N 7 w0)) (hA : ∀ w, 0 ≤ w → w < N 0 2 → A (N 6 w) → A (N 7 w)) (hB : ∀ w, 0 ≤ w → w < N 0 2 → B (N 7 w) → B (N 6 w)) (h : SIM N B S Z) (a1 : AIV N A S) (a2 : AIV N' A Z) : ∀ k : Nat, SIM N B (flyS N L0 S k) (flyS N' L0 Z k) ∧ AIV N A (flyS N L0 S k) ∧ AIV N' A (flyS N' L0 Z k)
  | 0 => ⟨h, a1, a2⟩
  | k + 1 => by
    obtain ⟨i1, i2, i3⟩ := fly_SIM hW hW' hs h8 g0 hw0 hA hB h a1 a2 k
    have hA' : ∀ w, 0 ≤ w → w < N' 0 2 → A (N' 6 w) → A (N' 7 w) := by rw [hs 0 (by decide), hs 6 (by decide), hs 7 (by decide)]; exact hA
    exact ⟨beat_SIM hW hW' hs h8 g0 hw0 hA hB i1 i2 i3, AIV_beat hW hA i2, AIV_beat hW' hA' i3⟩
theorem oS_net {r : Int → Int} (hs : SN N N') : ∀ n : Nat, oS N' r S n = oS N r S n
  | 0 => rfl
  | n + 1 => by
    unfold oS
    rw [hs 5 (by decide), oS_net hs n]
theorem opS_net {r : Int → Int} (hs : SN N N') : opS N' r S = opS N r S := by
  unfold opS
  rw [hs 0 (by decide)]
  exact oS_net hs _
theorem rk_net {row : Int → Int} {y t : Int} (hW : WN N) (hW' : WN N') (hs : SN N N') (h8 : ∀ w, w ≠ w0 → N' 8 w = N 8 w) (g0 : 0 ≤ w0) (hw0 : ¬ A (N 6 w0) ∨ ¬ B (N 7 w0)) (hA : ∀ w, 0 ≤ w → w < N 0 2 → A (N 6 w) → A (N 7 w)) (hB : ∀ w, 0 ≤ w → w < N 0 2 → B (N 7 w) → B (N 6 w)) (hst : ∀ s, 0 ≤ s → s < N 0 1 → A (N 5 s)) (t0 : 0 ≤ t) (t1 : t < N 0 0) (ht : B t) : rk N' row y t = rk N row y t := by
  have hT := wn_T hW
  have hw := wn_W hW
  have hS := wn_S hW
  have a : AIV N A (opS N row (zS 0)) := by
    refine ⟨fun w k w0 w1 k0 k1 _ => opS_ne hW (by omega), fun u u0 u1 hn => ?_⟩
    show oS N row (zS 0) (N 0 1).toNat (192 + u) = 0
    rw [oS_nst hW (t := u) (fun s s0 s1 he => hn (by rw [← he]; exact hst s s0 s1)) (N 0 1).toNat (by omega)]
    exact clS_at (by omega) (by omega)
  have a' : AIV N' A (opS N row (zS 0)) := by
    unfold AIV
    rw [hs 0 (by decide), hs 6 (by decide)]
    exact a
  unfold rk
  rw [opS_net hs]
  exact ((fly_SIM hW hW' hs h8 g0 hw0 hA hB ⟨fun _ _ _ _ _ _ _ => rfl, fun _ _ _ _ => rfl⟩ a a' y.toNat).1.2 t t0 t1 ht).symm
/-- a way that is of no use for a dusk: its beats change nothing there -/
theorem rk_useless {N0 : NTW} {row : Int → Int} {y t : Int} (hW0 : WN N0) (hW : WN N) (hW' : WN N') (hs0 : SN N0 N) (hs : SN N N') (h8 : ∀ w, w ≠ w0 → N' 8 w = N 8 w) (g0 : 0 ≤ w0) (hu : ¬ UFW N0 t w0) (t0 : 0 ≤ t) (t1 : t < N0 0 0) : rk N' row y t = rk N row y t := by
  have e0 : N 0 = N0 0 := hs0 0 (by decide)
  have e5 : N 5 = N0 5 := hs0 5 (by decide)
  have e6 : N 6 = N0 6 := hs0 6 (by decide)
  have e7 : N 7 = N0 7 := hs0 7 (by decide)
  have ew : ∀ w, 0 ≤ w → w < N0 0 2 → EW N0 (N0 6 w) (N0 7 w) := fun w z0 z1 => ⟨w, z0, z1, rfl, rfl⟩
  refine rk_net (A := fun u => ∃ s, 0 ≤ s ∧ s < N0 0 1 ∧ (RCH N0 (N0 5 s) u ∨ N0 5 s = u)) (B := fun u => RCH N0 u t ∨ u = t) hW hW' hs h8 g0 ?_ ?_ ?_ ?_ t0 (by rw [e0]; exact t1) (Or.inr rfl)
  · rw [e6, e7]
    by_cases h1 : ∃ s, 0 ≤ s ∧ s < N0 0 1 ∧ (RCH N0 (N0 5 s) (N0 6 w0) ∨ N0 5 s = N0 6 w0)
    · exact Or.inr fun z => hu ⟨h1, z⟩
    · exact Or.inl h1
  · rw [e0, e6, e7]
    rintro w z0 z1 ⟨s, s0, s1, h⟩
    refine ⟨s, s0, s1, Or.inl ?_⟩
    rcases h with ⟨n, hn⟩ | h
    · exact ⟨_, walk_app n 0 _ _ _ hn (ew w z0 z1)⟩
    · exact ⟨0, by rw [h]; exact ew w z0 z1⟩
  · rw [e0, e6, e7]
    intro w z0 z1 h
    refine Or.inl ?_
    rcases h with ⟨n, hn⟩ | h
    · exact ⟨n + 1, N0 7 w, ew w z0 z1, hn⟩
    · exact ⟨0, by rw [← h]; exact ew w z0 z1⟩
  · rw [e0, e5]
    exact fun s s0 s1 => ⟨s, s0, s1, Or.inr rfl⟩
theorem WN_net (hs : SN N N') (hb : ∀ w, 0 ≤ w → w < N 0 2 → 1 ≤ N' 8 w ∧ N' 8 w ≤ 9) (h : WN N) : WN N' := by
  unfold WN at h ⊢
  rw [hs 0 (by decide), hs 1 (by decide), hs 2 (by decide), hs 3 (by decide), hs 4 (by decide), hs 5 (by decide), hs 6 (by decide), hs 7 (by decide), hs 9 (by decide)]
  obtain ⟨a1, a2, a3, a4, a5, a6, a7, a8, a9, b1, b2, b3, b4, b5, b6, b7, b8, b9, c1⟩ := h
  exact ⟨a1, a2, a3, a4, a5, a6, a7, a8, a9, b1, b2, b3, b4, b5, b6, b7, b8, hb, c1⟩
theorem WN_ch {w b : Int} (h : WN N) (b1 : 1 ≤ b) (b9 : b ≤ 9) : WN (chN N w b) := WN_net SN_ch (fun w' z0 z1 => by
  rw [chN_8]
  unfold upf
  split
  · exact ⟨b1, b9⟩
  · exact wn_wb h w' z0 z1) h
end
