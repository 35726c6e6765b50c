/-! TRIALS, as numbers: what flies is told by what flies; when all is still it stays so -/
def cE (S Z : SK) : Prop := ∀ i, 0 ≤ i → i < 202 → S i = Z i
theorem cE.refl (S : SK) : cE S S := fun _ _ _ => rfl
theorem cE.symm {S Z : SK} (h : cE S Z) : cE Z S := fun i h0 h1 => (h i h0 h1).symm
theorem cE.trans {S Z Y : SK} (h : cE S Z) (g : cE Z Y) : cE S Y := fun i h0 h1 => (h i h0 h1).trans (g i h0 h1)
theorem cE_out {S : SK} {i v : Int} (hi : 202 ≤ i) : cE (upf S i v) S := fun j _ h1 => upf_ne (by omega)
theorem cE_upf {S Z : SK} {i v : Int} (h : cE S Z) : cE (upf S i v) (upf Z i v) := by
  intro j h0 h1
  unfold upf
  split
  · rfl
  · exact h j h0 h1
section
variable {N : NTW} {S Z : SK}
theorem setO_cE {w n : Int} (h : cE S Z) : cE (setO N L0 S w n) (setO N L0 Z w n) := by
  have e : ∀ Y : SK, ∀ w' : Int, ¬ w' < 0 → ¬ (w' = L0.1 ∧ Y 216 = L0.2) := fun Y w' z1 z2 => by
    have := z2.1
    simp only [L0] at this
    omega
  unfold setO
  split
  · exact h
  · split
    · exact (cE_out (by decide)).trans (h.trans (cE_out (by decide)).symm)
    · rename_i hw
      rw [if_neg (e S w hw), if_neg (e Z w hw)]
      intro i h0 h1
      by_cases hi : i = 12 * w + N 8 w - 1
      · rw [upf_eq hi, upf_eq hi, ← hi, h i h0 h1]
      · rw [upf_ne hi, upf_ne hi, upf_ne (by omega), upf_ne (by omega)]
        exact h i h0 h1
theorem cameS_cE {t f : Int} (h : cE S Z) (h0 : 0 ≤ t) : cE (cameS S t f) (cameS Z t f) := by
  unfold cameS
  split
  · exact (cE_out (by omega)).trans (h.trans (cE_out (by omega)).symm)
  · exact h
theorem doT_cE {t f : Int} (h : cE S Z) (h0 : 0 ≤ t) (h1 : t < 10) : cE (doT N L0 S t f) (doT N L0 Z t f) := by
  have e : S (192 + t) = Z (192 + t) := h _ (by omega) (by omega)
  unfold doT
  rw [e]
  repeat' split
  all_goals first
    | exact h
    | exact cE_upf h
    | exact setO_cE h
    | exact setO_cE (cE_upf h)
    | exact setO_cE (setO_cE (cE_upf h))
    | exact setO_cE ((cE_out (by decide)).trans (h.trans (cE_out (by decide)).symm))
theorem doS_cE {t f : Int} (h : cE S Z) (h0 : 0 ≤ t) (h1 : t < 10) : cE (doS N L0 S t f) (doS N L0 Z t f) := doT_cE (cameS_cE h h0) h0 h1
theorem wkS_cE {F G : Int → Int} (h : cE S Z) : ∀ n : Nat, (n : Int) ≤ 10 → (∀ t, 0 ≤ t → t < (n : Int) → F t = G t) → cE (wkS N L0 F S n) (wkS N L0 G Z n)
  | 0, _, _ => h
  | n + 1, hn, hF => by
    show cE (doS N L0 (wkS N L0 F S n) (n : Int) (F (n : Int))) (doS N L0 (wkS N L0 G Z n) (n : Int) (G (n : Int)))
    rw [hF n (by omega) (by omega)]
    exact doS_cE (wkS_cE h n (by omega) fun t h0 h1 => hF t h0 (by omega)) (by omega) (by omega)
theorem stS_cE (h : cE S Z) : ∀ n : Nat, cE (stS N S n) (stS N Z n)
  | 0 => h
  | n + 1 => by
    unfold stS
    split
    · exact cE_upf (stS_cE h n)
    · exact stS_cE h n
theorem shS_cE {w : Int} (h : cE S Z) (h0 : 0 ≤ w) (h1 : w < 16) : cE (shS S w) (shS Z w) := by
  intro i g0 g1
  unfold shS
  split
  · exact h _ (by omega) (by omega)
  · split
    · rfl
    · exact h i g0 g1
theorem nwS_cE (h : cE S Z) : ∀ n : Nat, (n : Int) ≤ 16 → cE (nwS N S n) (nwS N Z n)
  | 0, _ => stS_cE h _
  | n + 1, hn => shS_cE (nwS_cE h n (by omega)) (by omega) (by omega)
theorem nwF_cE (hW : WN N) (h : cE S Z) : ∀ n : Nat, (n : Int) ≤ N 0 2 → ∀ t, 0 ≤ t → t < N 0 0 → nwF N S n t = nwF N Z n t
  | 0, _, t, h0, h1 => by
    have hT := wn_T hW
    show stF N S t = stF N Z t
    unfold stF
    split
    · exact h _ (by omega) (by omega)
    · rfl
  | n + 1, hn, t, h0, h1 => by
    have hw := wn_W hW
    have h7 := wn_wt hW n (by omega) (by omega)
    show upf (nwF N S n) _ (nwF N S n (N 7 (n : Int)) + nwS N S n (12 * (n : Int))) t = upf (nwF N Z n) _ (nwF N Z n (N 7 (n : Int)) + nwS N Z n (12 * (n : Int))) t
    rw [nwF_cE hW h n (by omega) _ h7.1 h7.2, nwS_cE h n (by omega) _ (by omega) (by omega)]
    unfold upf
    split
    · rfl
    · exact nwF_cE hW h n (by omega) t h0 h1
theorem oneM_cE (h : cE S Z) : cE (oneM S) (oneM Z) := (cE_out (by decide)).trans (h.trans (cE_out (by decide)).symm)
theorem beat_cE (hW : WN N) (h : cE S Z) : cE (beatS N L0 S) (beatS N L0 Z) := by
  have hT := wn_T hW
  have hw := wn_W hW
  exact wkS_cE (nwS_cE (oneM_cE h) _ (by omega)) _ (by omega) fun t h0 h1 => nwF_cE hW (oneM_cE h) _ (by omega) t h0 (by omega)
/-- nobody is on a way, waits, and no pond has its N -/
def still (N : NTW) (S : SK) : Prop := sm S 0 192 = 0 ∧ ∀ t, 0 ≤ t → t < N 0 0 → (N 1 t = 0 → S (192 + t) = 0) ∧ (N 1 t = 5 → S (192 + t) < N 2 t)
theorem still_cE (hW : WN N) (h : cE S Z) (hs : still N S) : still N Z := by
  have hT := wn_T hW
  refine ⟨by rw [← sm_congr (f := S) 192 fun i g0 g1 => h i g0 (by omega)]; exact hs.1, fun t h0 h1 => ?_⟩
  rw [← h (192 + t) (by omega) (by omega)]
  exact hs.2 t h0 h1
theorem still_zero (hn : nn S) (hs : still N S) {i : Int} (h0 : 0 ≤ i) (h1 : i < 192) : S i = 0 := by
  have a := le_sm (f := S) (a := 0) (i := i) 192 (fun j g0 g1 => hn j g0 (by omega)) h0 (by omega)
  have b := hn i h0 (by omega)
  have c := hs.1
  omega
theorem stS_still (hs : still N S) : ∀ n : Nat, (n : Int) ≤ N 0 0 → cE (stS N S n) S
  | 0, _ => cE.refl S
  | n + 1, hn => by
    unfold stS
    split
    · rename_i hc
      intro i h0 h1
      by_cases hi : i = 192 + (n : Int)
      · rw [upf_eq hi, hi, (hs.2 n (by omega) (by omega)).1 hc]
      · rw [upf_ne hi]; exact stS_still hs n (by omega) i h0 h1
    · exact stS_still hs n (by omega)
theorem nwS_still (hW : WN N) (hn : nn S) (hs : still N S) : ∀ n : Nat, (n : Int) ≤ 16 → cE (nwS N S n) S
  | 0, _ => by
    have hT := wn_T hW
    exact stS_still hs _ (by omega)
  | n + 1, h16 => by
    intro i h0 h1
    have ih := nwS_still hW hn hs n (by omega)
    show shS (nwS N S n) (n : Int) i = S i
    by_cases hi : i < 192
    · rw [still_zero hn hs h0 hi]
      unfold shS
      split
      · rw [ih _ (by omega) (by omega)]; exact still_zero hn hs (by omega) (by omega)
      · split
        · rfl
        · rw [ih i h0 h1]; exact still_zero hn hs h0 hi
    · rw [shS_out (by omega)]; exact ih i h0 h1
theorem nwF_still (hW : WN N) (hn : nn S) (hs : still N S) : ∀ n : Nat, (n : Int) ≤ N 0 2 → ∀ t, 0 ≤ t → t < N 0 0 → nwF N S n t = 0
  | 0, _, t, h0, h1 => by
    show stF N S t = 0
    unfold stF
    split
    · rename_i hc; exact (hs.2 t h0 h1).1 hc
    · rfl
  | n + 1, h16, t, h0, h1 => by
    have hw := wn_W hW
    have h7 := wn_wt hW n (by omega) (by omega)
    show upf (nwF N S n) _ (nwF N S n (N 7 (n : Int)) + nwS N S n (12 * (n : Int))) t = 0
    rw [nwF_still hW hn hs n (by omega) _ h7.1 h7.2, nwS_still hW hn hs n (by omega) _ (by omega) (by omega), still_zero hn hs (by omega) (by omega)]
    unfold upf
    split
    · rfl
    · exact nwF_still hW hn hs n (by omega) t h0 h1
theorem doS_still {t : Int} (h0 : 0 ≤ t) (h1 : N 1 t = 5 → S (192 + t) < N 2 t) : cE (doS N L0 S t 0) S := by
  have e : cameS S t 0 = S := if_neg (by decide)
  unfold doS
  rw [e]
  unfold doT
  split
  · rename_i hc
    rw [if_pos (by have := h1 hc; omega)]
    intro i g0 g1
    by_cases hi : i = 192 + t
    · rw [upf_eq hi, hi]; omega
    · exact upf_ne hi
  · rw [if_pos rfl]; exact cE.refl S
theorem wkS_still {F : Int → Int} (hs : ∀ t, 0 ≤ t → t < N 0 0 → N 1 t = 5 → S (192 + t) < N 2 t) (hF : ∀ t, 0 ≤ t → t < N 0 0 → F t = 0) (hT : N 0 0 ≤ 10) : ∀ n : Nat, (n : Int) ≤ N 0 0 → cE (wkS N L0 F S n) S
  | 0, _ => cE.refl S
  | n + 1, hn => by
    have ih := wkS_still hs hF hT n (by omega)
    show cE (doS N L0 (wkS N L0 F S n) (n : Int) (F (n : Int))) S
    rw [hF n (by omega) (by omega)]
    refine (doS_still (by omega) fun hc => ?_).trans ih
    rw [ih (192 + (n : Int)) (by omega) (by omega)]
    exact hs n (by omega) (by omega) hc
theorem beat_still (hW : WN N) (hn : nn S) (hs : still N S) : cE (beatS N L0 S) S := by
  have hT := wn_T hW
  have hw := wn_W hW
  have h1 : cE (oneM S) S := cE_out (by decide)
  have g0 := hn 216 (by decide) (by decide)
  have hn1 : nn (oneM S) := nn_upf hn (by omega)
  have hs1 := still_cE hW h1.symm hs
  have hN : cE (nearS N S) S := (nwS_still hW hn1 hs1 _ (by omega)).trans h1
  refine (wkS_still (fun t h0 h1 hc => ?_) (fun t h0 h1 => nwF_still hW hn1 hs1 _ (by omega) t h0 h1) hT.2 _ (by omega)).trans hN
  rw [hN (192 + t) (by omega) (by omega)]
  exact (hs.2 t h0 h1).2 hc
/-- so many beats -/
def flyS (N : NTW) (L : Int × Int) (S : SK) : Nat → SK
  | 0 => S
  | k + 1 => beatS N L (flyS N L S k)
theorem fly_cE (hW : WN N) (h : cE S Z) : ∀ k : Nat, cE (flyS N L0 S k) (flyS N L0 Z k)
  | 0 => h
  | k + 1 => beat_cE hW (fly_cE hW h k)
theorem fly_ok {L : Int × Int} (hW : WN N) {K : Int} (h : OKS N S K) : ∀ k : Nat, OKS N (flyS N L S k) (K + 990 * (k : Int))
  | 0 => h.mono (by omega)
  | k + 1 => (beat_ok hW (fly_ok hW h k)).mono (by omega)
theorem fly_216 {L : Int × Int} (hW : WN N) : ∀ k : Nat, flyS N L S k 216 = S 216 + (k : Int)
  | 0 => by show S 216 = S 216 + ((0 : Nat) : Int); omega
  | k + 1 => by
    show beatS N L (flyS N L S k) 216 = _
    rw [beat_216 hW, fly_216 hW k]
    omega
theorem fly_add {L : Int × Int} (j : Nat) : ∀ k : Nat, flyS N L S (j + k) = flyS N L (flyS N L S j) k
  | 0 => rfl
  | k + 1 => by
    show beatS N L (flyS N L S (j + k)) = beatS N L (flyS N L (flyS N L S j) k)
    rw [fly_add j k]
theorem fly_still (hW : WN N) {K : Int} (hO : OKS N S K) (hs : still N S) : ∀ k : Nat, cE (flyS N L0 S k) S
  | 0 => cE.refl S
  | k + 1 => by
    have ih := fly_still hW hO hs k
    exact (beat_still hW (fly_ok hW hO k).1 (still_cE hW ih.symm hs)).trans ih
end
