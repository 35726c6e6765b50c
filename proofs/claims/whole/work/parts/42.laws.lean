/-! WHAT A BEAT KEEPS -/
section
variable {N : NTW} {L : Int × Int} {S : SK}
theorem setO_ne {w n i : Int} (h1 : i ≠ 214) (h2 : i ≠ 218) (h3 : 0 ≤ w → i ≠ 12 * w + N 8 w - 1) : setO N L S w n i = S i := by
  unfold setO
  split
  · rfl
  · split
    · exact upf_ne h1
    · have := h3 (by omega)
      split
      · rw [upf_ne this, upf_ne h2, upf_ne h1]
      · rw [upf_ne this, upf_ne h1]
theorem cameS_ne {t f i : Int} (h : i ≠ 202 + t) : cameS S t f i = S i := by
  unfold cameS
  split
  · exact upf_ne h
  · rfl
theorem doT_ne {t f i : Int} (h1 : i ≠ 192 + t) (h2 : i < 213 ∨ i = 216 ∨ i = 217) (h3 : 0 ≤ N 3 t → i ≠ 12 * N 3 t + N 8 (N 3 t) - 1) (h4 : 0 ≤ N 4 t → i ≠ 12 * N 4 t + N 8 (N 4 t) - 1) : doT N L S t f i = S i := by
  unfold doT
  repeat' split
  all_goals first | rfl | (simp (disch := omega) only [upf_ne]; done) | skip
  all_goals first
    | (rw [setO_ne (by omega) (by omega) h3, upf_ne (by omega)]; done)
    | (rw [setO_ne (by omega) (by omega) h4, setO_ne (by omega) (by omega) h3, upf_ne (by omega)]; done)
    | exact setO_ne (by omega) (by omega) h3
    | exact setO_ne (by omega) (by omega) h4
theorem doS_ne {t f i : Int} (h0 : i ≠ 202 + t) (h1 : i ≠ 192 + t) (h2 : i < 213 ∨ i = 216 ∨ i = 217) (h3 : 0 ≤ N 3 t → i ≠ 12 * N 3 t + N 8 (N 3 t) - 1) (h4 : 0 ≤ N 4 t → i ≠ 12 * N 4 t + N 8 (N 4 t) - 1) : doS N L S t f i = S i := by
  unfold doS
  rw [doT_ne h1 h2 h3 h4, cameS_ne h0]
/-- a sky that is as skies are, of at most K geese -/
def OKS (N : NTW) (S : SK) (K : Int) : Prop := nn S ∧ ms S ≤ K ∧ (∀ i, 12 * N 0 2 ≤ i → i < 192 → S i = 0) ∧ (∀ i, 192 + N 0 0 ≤ i → i < 202 → S i = 0) ∧ (∀ t, 0 ≤ t → t < N 0 0 → N 1 t = 2 → S (192 + t) ≤ 1)
theorem slot_rng (hN : WN N) {w : Int} (h0 : 0 ≤ w) (h1 : w < N 0 2) : 12 * w ≤ 12 * w + N 8 w - 1 ∧ 12 * w + N 8 w - 1 < 12 * w + 9 := by
  have := wn_wb hN w h0 h1
  omega
theorem setO_ok (hN : WN N) {K w n : Int} (h : OKS N S K) (hn : 0 ≤ n) (h0 : -1 ≤ w) (h1 : w < N 0 2) : OKS N (setO N L S w n) (K + n) := by
  obtain ⟨a1, a2, a3, a4, a5⟩ := h
  have hW := wn_W hN
  have hT := wn_T hN
  have hb : 0 ≤ w → 1 ≤ N 8 w ∧ N 8 w ≤ 12 := fun z => by have := wn_wb hN w z h1; omega
  refine ⟨setO_nn a1 hn (by omega) hb, by rw [setO_ms (by omega) hb]; omega, fun i g0 g1 => ?_, fun i g0 g1 => ?_, fun t g0 g1 g2 => ?_⟩
  · rw [setO_ne (by omega) (by omega) (fun z => by have := slot_rng hN z h1; omega)]
    exact a3 i g0 g1
  · rw [setO_ne (by omega) (by omega) (fun z => by have := slot_rng hN z h1; omega)]
    exact a4 i g0 g1
  · rw [setO_ne (by omega) (by omega) (fun z => by have := slot_rng hN z h1; omega)]
    exact a5 t g0 g1 g2
theorem OKS_out {K i v : Int} (h : OKS N S K) (hv : 0 ≤ v) (hi : 202 ≤ i) (h1 : i ≠ 214) (h2 : i ≠ 215) (hT : N 0 0 ≤ 10) : OKS N (upf S i v) K := by
  obtain ⟨a1, a2, a3, a4, a5⟩ := h
  refine ⟨nn_upf a1 hv, by rw [ms_out (Or.inr hi) h1 h2]; exact a2, fun j g0 g1 => ?_, fun j g0 g1 => ?_, fun t g0 g1 g2 => ?_⟩
  · rw [upf_ne (by omega)]; exact a3 j g0 g1
  · rw [upf_ne (by omega)]; exact a4 j g0 g1
  · rw [upf_ne (by omega)]; exact a5 t g0 g1 g2
theorem OKS_lost {K v : Int} (h : OKS N S K) (hv : 0 ≤ v) (hT : N 0 0 ≤ 10) : OKS N (upf S 214 (S 214 + v)) (K + v) := by
  obtain ⟨a1, a2, a3, a4, a5⟩ := h
  have h4 := a1 214 (by decide) (by decide)
  refine ⟨nn_upf a1 (by omega), by rw [ms_lost]; omega, fun j g0 g1 => ?_, fun j g0 g1 => ?_, fun t g0 g1 g2 => ?_⟩
  · rw [upf_ne (by omega)]; exact a3 j g0 g1
  · rw [upf_ne (by omega)]; exact a4 j g0 g1
  · rw [upf_ne (by omega)]; exact a5 t g0 g1 g2
theorem OKS_taken {K v : Int} (h : OKS N S K) (hv : 0 ≤ v) (hT : N 0 0 ≤ 10) : OKS N (upf S 215 (S 215 + v)) (K + v) := by
  obtain ⟨a1, a2, a3, a4, a5⟩ := h
  have h4 := a1 215 (by decide) (by decide)
  refine ⟨nn_upf a1 (by omega), by rw [ms_taken]; omega, fun j g0 g1 => ?_, fun j g0 g1 => ?_, fun t g0 g1 g2 => ?_⟩
  · rw [upf_ne (by omega)]; exact a3 j g0 g1
  · rw [upf_ne (by omega)]; exact a4 j g0 g1
  · rw [upf_ne (by omega)]; exact a5 t g0 g1 g2
theorem OKS_stay {K v t : Int} (h : OKS N S K) (hv : 0 ≤ v) (h0 : 0 ≤ t) (h1 : t < N 0 0) (hT : N 0 0 ≤ 10) (hs : N 1 t = 2 → v ≤ 1) : OKS N (upf S (192 + t) v) (K + v - S (192 + t)) := by
  obtain ⟨a1, a2, a3, a4, a5⟩ := h
  refine ⟨nn_upf a1 (by omega), by rw [ms_in (by omega) (by omega)]; omega, fun j g0 g1 => ?_, fun j g0 g1 => ?_, fun u g0 g1 g2 => ?_⟩
  · rw [upf_ne (by omega)]; exact a3 j g0 g1
  · rw [upf_ne (by omega)]; exact a4 j g0 g1
  · by_cases hu : u = t
    · rw [hu, upf_hit]; exact hs (hu ▸ g2)
    · rw [upf_ne (by omega)]; exact a5 u g0 g1 g2
theorem OKS.mono {K K' : Int} (h : OKS N S K) (hk : K ≤ K') : OKS N S K' := ⟨h.1, by have := h.2.1; omega, h.2.2⟩
theorem cameS_ok {K t f : Int} (h : OKS N S K) (h0 : 0 ≤ t) (h1 : t < N 0 0) (hT : N 0 0 ≤ 10) : OKS N (cameS S t f) K := by
  unfold cameS
  split
  · have := h.1 (202 + t) (by omega) (by omega)
    exact OKS_out h (by omega) (by omega) (by omega) (by omega) hT
  · exact h
theorem doT_ok (hN : WN N) {K t f : Int} (h : OKS N S K) (h0 : 0 ≤ t) (h1 : t < N 0 0) (hf : 0 ≤ f) : OKS N (doT N L S t f) (K + f + 99) := by
  have hT := wn_T hN
  have e3 := wn_fi hN t h0 h1
  have e4 := wn_se hN t h0 h1
  have es := h.1 (192 + t) (by omega) (by omega)
  unfold doT
  split
  · rename_i c5
    have ez := wn_sz hN t h0 h1 (by omega)
    split
    · exact (OKS_stay h (by omega) h0 h1 hT.2 (by omega)).mono (by omega)
    · exact (setO_ok hN (OKS_stay h (by omega) h0 h1 hT.2 (by omega)) (by omega) e3.1 e3.2).mono (by omega)
  · split
    · exact h.mono (by omega)
    · split
      · exact (setO_ok hN (setO_ok hN (OKS_stay h (v := (f + S (192 + t)) % 2) (by omega) h0 h1 hT.2 (by omega)) (n := (f + S (192 + t)) / 2) (by omega) e3.1 e3.2) (n := (f + S (192 + t)) / 2) (by omega) e4.1 e4.2).mono (by omega)
      · split
        · split
          · exact (setO_ok hN h hf e3.1 e3.2).mono (by omega)
          · exact (setO_ok hN h hf e4.1 e4.2).mono (by omega)
        · split
          · exact (OKS_stay h (by omega) h0 h1 hT.2 (by omega)).mono (by omega)
          · split
            · have ez := wn_sz hN t h0 h1 (by omega)
              split
              · exact (setO_ok hN (OKS_taken h hf hT.2) (by omega) e3.1 e3.2).mono (by omega)
              · exact (setO_ok hN (OKS_taken h (v := N 2 t) (by omega) hT.2) (by omega) e3.1 e3.2).mono (by omega)
            · split
              · have ez := wn_sz hN t h0 h1 (by omega)
                have := h.1 213 (by decide) (by decide)
                exact (setO_ok hN (OKS_out h (i := 213) (v := S 213 + N 2 t) (by omega) (by decide) (by decide) (by decide) hT.2) (by omega) e3.1 e3.2).mono (by omega)
              · split
                · have ez := wn_sz hN t h0 h1 (by omega)
                  have g1 := Int.emod_nonneg f (show N 2 t ≠ 0 by omega)
                  have g2 : f % N 2 t ≤ f := by
                    by_cases hlt : f < N 2 t
                    · rw [Int.emod_eq_of_lt hf hlt]; exact Int.le_refl f
                    · have := Int.emod_lt_of_pos f (show 0 < N 2 t by omega)
                      omega
                  exact (setO_ok hN (OKS_lost h g1 hT.2) (n := f - f % N 2 t) (by omega) e3.1 e3.2).mono (by omega)
                · exact (setO_ok hN h hf e3.1 e3.2).mono (by omega)
theorem doS_ok (hN : WN N) {K t f : Int} (h : OKS N S K) (h0 : 0 ≤ t) (h1 : t < N 0 0) (hf : 0 ≤ f) : OKS N (doS N L S t f) (K + f + 99) := doT_ok hN (cameS_ok h h0 h1 (wn_T hN).2) h0 h1 hf
theorem wkS_ok (hN : WN N) {F : Int → Int} {K : Int} (h : OKS N S K) (hF : ∀ t, 0 ≤ t → t < N 0 0 → 0 ≤ F t) : ∀ n : Nat, (n : Int) ≤ N 0 0 → OKS N (wkS N L F S n) (K + sm F 0 n + 99 * (n : Int))
  | 0, _ => h.mono (by show K ≤ K + 0 + 99 * ((0 : Nat) : Int); omega)
  | n + 1, hn => by
    refine (doS_ok hN (wkS_ok hN h hF n (by omega)) (t := (n : Int)) (f := F (n : Int)) (by omega) (by omega) (hF _ (by omega) (by omega))).mono ?_
    have e : sm F 0 (n + 1) = sm F 0 n + F (n : Int) := by
      show sm F 0 n + F (0 + (n : Int)) = _
      rw [Int.zero_add]
    omega
theorem wkS_ne (hN : WN N) {F : Int → Int} {i : Int} (h : (202 + N 0 0 ≤ i ∧ i < 213) ∨ i = 216 ∨ i = 217) : ∀ n : Nat, (n : Int) ≤ N 0 0 → wkS N L F S n i = S i
  | 0, _ => rfl
  | n + 1, hn => by
    have hT := wn_T hN
    have hW := wn_W hN
    have e3 := wn_fi hN n (by omega) (by omega)
    have e4 := wn_se hN n (by omega) (by omega)
    show doS N L (wkS N L F S n) (n : Int) (F (n : Int)) i = S i
    rw [doS_ne (by omega) (by omega) (by omega) (fun z => by have := slot_rng hN z e3.2; omega) (fun z => by have := slot_rng hN z e4.2; omega), wkS_ne hN h n (by omega)]
theorem wkS_congr {F G : Int → Int} : ∀ n : Nat, (∀ t, 0 ≤ t → t < (n : Int) → F t = G t) → wkS N L F S n = wkS N L G S n
  | 0, _ => rfl
  | n + 1, h => by
    show doS N L (wkS N L F S n) (n : Int) (F (n : Int)) = doS N L (wkS N L G S n) (n : Int) (G (n : Int))
    rw [wkS_congr n fun t h0 h1 => h t h0 (by omega), h _ (by omega) (by omega)]
theorem stS_ge : ∀ (n : Nat) {i : Int}, i < 192 ∨ 192 + (n : Int) ≤ i → stS N S n i = S i
  | 0, _, _ => rfl
  | n + 1, i, h => by
    unfold stS
    split
    · rw [upf_ne (by omega), stS_ge n (by omega)]
    · exact stS_ge n (by omega)
theorem stS_nn (h : nn S) : ∀ n : Nat, nn (stS N S n)
  | 0 => h
  | n + 1 => by
    unfold stS
    split
    · exact nn_upf (stS_nn h n) (Int.le_refl 0)
    · exact stS_nn h n
theorem stS_ms : ∀ n : Nat, (n : Int) ≤ 10 → ms (stS N S n) + sm (stF N S) 0 n = ms S
  | 0, _ => by show ms S + 0 = ms S; omega
  | n + 1, hn => by
    have ih := stS_ms n (by omega)
    have e : sm (stF N S) 0 (n + 1) = sm (stF N S) 0 n + stF N S (n : Int) := by
      show sm (stF N S) 0 n + stF N S (0 + (n : Int)) = _
      rw [Int.zero_add]
    rw [e]
    unfold stS
    by_cases h : N 1 (n : Int) = 0
    · rw [if_pos h, ms_in (by omega) (by omega), stS_ge n (by omega)]
      have : stF N S (n : Int) = S (192 + (n : Int)) := if_pos h
      omega
    · rw [if_neg h]
      have : stF N S (n : Int) = 0 := if_neg h
      omega
theorem stS_val : ∀ (n : Nat) (i : Int), stS N S n i = S i ∨ stS N S n i = 0
  | 0, _ => Or.inl rfl
  | n + 1, i => by
    unfold stS
    split
    · by_cases h : i = 192 + (n : Int)
      · exact Or.inr (upf_eq h)
      · rw [upf_ne h]; exact stS_val n i
    · exact stS_val n i
theorem nwS_hi : ∀ (n : Nat) {i : Int}, (n : Int) ≤ 16 → 192 ≤ i → nwS N S n i = stS N S (N 0 0).toNat i
  | 0, _, _, _ => rfl
  | n + 1, i, hn, hi => by
    show shS (nwS N S n) (n : Int) i = _
    rw [shS_out (by omega), nwS_hi n (by omega) hi]
theorem nwS_un : ∀ (n : Nat) {i : Int}, 12 * (n : Int) ≤ i → i < 192 → nwS N S n i = S i
  | 0, _, _, h => stS_ge _ (Or.inl h)
  | n + 1, i, h, hi => by
    show shS (nwS N S n) (n : Int) i = _
    rw [shS_out (by omega), nwS_un n (by omega) hi]
theorem nwS_lo : ∀ (n : Nat) {w k : Int}, 0 ≤ w → w < (n : Int) → (n : Int) ≤ 16 → 0 ≤ k → k < 12 → nwS N S n (12 * w + k) = if k = 11 then 0 else S (12 * w + k + 1)
  | 0, w, k, h0, h1, _, _, _ => by omega
  | n + 1, w, k, h0, h1, hn, k0, k1 => by
    show shS (nwS N S n) (n : Int) (12 * w + k) = _
    by_cases hw : w = (n : Int)
    · subst hw
      by_cases hk : k = 11
      · rw [if_pos hk, hk, shS_last]
      · rw [if_neg hk, shS_in (by omega) (by omega), nwS_un n (by omega) (by omega)]
    · rw [shS_out (by omega), nwS_lo n h0 (by omega) (by omega) k0 k1]
theorem shS_nn {w : Int} (h : nn S) (h0 : 0 ≤ w) (h1 : w < 16) : nn (shS S w) := by
  intro i g0 g1
  unfold shS
  split
  · exact h _ (by omega) (by omega)
  · split
    · exact Int.le_refl 0
    · exact h i g0 g1
theorem nwS_nn (h : nn S) : ∀ n : Nat, (n : Int) ≤ 16 → nn (nwS N S n)
  | 0, _ => stS_nn h _
  | n + 1, hn => shS_nn (nwS_nn h n (by omega)) (by omega) (by omega)
theorem ms_sh {w : Int} (h0 : 0 ≤ w) (h1 : w < 16) : ms (shS S w) = ms S - S (12 * w) := by
  have e : ∀ f : SK, sm f 0 202 = sm f 0 192 + sm f 192 10 := fun f => sm_add 192 10
  unfold ms
  rw [e, e, sm_sh h0 h1, sm_congr (f := shS S w) (g := S) 10 fun i g0 _ => shS_out (by omega), shS_out (by omega), shS_out (by omega)]
  omega
theorem nwF_nn (h : nn S) (hW : WN N) : ∀ n : Nat, (n : Int) ≤ N 0 2 → ∀ t, 0 ≤ t → t < N 0 0 → 0 ≤ nwF N S n t
  | 0, _, t, h0, h1 => by
    have hT := wn_T hW
    show 0 ≤ stF N S t
    unfold stF
    split
    · exact h _ (by omega) (by omega)
    · exact Int.le_refl 0
  | n + 1, hn, t, h0, h1 => by
    have hw := wn_W hW
    have h7 := wn_wt hW n (by omega) (by omega)
    have g := nwF_nn h hW n (by omega)
    have g2 := nwS_nn (N := N) h n (by omega) (12 * (n : Int)) (by omega) (by omega)
    have g3 := g _ h7.1 h7.2
    show 0 ≤ upf (nwF N S n) (N 7 (n : Int)) (nwF N S n (N 7 (n : Int)) + nwS N S n (12 * (n : Int))) t
    unfold upf
    split
    · omega
    · exact g t h0 h1
theorem nwS_ms (hW : WN N) : ∀ n : Nat, (n : Int) ≤ N 0 2 → ms (nwS N S n) + sm (nwF N S n) 0 (N 0 0).toNat = ms S
  | 0, _ => stS_ms _ (by have := wn_T hW; omega)
  | n + 1, hn => by
    have hw := wn_W hW
    have hT := wn_T hW
    have h7 := wn_wt hW n (by omega) (by omega)
    have ih := nwS_ms hW n (by omega)
    show ms (shS (nwS N S n) (n : Int)) + sm (upf (nwF N S n) (N 7 (n : Int)) (nwF N S n (N 7 (n : Int)) + nwS N S n (12 * (n : Int)))) 0 (N 0 0).toNat = ms S
    rw [ms_sh (by omega) (by omega), sm_in _ h7.1 (by omega)]
    omega
theorem nwS_ok (hW : WN N) {K : Int} (h : OKS N S K) (n : Nat) (hn : (n : Int) ≤ N 0 2) : OKS N (nwS N S n) (K - sm (nwF N S n) 0 (N 0 0).toNat) := by
  have hT := wn_T hW
  have hw := wn_W hW
  refine ⟨nwS_nn h.1 n (by omega), by have := nwS_ms (S := S) hW n hn; have := h.2.1; omega, fun i g0 g1 => ?_, fun i g0 g1 => ?_, fun t g0 g1 g2 => ?_⟩
  · rw [nwS_un n (by omega) g1]; exact h.2.2.1 i g0 g1
  · rw [nwS_hi n (by omega) (by omega), stS_ge _ (by omega)]; exact h.2.2.2.1 i g0 g1
  · rw [nwS_hi n (by omega) (by omega)]
    rcases stS_val (N := N) (S := S) (N 0 0).toNat (192 + t) with e | e
    · rw [e]; exact h.2.2.2.2 t g0 g1 g2
    · rw [e]; decide
theorem oneM_ok {K : Int} (h : OKS N S K) (hT : N 0 0 ≤ 10) : OKS N (oneM S) K := by
  have := h.1 216 (by decide) (by decide)
  exact OKS_out h (by omega) (by decide) (by decide) (by decide) hT
theorem near_ok (hW : WN N) {K : Int} (h : OKS N S K) : OKS N (nearS N S) (K - sm (flkS N S) 0 (N 0 0).toNat) := by
  have hw := wn_W hW
  exact nwS_ok hW (oneM_ok h (wn_T hW).2) _ (by omega)
theorem flk_nn (hW : WN N) {K : Int} (h : OKS N S K) : ∀ t, 0 ≤ t → t < N 0 0 → 0 ≤ flkS N S t := by
  have hw := wn_W hW
  exact nwF_nn (oneM_ok h (wn_T hW).2).1 hW _ (by omega)
theorem step_ok (hW : WN N) {K : Int} (h : OKS N S K) (n : Nat) (hn : (n : Int) ≤ N 0 0) : OKS N (wkS N L (flkS N S) (nearS N S) n) (K + 990) := by
  have hT := wn_T hW
  have hf := flk_nn hW h
  have := sm_mono (f := flkS N S) (a := 0) n (N 0 0).toNat (by omega) fun i g0 g1 => hf i g0 (by omega)
  exact (wkS_ok hW (near_ok hW h) hf n hn).mono (by omega)
theorem flk_le (hW : WN N) {K : Int} (h : OKS N S K) {t : Int} (h0 : 0 ≤ t) (h1 : t < N 0 0) : flkS N S t ≤ K := by
  have hf := flk_nn hW h
  have a := le_sm (f := flkS N S) (a := 0) (i := t) (N 0 0).toNat (fun i g0 g1 => hf i g0 (by omega)) h0 (by omega)
  have b := (near_ok hW h).2.1
  have c := (near_ok hW h).1
  have e := sm_nn (f := nearS N S) (a := 0) 202 fun i h0 h1 => c i h0 (by omega)
  have e4 := c 214 (by decide) (by decide)
  have e5 := c 215 (by decide) (by decide)
  unfold ms at b
  omega
theorem beat_ok (hW : WN N) {K : Int} (h : OKS N S K) : OKS N (beatS N L S) (K + 990) := by
  have hT := wn_T hW
  exact step_ok hW h _ (by omega)
theorem near_hi (hW : WN N) {i : Int} (h : 192 + N 0 0 ≤ i) (h2 : i ≠ 216) : nearS N S i = S i := by
  have hT := wn_T hW
  have hw := wn_W hW
  by_cases h3 : 192 ≤ i
  · unfold nearS
    rw [nwS_hi _ (by omega) h3, stS_ge _ (by omega)]
    exact upf_ne h2
  · omega
theorem beat_216 (hW : WN N) : beatS N L S 216 = S 216 + 1 := by
  have hT := wn_T hW
  have hw := wn_W hW
  unfold beatS
  rw [wkS_ne hW (by omega) _ (by omega)]
  unfold nearS
  rw [nwS_hi _ (by omega) (by decide), stS_ge _ (by omega)]
  exact upf_hit
theorem beat_ne (hW : WN N) {i : Int} (h : i = 212 ∨ i = 217) : beatS N L S i = S i := by
  have hT := wn_T hW
  unfold beatS
  rw [wkS_ne hW (by omega) _ (by omega), near_hi hW (by omega) (by omega)]
end
