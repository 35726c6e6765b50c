/-! ONE GOOSE LOST, as numbers -/
def slt (N : NTW) (w : Int) : Int := 12 * w + N 8 w - 1
def lzS (N : NTW) (S : SK) (w : Int) : SK := upf S (slt N w) (S (slt N w) - 1)
def RLo (N : NTW) (w : Int) (Z B : SK) : Prop := (B (slt N w) = 0 ∧ Z = B) ∨ (0 < B (slt N w) ∧ cE Z (lzS N B w) ∧ Z 218 = 1)
section
variable {N : NTW} {S Z B : SK} {w b : Int}
theorem slt_rng (hW : WN N) (h0 : 0 ≤ w) (h1 : w < N 0 2) : 0 ≤ slt N w ∧ slt N w < 192 ∧ 12 * w ≤ slt N w ∧ slt N w < 12 * w + 9 := by
  have := wn_wb hW w h0 h1
  have := wn_W hW
  unfold slt
  omega
theorem setO_L {L : Int × Int} {u m : Int} (h : u ≠ L.1 ∨ S 216 ≠ L.2) : setO N L S u m = setO N L0 S u m := by
  unfold setO
  split
  · rfl
  · split
    · rfl
    · rw [if_neg (fun z => by rcases h with h | h; exact h z.1; exact h z.2), if_neg (fun z => by have := z.1; simp only [L0] at this; omega)]
theorem setO_218 {u m : Int} (hW : WN N) (hu : u < N 0 2) : setO N L0 S u m 218 = S 218 := by
  have hw := wn_W hW
  unfold setO
  split
  · rfl
  · split
    · exact upf_ne (by decide)
    · have := wn_wb hW u (by omega) hu
      rw [if_neg (fun z => by have := z.1; simp only [L0] at this; omega), upf_ne (by omega), upf_ne (by decide)]
theorem lz_out {i v : Int} (hi : 202 ≤ i) (h : slt N w < 192) (hc : cE Z (lzS N B w)) {v' : Int} : cE (upf Z i v') (lzS N (upf B i v) w) := by
  intro j h0 h1
  rw [upf_ne (by omega), hc j h0 h1]
  unfold lzS
  by_cases hj : j = slt N w
  · rw [upf_eq hj, upf_eq hj, upf_ne (by omega)]
  · rw [upf_ne hj, upf_ne hj, upf_ne (by omega)]
theorem RLo_out {i v : Int} (hi : 202 ≤ i) (h8 : i ≠ 218) (hs : slt N w < 192) (h : RLo N w Z B) : RLo N w (upf Z i (Z i + v)) (upf B i (B i + v)) := by
  rcases h with ⟨h1, rfl⟩ | ⟨h1, h2, h3⟩
  · exact Or.inl ⟨by rw [upf_ne (by omega)]; exact h1, rfl⟩
  · exact Or.inr ⟨by rw [upf_ne (by omega)]; exact h1, lz_out hi hs h2, by rw [upf_ne (Ne.symm h8)]; exact h3⟩
theorem RLo_at {i : Int} (h0 : 192 ≤ i) (h1 : i < 202) (hs : slt N w < 192) (h : RLo N w Z B) : Z i = B i := by
  rcases h with ⟨_, rfl⟩ | ⟨_, h2, _⟩
  · rfl
  · rw [h2 i (by omega) h1]
    exact upf_ne (by omega)
theorem RLo_stay {i v : Int} (h0 : 192 ≤ i) (h1 : i < 202) (hs : slt N w < 192) (h : RLo N w Z B) : RLo N w (upf Z i v) (upf B i v) := by
  rcases h with ⟨g1, rfl⟩ | ⟨g1, g2, g3⟩
  · exact Or.inl ⟨by rw [upf_ne (by omega)]; exact g1, rfl⟩
  · refine Or.inr ⟨by rw [upf_ne (by omega)]; exact g1, fun j j0 j1 => ?_, by rw [upf_ne (by omega)]; exact g3⟩
    unfold lzS
    by_cases hj : j = i
    · rw [upf_eq hj, upf_ne (by omega), upf_eq hj]
    · rw [upf_ne hj, g2 j j0 j1]
      unfold lzS
      by_cases hk : j = slt N w
      · rw [upf_eq hk, upf_eq hk, upf_ne (by omega)]
      · rw [upf_ne hk, upf_ne hk, upf_ne hj]
theorem setO_RLo (hW : WN N) (h0 : 0 ≤ w) (h1 : w < N 0 2) (h : RLo N w Z B) (z6 : Z 216 = b) {u m : Int} (u0 : -1 ≤ u) (u1 : u < N 0 2) (hm : 0 ≤ m) (hc : u = w → B (slt N w) = 0) : RLo N w (setO N (w, b) Z u m) (setO N L0 B u m) := by
  have hs := slt_rng hW h0 h1
  have hww := wn_W hW
  have nl : ∀ Y : SK, ¬ u < 0 → ¬ (u = L0.1 ∧ Y 216 = L0.2) := fun Y z1 z2 => by
    have := z2.1
    simp only [L0] at this
    omega
  by_cases hz : m = 0
  · unfold setO
    rw [if_pos hz, if_pos hz]
    exact h
  · by_cases hn : u < 0
    · unfold setO
      rw [if_neg hz, if_neg hz, if_pos hn, if_pos hn]
      exact RLo_out (by decide) (by decide) hs.2.1 h
    · have hbu := wn_wb hW u (by omega) u1
      have hcg := capg_le hm
      by_cases hu : u = w
      · have hB := hc hu
        subst hu
        rcases h with ⟨g1, rfl⟩ | ⟨g1, _, _⟩
        · have es : 12 * u + N 8 u - 1 = slt N u := rfl
          refine Or.inr ⟨?_, fun j j0 j1 => ?_, ?_⟩
          · unfold setO
            rw [if_neg hz, if_neg hn, if_neg (nl Z hn), es, upf_hit]
            omega
          · unfold lzS
            unfold setO
            rw [if_neg hz, if_neg hn, if_pos ⟨rfl, z6⟩, if_neg hz, if_neg hn, if_neg (nl Z hn), es]
            by_cases hj : j = slt N u
            · rw [upf_eq hj, upf_eq hj, upf_hit]
              omega
            · rw [upf_ne hj, upf_ne (by omega), upf_ne (by omega), upf_ne hj, upf_ne hj, upf_ne (by omega)]
          · unfold setO
            rw [if_neg hz, if_neg hn, if_pos ⟨rfl, z6⟩, es, upf_ne (by omega), upf_hit]
        · omega
      · rw [setO_L (L := (w, b)) (S := Z) (Or.inl hu)]
        have hne : slt N w ≠ 12 * u + N 8 u - 1 := by unfold slt; have := wn_wb hW w h0 h1; omega
        have es : ∀ Y : SK, setO N L0 Y u m (slt N w) = Y (slt N w) := fun Y => setO_ne (by omega) (by omega) fun _ => hne
        rcases h with ⟨g1, rfl⟩ | ⟨g1, g2, g3⟩
        · exact Or.inl ⟨by rw [es]; exact g1, rfl⟩
        · refine Or.inr ⟨by rw [es]; exact g1, (setO_cE g2).trans fun j j0 j1 => ?_, by rw [setO_218 hW u1]; exact g3⟩
          unfold lzS
          rw [es]
          unfold setO
          rw [if_neg hz, if_neg hn, if_neg (nl _ hn), if_neg hz, if_neg hn, if_neg (nl B hn)]
          by_cases hj : j = slt N w
          · rw [upf_ne (by omega), upf_ne (by omega), upf_eq hj, upf_eq hj]
          · by_cases hk : j = 12 * u + N 8 u - 1
            · rw [upf_eq hk, upf_ne hj, upf_eq hk, upf_ne (by omega)]
            · rw [upf_ne hk, upf_ne (by omega), upf_ne hj, upf_ne hj, upf_ne hk, upf_ne (by omega)]
theorem doS_RLo (hW : WN N) (h0 : 0 ≤ w) (h1 : w < N 0 2) (h : RLo N w Z B) (z6 : Z 216 = b) {t f : Int} (t0 : 0 ≤ t) (t1 : t < N 0 0) (hf : 0 ≤ f) (hnn : 0 ≤ B (192 + t)) (hc : t = N 6 w → B (slt N w) = 0) : RLo N w (doS N (w, b) Z t f) (doS N L0 B t f) := by
  have hs := slt_rng hW h0 h1
  have hT := wn_T hW
  have e3 := wn_fi hW t t0 t1
  have e4 := wn_se hW t t0 t1
  have c3 : N 3 t = w → B (slt N w) = 0 := fun z => hc (by rw [← z]; exact (wn_ff hW t t0 t1 (by omega)).symm)
  have c4 : N 4 t = w → B (slt N w) = 0 := fun z => hc (by rw [← z]; exact (wn_sf hW t t0 t1 (by omega)).symm)
  have hk : RLo N w (cameS Z t f) (cameS B t f) := by
    unfold cameS
    split
    · exact RLo_out (by omega) (by omega) hs.2.1 h
    · exact h
  have k6 : cameS Z t f 216 = b := by rw [cameS_ne (by omega)]; exact z6
  have kB : cameS B t f (slt N w) = B (slt N w) := cameS_ne (by omega)
  have kt : cameS B t f (192 + t) = B (192 + t) := cameS_ne (by omega)
  have kz : cameS Z t f (192 + t) = B (192 + t) := by rw [RLo_at (by omega) (by omega) hs.2.1 hk, kt]
  unfold doS doT
  rw [kt, kz]
  have st : ∀ {u m : Int} {Y X : SK}, RLo N w Y X → Y 216 = b → X (slt N w) = B (slt N w) → 0 ≤ m → (u = N 3 t ∨ u = N 4 t) → RLo N w (setO N (w, b) Y u m) (setO N L0 X u m) := fun {u m Y X} g g6 gX gm gu => by
    refine setO_RLo hW h0 h1 g g6 (by rcases gu with rfl | rfl <;> omega) (by rcases gu with rfl | rfl <;> omega) gm fun z => ?_
    rw [gX]
    rcases gu with rfl | rfl
    · exact c3 z
    · exact c4 z
  split
  · rename_i c5
    have ez := wn_sz hW t t0 t1 (by omega)
    split
    · exact RLo_stay (by omega) (by omega) hs.2.1 hk
    · exact st (RLo_stay (by omega) (by omega) hs.2.1 hk) (by rw [upf_ne (by omega)]; exact k6) (by rw [upf_ne (by omega)]; exact kB) (by omega) (Or.inl rfl)
  · split
    · exact hk
    · split
      · have ha := st (u := N 3 t) (m := (f + B (192 + t)) / 2) (RLo_stay (i := 192 + t) (v := (f + B (192 + t)) % 2) (by omega) (by omega) hs.2.1 hk) (by rw [upf_ne (by omega)]; exact k6) (by rw [upf_ne (by omega)]; exact kB) (by omega) (Or.inl rfl)
        refine setO_RLo hW h0 h1 ha ?_ e4.1 e4.2 (by omega) fun z => ?_
        · rw [setO_ne (by decide) (by decide) (fun y => by have := slot_rng hW y e3.2; have := wn_W hW; omega), upf_ne (by omega)]
          exact k6
        · have hne : N 3 t ≠ w := fun y => by
            by_cases y0 : 0 ≤ N 3 t
            · exact wn_ne hW t t0 t1 y0 (by rw [y, z])
            · omega
          rw [setO_ne (by omega) (by omega) (fun y => by have := slot_rng hW y e3.2; unfold slt; have := wn_wb hW w h0 h1; omega), upf_ne (by omega), kB]
          exact c4 z
      · split
        · split
          · exact st hk k6 kB hf (Or.inl rfl)
          · exact st hk k6 kB hf (Or.inr rfl)
        · split
          · exact RLo_stay (by omega) (by omega) hs.2.1 hk
          · split
            · have ez := wn_sz hW t t0 t1 (by omega)
              split
              · exact st (RLo_out (by decide) (by decide) hs.2.1 hk) (by rw [upf_ne (by decide)]; exact k6) (by rw [upf_ne (by omega)]; exact kB) (by omega) (Or.inl rfl)
              · exact st (RLo_out (by decide) (by decide) hs.2.1 hk) (by rw [upf_ne (by decide)]; exact k6) (by rw [upf_ne (by omega)]; exact kB) (by omega) (Or.inl rfl)
            · split
              · have ez := wn_sz hW t t0 t1 (by omega)
                exact st (RLo_out (by decide) (by decide) hs.2.1 hk) (by rw [upf_ne (by decide)]; exact k6) (by rw [upf_ne (by omega)]; exact kB) (by omega) (Or.inl rfl)
              · split
                · have ez := wn_sz hW t t0 t1 (by omega)
                  have g2 : f % N 2 t ≤ f := by
                    by_cases hlt : f < N 2 t
                    · rw [Int.emod_eq_of_lt hf hlt]; exact Int.le_refl f
                    · have := Int.emod_lt_of_pos f (show 0 < N 2 t by omega)
                      omega
                  exact st (RLo_out (by decide) (by decide) hs.2.1 hk) (by rw [upf_ne (by decide)]; exact k6) (by rw [upf_ne (by omega)]; exact kB) (by omega) (Or.inl rfl)
                · exact st hk k6 kB hf (Or.inl rfl)
theorem doS_216 (hW : WN N) {L : Int × Int} {t f : Int} (t0 : 0 ≤ t) (t1 : t < N 0 0) : doS N L S t f 216 = S 216 := by
  have hT := wn_T hW
  have hw := wn_W hW
  have e3 := wn_fi hW t t0 t1
  have e4 := wn_se hW t t0 t1
  exact doS_ne (by omega) (by omega) (by omega) (fun y => by have := slot_rng hW y e3.2; omega) (fun y => by have := slot_rng hW y e4.2; omega)
theorem wkS_RLo (hW : WN N) (h0 : 0 ≤ w) (h1 : w < N 0 2) {F : Int → Int} {K : Int} (hO : OKS N S K) (hF : ∀ t, 0 ≤ t → t < N 0 0 → 0 ≤ F t) (z6 : S 216 = b) (hs0 : S (slt N w) = 0) : ∀ n : Nat, (n : Int) ≤ N 0 0 → RLo N w (wkS N (w, b) F S n) (wkS N L0 F S n) ∧ ((n : Int) ≤ N 6 w → wkS N L0 F S n (slt N w) = 0)
  | 0, _ => ⟨Or.inl ⟨hs0, rfl⟩, fun _ => hs0⟩
  | n + 1, hn => by
    have hT := wn_T hW
    have hs := slt_rng hW h0 h1
    obtain ⟨a1, a2⟩ := wkS_RLo hW h0 h1 hO hF z6 hs0 n (by omega)
    have b1 := (wkS_ok (L := L0) hW hO hF n (by omega)).1 (192 + (n : Int)) (by omega) (by omega)
    have b2 : wkS N (w, b) F S n 216 = b := by rw [wkS_ne hW (by omega) n (by omega)]; exact z6
    have e3 := wn_fi hW n (by omega) (by omega)
    have e4 := wn_se hW n (by omega) (by omega)
    refine ⟨doS_RLo hW h0 h1 a1 b2 (by omega) (by omega) (hF n (by omega) (by omega)) b1 fun z => a2 (by omega), fun z => ?_⟩
    show doS N L0 (wkS N L0 F S n) (n : Int) (F (n : Int)) (slt N w) = 0
    rw [doS_ne (by omega) (by omega) (by omega) (fun y => ?_) (fun y => ?_)]
    · exact a2 (by omega)
    · have := slot_rng hW y e3.2
      have g := wn_ff hW n (by omega) (by omega) y
      have : N 3 (n : Int) ≠ w := fun q => by rw [q] at g; omega
      omega
    · have := slot_rng hW y e4.2
      have g := wn_sf hW n (by omega) (by omega) y
      have : N 4 (n : Int) ≠ w := fun q => by rw [q] at g; omega
      omega
/-- nobody has more beats left than the way takes -/
def TR (N : NTW) (S : SK) : Prop := ∀ w k, 0 ≤ w → w < N 0 2 → N 8 w ≤ k → k < 12 → S (12 * w + k) = 0
theorem near_TR (hW : WN N) (h : TR N S) : ∀ w k, 0 ≤ w → w < N 0 2 → N 8 w ≤ k + 1 → 0 ≤ k → k < 12 → nearS N S (12 * w + k) = 0 := by
  intro u k u0 u1 k0 kk k1
  have hw := wn_W hW
  unfold nearS
  rw [nwS_lo _ u0 (by omega) (by omega) kk k1]
  split
  · rfl
  · unfold oneM
    rw [upf_ne (by omega), show 12 * u + k + 1 = 12 * u + (k + 1) by omega]
    exact h u (k + 1) u0 u1 k0 (by omega)
theorem beat_TR (hW : WN N) {L : Int × Int} (h : TR N S) : TR N (beatS N L S) := by
  intro u k u0 u1 k0 k1
  have hw := wn_W hW
  have hT := wn_T hW
  have hb := wn_wb hW u u0 u1
  have key : ∀ n : Nat, (n : Int) ≤ N 0 0 → wkS N L (flkS N S) (nearS N S) n (12 * u + k) = nearS N S (12 * u + k) := by
    intro n
    induction n with
    | zero => intro _; rfl
    | succ n ih =>
      intro hn
      have e3 := wn_fi hW n (by omega) (by omega)
      have e4 := wn_se hW n (by omega) (by omega)
      show doS N L _ (n : Int) _ (12 * u + k) = _
      rw [doS_ne (by omega) (by omega) (by omega) (fun y => ?_) (fun y => ?_), ih (by omega)]
      · have := wn_wb hW _ y e3.2
        by_cases q : N 3 (n : Int) = u
        · rw [q]; omega
        · omega
      · have := wn_wb hW _ y e4.2
        by_cases q : N 4 (n : Int) = u
        · rw [q]; omega
        · omega
  unfold beatS
  rw [key _ (by omega)]
  exact near_TR hW h u k u0 u1 (by omega) (by omega) k1
theorem beat_L (hW : WN N) {L : Int × Int} (h : S 216 + 1 ≠ L.2) : beatS N L S = beatS N L0 S := by
  have hT := wn_T hW
  have hw := wn_W hW
  have hn : nearS N S 216 = S 216 + 1 := by
    unfold nearS
    rw [nwS_hi _ (by omega) (by decide), stS_ge _ (by omega)]
    exact upf_hit
  have dt : ∀ (Y : SK) (t f : Int), 0 ≤ t → t < N 0 0 → Y 216 = S 216 + 1 → doS N L Y t f = doS N L0 Y t f := by
    intro Y t f t0 t1 hY
    have e3 := wn_fi hW t t0 t1
    have so : ∀ (X : SK) (u m : Int), X 216 = S 216 + 1 → setO N L X u m = setO N L0 X u m := fun X u m hX => setO_L (Or.inr (by rw [hX]; exact h))
    have c6 : cameS Y t f 216 = S 216 + 1 := by rw [cameS_ne (by omega)]; exact hY
    have cu : ∀ i v, i ≠ 216 → upf (cameS Y t f) i v 216 = S 216 + 1 := fun i v hi => by rw [upf_ne (Ne.symm hi)]; exact c6
    unfold doS doT
    rw [so _ _ _ (cu (192 + t) _ (by omega)), so _ _ _ (cu (192 + t) _ (by omega)), so (setO N L0 _ _ _) _ _ (by rw [setO_ne (by decide) (by decide) (fun y => by have := slot_rng hW y e3.2; omega)]; exact cu (192 + t) _ (by omega)), so _ _ _ c6, so _ _ _ (cu 215 _ (by decide)), so _ _ _ (cu 213 _ (by decide)), so _ _ _ (cu 214 _ (by decide)), so _ _ _ c6]
  have key : ∀ n : Nat, (n : Int) ≤ N 0 0 → wkS N L (flkS N S) (nearS N S) n = wkS N L0 (flkS N S) (nearS N S) n := by
    intro n
    induction n with
    | zero => intro _; rfl
    | succ n ih =>
      intro g
      show doS N L (wkS N L (flkS N S) (nearS N S) n) (n : Int) _ = doS N L0 (wkS N L0 (flkS N S) (nearS N S) n) (n : Int) _
      rw [ih (by omega), dt _ _ _ (by omega) (by omega) (by rw [wkS_ne hW (by omega) n (by omega)]; exact hn)]
  exact key _ (by omega)
theorem beat_RLo (hW : WN N) (h0 : 0 ≤ w) (h1 : w < N 0 2) {K : Int} (hO : OKS N S K) (hT : TR N S) : RLo N w (beatS N (w, S 216 + 1) S) (beatS N L0 S) := by
  have hT0 := wn_T hW
  have hw := wn_W hW
  have hb := wn_wb hW w h0 h1
  have hn : nearS N S 216 = S 216 + 1 := by
    unfold nearS
    rw [nwS_hi _ (by omega) (by decide), stS_ge _ (by omega)]
    exact upf_hit
  have hz : nearS N S (slt N w) = 0 := by
    have := near_TR hW hT w (N 8 w - 1) h0 h1 (by omega) (by omega) (by omega)
    rwa [show 12 * w + (N 8 w - 1) = slt N w by unfold slt; omega] at this
  exact (wkS_RLo hW h0 h1 (near_ok hW hO) (flk_nn hW hO) hn hz _ (by omega)).1
theorem fly_TR (hW : WN N) {L : Int × Int} (h : TR N S) : ∀ k : Nat, TR N (flyS N L S k)
  | 0 => h
  | k + 1 => beat_TR hW (fly_TR hW h k)
theorem fly_L (hW : WN N) {L : Int × Int} : ∀ k : Nat, (∀ j : Int, S 216 + 1 ≤ j → j ≤ S 216 + (k : Int) → j ≠ L.2) → flyS N L S k = flyS N L0 S k
  | 0, _ => rfl
  | k + 1, h => by
    show beatS N L (flyS N L S k) = beatS N L0 (flyS N L0 S k)
    rw [fly_L hW k fun j j0 j1 => h j j0 (by omega)]
    exact beat_L hW (by rw [fly_216 hW k]; exact h _ (by omega) (by omega))
end
