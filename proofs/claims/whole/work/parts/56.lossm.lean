/-! ONE GOOSE LOST: both ways of reckoning it agree -/
section
variable {N : NTW} {S : SK} {w : Int}
theorem doT_218 (hW : WN N) {t f : Int} (t0 : 0 ≤ t) (t1 : t < N 0 0) : doT N L0 S t f 218 = S 218 := by
  have hT := wn_T hW
  have e3 := wn_fi hW t t0 t1
  have e4 := wn_se hW t t0 t1
  have z3 : ∀ (Y : SK) (m : Int), setO N L0 Y (N 3 t) m 218 = Y 218 := fun Y m => setO_218 hW e3.2
  have z4 : ∀ (Y : SK) (m : Int), setO N L0 Y (N 4 t) m 218 = Y 218 := fun Y m => setO_218 hW e4.2
  unfold doT
  repeat' split
  all_goals first
    | rfl
    | (simp (disch := omega) only [z3, z4, upf_ne]; done)
theorem wkS_218 (hW : WN N) {F : Int → Int} : ∀ n : Nat, (n : Int) ≤ N 0 0 → wkS N L0 F S n 218 = S 218
  | 0, _ => rfl
  | n + 1, hn => by
    have hT := wn_T hW
    show doT N L0 (cameS (wkS N L0 F S n) (n : Int) (F (n : Int))) (n : Int) (F (n : Int)) 218 = _
    rw [doT_218 hW (by omega) (by omega), cameS_ne (by omega), wkS_218 hW n (by omega)]
theorem beat_218 (hW : WN N) : beatS N L0 S 218 = S 218 := by
  have hT := wn_T hW
  unfold beatS
  rw [wkS_218 hW _ (by omega), near_hi hW (by omega) (by decide)]
theorem fly_218 (hW : WN N) : ∀ k : Nat, flyS N L0 S k 218 = S 218
  | 0 => rfl
  | k + 1 => by
    show beatS N L0 (flyS N L0 S k) 218 = _
    rw [beat_218 hW, fly_218 hW k]
theorem loss_fly (hW : WN N) (w0 : 0 ≤ w) (w1 : w < N 0 2) {K : Int} (hO : OKS N S K) (hT : TR N S) (h6 : S 216 = 0) (h8 : S 218 = 0) {b k : Nat} (b1 : 1 ≤ b) (hb : b ≤ k) {t : Int} (t0 : 0 ≤ t) (t1 : t < 10) : (flyS N (w, (b : Int)) S k (192 + t) = if 0 < flyS N L0 S b (slt N w) then flyS N L0 (lzS N (flyS N L0 S b) w) (k - b) (192 + t) else flyS N L0 S k (192 + t)) ∧ flyS N (w, (b : Int)) S k 218 = if 0 < flyS N L0 S b (slt N w) then 1 else 0 := by
  obtain ⟨p, rfl⟩ : ∃ p, b = p + 1 := ⟨b - 1, by omega⟩
  have e1 : flyS N (w, ((p + 1 : Nat) : Int)) S p = flyS N L0 S p := fly_L hW p fun j j0 j1 => by
    show j ≠ ((p + 1 : Nat) : Int)
    omega
  have op := fly_ok (L := L0) hW hO p
  have e6 := fly_216 (S := S) (L := L0) hW p
  rw [h6] at e6
  have r := beat_RLo hW w0 w1 op (fly_TR hW hT p)
  rw [e6, show (0 : Int) + (p : Int) + 1 = ((p + 1 : Nat) : Int) by omega] at r
  have e2 : flyS N (w, ((p + 1 : Nat) : Int)) S (p + 1) = beatS N (w, ((p + 1 : Nat) : Int)) (flyS N L0 S p) := by
    show beatS N _ (flyS N _ S p) = _
    rw [e1]
  have e3 : flyS N L0 S (p + 1) = beatS N L0 (flyS N L0 S p) := rfl
  rw [← e2, ← e3] at r
  have ek : k = (p + 1) + (k - (p + 1)) := by omega
  have e4 : flyS N (w, ((p + 1 : Nat) : Int)) S k = flyS N L0 (flyS N (w, ((p + 1 : Nat) : Int)) S (p + 1)) (k - (p + 1)) := by
    rw [show flyS N (w, ((p + 1 : Nat) : Int)) S k = flyS N (w, ((p + 1 : Nat) : Int)) S ((p + 1) + (k - (p + 1))) by rw [← ek], fly_add]
    refine fly_L hW _ fun j j0 j1 => ?_
    rw [fly_216 hW (p + 1), h6] at j0
    show j ≠ ((p + 1 : Nat) : Int)
    omega
  have e5 : flyS N L0 S k = flyS N L0 (flyS N L0 S (p + 1)) (k - (p + 1)) := by rw [← fly_add, ← ek]
  rcases r with ⟨r1, r2⟩ | ⟨r1, r2, r3⟩
  · rw [if_neg (by omega), if_neg (by omega), e4, r2, ← e5]
    exact ⟨rfl, by rw [fly_218 hW]; exact h8⟩
  · rw [if_pos r1, if_pos r1, e4]
    exact ⟨fly_cE hW r2 _ _ (by omega) (by omega), by rw [fly_218 hW]; exact r3⟩
theorem lz_cE2 {Z : SK} (h : cE S Z) (h0 : 0 ≤ slt N w) (h1 : slt N w < 202) : cE (lzS N S w) (lzS N Z w) := by
  unfold lzS
  rw [h _ h0 h1]
  exact cE_upf h
/-- the reference's loss is the class's -/
theorem lossV_eq2 (hW : WN N) (w0 : 0 ≤ w) (w1 : w < N 0 2) {r : Int → Int} (hr : RW N r) (h8 : S 218 = 0) {b k : Nat} (b1 : 1 ≤ b) (hb : b ≤ k) {t : Int} (t0 : 0 ≤ t) (t1 : t < 10) : flyS N L0 (opS N r (zS 0)) k (192 + t) - flyS N (w, (b : Int)) (opS N r S) k (192 + t) = lossV N (opS N r (zS 0)) w t b k ∧ flyS N (w, (b : Int)) (opS N r S) k 218 = if 0 < flyS N L0 (opS N r (zS 0)) b (slt N w) then 1 else 0 := by
  have sl := slt_rng hW w0 w1
  have hs := wn_S hW
  have c := opS_cE (N := N) (r := r) (S := S) (Z := zS 0)
  have o8 : opS N r S 218 = 0 := by
    unfold opS
    rw [oS_ne hW (by omega) _ (by omega)]
    unfold clS
    rw [if_neg (by decide)]
    exact h8
  obtain ⟨a1, a2⟩ := loss_fly hW w0 w1 (opS_ok hW hr (by omega)) (opS_TR hW) (opS_ne hW (by omega)) o8 b1 hb t0 t1
  have c1 := fly_cE hW c b (slt N w) sl.1 (by omega)
  rw [a1, a2, c1]
  refine ⟨?_, rfl⟩
  unfold lossV
  by_cases hp : 0 < flyS N L0 (opS N r (zS 0)) b (slt N w)
  · rw [if_pos hp, if_pos hp, fly_cE hW (lz_cE2 (fly_cE hW c b) sl.1 (by omega)) (k - b) (192 + t) (by omega) (by omega)]
  · rw [if_neg hp, if_neg hp, fly_cE hW c k (192 + t) (by omega) (by omega)]
    omega
end
