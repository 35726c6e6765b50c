/-! SUMS AND SKIES, as numbers alone -/
abbrev SK : Type := Int → Int
abbrev NTW : Type := Int → Int → Int
def sm (f : Int → Int) (a : Int) : Nat → Int
  | 0 => 0
  | n + 1 => sm f a n + f (a + (n : Int))
theorem sm_congr {f g : Int → Int} {a : Int} : ∀ (n : Nat), (∀ i, a ≤ i → i < a + (n : Int) → f i = g i) → sm f a n = sm g a n
  | 0, _ => rfl
  | n + 1, h => by
    show sm f a n + f (a + (n : Int)) = sm g a n + g (a + (n : Int))
    rw [sm_congr n fun i h0 h1 => h i h0 (by omega), h _ (by omega) (by omega)]
theorem sm_out {f : Int → Int} {a i v : Int} (n : Nat) (h : i < a ∨ a + (n : Int) ≤ i) : sm (upf f i v) a n = sm f a n :=
  sm_congr n fun j h0 h1 => upf_ne (by omega)
theorem sm_in {f : Int → Int} {a i v : Int} : ∀ (n : Nat), a ≤ i → i < a + (n : Int) → sm (upf f i v) a n = sm f a n - f i + v
  | 0, h0, h1 => by omega
  | n + 1, h0, h1 => by
    show sm (upf f i v) a n + upf f i v (a + (n : Int)) = sm f a n + f (a + (n : Int)) - f i + v
    by_cases h : i = a + (n : Int)
    · rw [sm_out n (by omega), ← h, upf_hit]
      omega
    · rw [sm_in n h0 (by omega), upf_ne (by omega)]
      omega
theorem sm_nn {f : Int → Int} {a : Int} : ∀ (n : Nat), (∀ i, a ≤ i → i < a + (n : Int) → 0 ≤ f i) → 0 ≤ sm f a n
  | 0, _ => Int.le_refl 0
  | n + 1, h => by
    have h1 := sm_nn n fun i h0 h1 => h i h0 (by omega)
    have h2 := h (a + (n : Int)) (by omega) (by omega)
    show 0 ≤ sm f a n + f (a + (n : Int))
    omega
theorem le_sm {f : Int → Int} {a i : Int} : ∀ (n : Nat), (∀ i, a ≤ i → i < a + (n : Int) → 0 ≤ f i) → a ≤ i → i < a + (n : Int) → f i ≤ sm f a n
  | 0, _, h0, h1 => by omega
  | n + 1, h, h0, h1 => by
    have h2 := sm_nn n fun i h0 h1 => h i h0 (by omega)
    have h3 := h (a + (n : Int)) (by omega) (by omega)
    show f i ≤ sm f a n + f (a + (n : Int))
    by_cases h4 : i = a + (n : Int)
    · rw [← h4] at h3 ⊢
      omega
    · have := le_sm n (fun i h0 h1 => h i h0 (by omega)) h0 (by omega)
      omega
theorem sm_add {f : Int → Int} {a : Int} (m : Nat) : ∀ n : Nat, sm f a (m + n) = sm f a m + sm f (a + (m : Int)) n
  | 0 => by show sm f a m = sm f a m + 0; omega
  | n + 1 => by
    show sm f a (m + n) + f (a + ((m + n : Nat) : Int)) = sm f a m + (sm f (a + (m : Int)) n + f (a + (m : Int) + (n : Int)))
    rw [sm_add m n, show a + ((m + n : Nat) : Int) = a + (m : Int) + (n : Int) by omega]
    omega
theorem sm_0 {f : Int → Int} {a : Int} : ∀ (n : Nat), (∀ i, a ≤ i → i < a + (n : Int) → f i = 0) → sm f a n = 0
  | 0, _ => rfl
  | n + 1, h => by
    show sm f a n + f (a + (n : Int)) = 0
    rw [sm_0 n fun i h0 h1 => h i h0 (by omega), h _ (by omega) (by omega)]
    rfl
theorem sm_mono {f : Int → Int} {a : Int} (m n : Nat) (h : m ≤ n) (hf : ∀ i, a ≤ i → i < a + (n : Int) → 0 ≤ f i) : sm f a m ≤ sm f a n := by
  obtain ⟨k, rfl⟩ := Nat.le.dest h
  rw [sm_add]
  have := sm_nn (f := f) (a := a + (m : Int)) k fun i h0 h1 => hf i (by omega) (by omega)
  omega
/-- a way's geese come one nearer -/
def shS (S : SK) (w : Int) : SK := fun i => if 12 * w ≤ i ∧ i < 12 * w + 11 then S (i + 1) else if i = 12 * w + 11 then 0 else S i
theorem shS_out {S : SK} {w i : Int} (h : i < 12 * w ∨ 12 * w + 12 ≤ i) : shS S w i = S i := by
  unfold shS
  rw [if_neg (by omega), if_neg (by omega)]
theorem shS_in {S : SK} {w i : Int} (h0 : 12 * w ≤ i) (h1 : i < 12 * w + 11) : shS S w i = S (i + 1) := if_pos ⟨h0, h1⟩
theorem shS_last {S : SK} {w : Int} : shS S w (12 * w + 11) = 0 := by
  unfold shS
  rw [if_neg (by omega), if_pos rfl]
theorem sm_sh12 {S : SK} {w : Int} : sm (shS S w) (12 * w) 12 = sm S (12 * w) 12 - S (12 * w) := by
  simp (disch := omega) only [sm, shS_in]
  have e := shS_last (S := S) (w := w)
  have e2 : (12 * w + ((11 : Nat) : Int)) = 12 * w + 11 := by omega
  rw [e2, e]
  have e0 : 12 * w + ((0 : Nat) : Int) = 12 * w := by omega
  have e1 : 12 * w + ((0 : Nat) : Int) + 1 = 12 * w + ((1 : Nat) : Int) := by omega
  have e3 : ∀ k : Nat, 12 * w + (k : Int) + 1 = 12 * w + ((k + 1 : Nat) : Int) := fun k => by omega
  rw [e3 0, e3 1, e3 2, e3 3, e3 4, e3 5, e3 6, e3 7, e3 8, e3 9, e3 10, ← e2, e0]
  simp only [Nat.zero_add, Nat.reduceAdd]
  omega
theorem sm_sh {S : SK} {w : Int} (h0 : 0 ≤ w) (h1 : w < 16) : sm (shS S w) 0 192 = sm S 0 192 - S (12 * w) := by
  obtain ⟨n, rfl⟩ := Int.eq_ofNat_of_zero_le h0
  have hn : n < 16 := by omega
  have e : 192 = 12 * n + (12 + (180 - 12 * n)) := by omega
  have c1 : (0 : Int) + ((12 * n : Nat) : Int) = 12 * (n : Int) := by omega
  rw [e, sm_add, sm_add, sm_add, sm_add, c1, sm_sh12, sm_congr (f := shS S n) (g := S) (12 * n) fun i _ h => shS_out (by omega), sm_congr (f := shS S n) (g := S) (180 - 12 * n) fun i h _ => shS_out (by omega)]
  omega
/-- all geese there are, and those that were -/
def ms (S : SK) : Int := sm S 0 202 + S 214 + S 215
def capg (n : Int) : Int := if 999999 < n then 999999 else n
theorem capg_le {n : Int} (h : 0 ≤ n) : 0 ≤ capg n ∧ capg n ≤ n ∧ capg n ≤ 999999 ∧ (0 < n → 0 < capg n) := by
  unfold capg
  split <;> omega
/-- so many set out on a way; one of them is lost at once, if it is the way and the beat of L -/
def setO (N : NTW) (L : Int × Int) (S : SK) (w n : Int) : SK :=
  if n = 0 then S
  else if w < 0 then upf S 214 (S 214 + n)
  else if w = L.1 ∧ S 216 = L.2 then upf (upf (upf S 214 (S 214 + (n - capg n) + 1)) 218 1) (12 * w + N 8 w - 1) (S (12 * w + N 8 w - 1) + (capg n - 1))
  else upf (upf S 214 (S 214 + (n - capg n))) (12 * w + N 8 w - 1) (S (12 * w + N 8 w - 1) + capg n)
theorem ms_in {S : SK} {i v : Int} (h0 : 0 ≤ i) (h1 : i < 202) : ms (upf S i v) = ms S - S i + v := by
  unfold ms
  rw [sm_in 202 h0 (by omega), upf_ne (by omega), upf_ne (by omega)]
  omega
theorem ms_lost {S : SK} {v : Int} : ms (upf S 214 v) = ms S - S 214 + v := by
  unfold ms
  rw [sm_out 202 (by omega), upf_hit, upf_ne (by decide)]
  omega
theorem ms_taken {S : SK} {v : Int} : ms (upf S 215 v) = ms S - S 215 + v := by
  unfold ms
  rw [sm_out 202 (by omega), upf_hit, upf_ne (by decide)]
  omega
theorem ms_out {S : SK} {i v : Int} (h : i < 0 ∨ 202 ≤ i) (h1 : i ≠ 214) (h2 : i ≠ 215) : ms (upf S i v) = ms S := by
  unfold ms
  rw [sm_out 202 (by omega), upf_ne (Ne.symm h1), upf_ne (Ne.symm h2)]
theorem setO_ms {N : NTW} {L : Int × Int} {S : SK} {w n : Int} (hw : w < 16) (hb : 0 ≤ w → 1 ≤ N 8 w ∧ N 8 w ≤ 12) : ms (setO N L S w n) = ms S + n := by
  unfold setO
  split
  · omega
  · split
    · rw [ms_lost]; omega
    · have := hb (by omega)
      split
      · rw [ms_in (by omega) (by omega), ms_out (by omega) (by decide) (by decide), ms_lost, upf_ne (by omega), upf_ne (by omega)]
        omega
      · rw [ms_in (by omega) (by omega), ms_lost, upf_ne (by omega)]
        omega
/-- no number is below 0 -/
def nn (S : SK) : Prop := ∀ i, 0 ≤ i → i < 219 → 0 ≤ S i
theorem nn_upf {S : SK} {i v : Int} (h : nn S) (hv : 0 ≤ v) : nn (upf S i v) := by
  intro j h0 h1
  unfold upf
  split
  · exact hv
  · exact h j h0 h1
theorem setO_nn {N : NTW} {L : Int × Int} {S : SK} {w n : Int} (h : nn S) (hn : 0 ≤ n) (hw : w < 16) (hb : 0 ≤ w → 1 ≤ N 8 w ∧ N 8 w ≤ 12) : nn (setO N L S w n) := by
  have hc := capg_le hn
  have h4 := h 214 (by decide) (by decide)
  unfold setO
  split
  · exact h
  · split
    · exact nn_upf h (by omega)
    · have h5 := hb (by omega)
      have h6 := h (12 * w + N 8 w - 1) (by omega) (by omega)
      split
      · exact nn_upf (nn_upf (nn_upf h (by omega)) (by decide)) (by omega)
      · exact nn_upf (nn_upf h (by omega)) (by omega)
theorem ms_le {S : SK} (h : nn S) {i : Int} (h0 : 0 ≤ i) (h1 : i < 202 ∨ i = 214 ∨ i = 215) : S i ≤ ms S := by
  have h2 := sm_nn (f := S) (a := 0) 202 fun i h0 h1 => h i h0 (by omega)
  have h3 := h 214 (by decide) (by decide)
  have h4 := h 215 (by decide) (by decide)
  unfold ms
  rcases h1 with h1 | rfl | rfl
  · have := le_sm (f := S) (a := 0) (i := i) 202 (fun i h0 h1 => h i h0 (by omega)) h0 (by omega)
    omega
  · omega
  · omega
def cameS (S : SK) (t f : Int) : SK := if 0 < f then upf S (202 + t) (S (202 + t) + 1) else S
def doT (N : NTW) (L : Int × Int) (S : SK) (t f : Int) : SK :=
  if N 1 t = 5 then (if S (192 + t) + f < N 2 t then upf S (192 + t) (S (192 + t) + f) else setO N L (upf S (192 + t) (S (192 + t) + f - N 2 t)) (N 3 t) (N 2 t))
  else if f = 0 then S
  else if N 1 t = 2 then setO N L (setO N L (upf S (192 + t) ((f + S (192 + t)) % 2)) (N 3 t) ((f + S (192 + t)) / 2)) (N 4 t) ((f + S (192 + t)) / 2)
  else if N 1 t = 3 then setO N L S (if f % 2 = 1 then N 3 t else N 4 t) f
  else if N 1 t = 4 then upf S (192 + t) (S (192 + t) + f)
  else if N 1 t = 6 then setO N L (upf S 215 (S 215 + (if f < N 2 t then f else N 2 t))) (N 3 t) (f - (if f < N 2 t then f else N 2 t))
  else if N 1 t = 7 then setO N L (upf S 213 (S 213 + N 2 t)) (N 3 t) (f + N 2 t)
  else if N 1 t = 8 then setO N L (upf S 214 (S 214 + f % N 2 t)) (N 3 t) (f - f % N 2 t)
  else setO N L S (N 3 t) f
/-- what one tower does with its flock f -/
def doS (N : NTW) (L : Int × Int) (S : SK) (t f : Int) : SK := doT N L (cameS S t f) t f
def wkS (N : NTW) (L : Int × Int) (F : Int → Int) (S : SK) : Nat → SK
  | 0 => S
  | n + 1 => doS N L (wkS N L F S n) (n : Int) (F (n : Int))
/-- the starts' geese set out: those of the first n towers -/
def stS (N : NTW) (S : SK) : Nat → SK
  | 0 => S
  | n + 1 => if N 1 (n : Int) = 0 then upf (stS N S n) (192 + (n : Int)) 0 else stS N S n
def stF (N : NTW) (S : SK) : Int → Int := fun t => if N 1 t = 0 then S (192 + t) else 0
/-- all on the first n ways come one nearer -/
def nwS (N : NTW) (S : SK) : Nat → SK
  | 0 => stS N S (N 0 0).toNat
  | n + 1 => shS (nwS N S n) (n : Int)
def nwF (N : NTW) (S : SK) : Nat → (Int → Int)
  | 0 => stF N S
  | n + 1 => upf (nwF N S n) (N 7 (n : Int)) (nwF N S n (N 7 (n : Int)) + nwS N S n (12 * (n : Int)))
def oneM (S : SK) : SK := upf S 216 (S 216 + 1)
def flkS (N : NTW) (S : SK) : Int → Int := nwF N (oneM S) (N 0 2).toNat
def nearS (N : NTW) (S : SK) : SK := nwS N (oneM S) (N 0 2).toNat
/-- a beat -/
def beatS (N : NTW) (L : Int × Int) (S : SK) : SK := wkS N L (flkS N S) (nearS N S) (N 0 0).toNat
