/-! FOR USE: guards as what they say, numbers as integers -/
theorem ook_iff {sh : SHP} {ci : Nat} {a : Int} {P : Prop} : ook sh ci a P ↔ (shk sh a).1 = ci ∧ P := by
  unfold ook
  cases h : Nat.beq (shk sh a).1 ci with
  | true => simp [Nat.eq_of_beq_eq_true h]
  | false => simp [Nat.ne_of_beq_eq_false h]
theorem aok_iff {sh : SHP} {kd : Nat} {a i : Int} {P : Prop} : aok sh kd a i P ↔ (shk sh a).1 = kd ∧ 0 ≤ i ∧ i < ((shk sh a).2 : Int) ∧ P := by
  unfold aok
  cases h : Nat.beq (shk sh a).1 kd with
  | true => simp [Nat.eq_of_beq_eq_true h]
  | false => simp [Nat.ne_of_beq_eq_false h]
theorem bud_iff {b : Bool} {P : Prop} : bud b P ↔ b = true ∧ P := by
  cases b <;> simp [bud]
theorem bq_iff {x : Int} {P : Prop} : bq x P ↔ (x = 0 ∨ x = 1) ∧ P := by
  unfold bq
  split
  · simp
  · simp
  · rfl
theorem w32_def (x : Int) : w32 x = (x + 2147483648) % 4294967296 - 2147483648 := by
  unfold w32
  rw [Int32.toInt_ofInt]
  simp only [Int.bmod, show ((Int32.size : Nat) : Int) = 4294967296 from rfl]
  split <;> omega
theorem w32_of {x : Int} (h1 : -2147483648 ≤ x) (h2 : x ≤ 2147483647) : w32 x = x := by rw [w32_def]; omega
theorem iadd_of {x y : Int} (h1 : -2147483648 ≤ x + y) (h2 : x + y ≤ 2147483647) : iadd x y = x + y := w32_of h1 h2
theorem isub_of {x y : Int} (h1 : -2147483648 ≤ x - y) (h2 : x - y ≤ 2147483647) : isub x y = x - y := w32_of h1 h2
theorem imul_of {x y : Int} (h1 : -2147483648 ≤ x * y) (h2 : x * y ≤ 2147483647) : imul x y = x * y := w32_of h1 h2
theorem iadd_def (x y : Int) : iadd x y = (x + y + 2147483648) % 4294967296 - 2147483648 := w32_def _
theorem isub_def (x y : Int) : isub x y = (x - y + 2147483648) % 4294967296 - 2147483648 := w32_def _
theorem toInt_of32 {x : Int} (h1 : -2147483648 ≤ x) (h2 : x ≤ 2147483647) : (Int32.ofInt x).toInt = x := w32_of h1 h2
theorem idiv_of {x y : Int} (h1 : 0 ≤ x) (h2 : x ≤ 2147483647) (h3 : 0 < y) (h4 : y ≤ 2147483647) : idiv x y = x / y := by
  unfold idiv
  rw [Int32.toInt_div, toInt_of32 (by omega) h2, toInt_of32 (by omega) h4, Int.tdiv_eq_ediv_of_nonneg h1]
  have h5 : x / y ≤ x := Int.ediv_le_self _ h1
  have h6 : 0 ≤ x / y := Int.ediv_nonneg h1 (by omega)
  have := w32_of (x := x / y) (by omega) (by omega)
  unfold w32 at this
  rwa [Int32.toInt_ofInt] at this
theorem stm_ne {M : MEM} {a i v b : Int} (h : b ≠ a) : stm M a i v b = M b := by
  funext j
  simp [stm, h]
theorem stm_same (M : MEM) (a i v j : Int) : stm M a i v a j = if j = i then v else M a j := by simp [stm]
theorem stm_hit (M : MEM) (a i v : Int) : stm M a i v a i = v := by simp [stm]
theorem shk_lt {sh : SHP} {a : Int} {k : Nat} (h : (shk sh a).1 = k) (hk : k < 999) : 0 ≤ a ∧ a < (sh.length : Int) := by
  unfold shk at h
  cases a with
  | ofNat n =>
    refine ⟨Int.natCast_nonneg n, ?_⟩
    show (n : Int) < _
    by_cases hn : n < sh.length
    · omega
    · simp [List.getD_eq_getElem?_getD, List.getElem?_eq_none (Nat.le_of_not_lt hn)] at h
      omega
  | negSucc n => simp at h; omega
theorem shk_app {sh t : SHP} {a : Int} (h0 : 0 ≤ a) (h1 : a < (sh.length : Int)) : shk (sh ++ t) a = shk sh a := by
  unfold shk
  cases a with
  | ofNat n =>
    have hn : n < sh.length := by
      have : (n : Int) < (sh.length : Int) := h1
      omega
    simp [List.getD_eq_getElem?_getD, List.getElem?_append_left hn]
  | negSucc n => rfl
theorem shk_end {sh t : SHP} {k n : Nat} : shk (sh ++ (k, n) :: t) (sh.length : Int) = (k, n) := by
  show (sh ++ (k, n) :: t).getD sh.length (999, 0) = _
  simp [List.getD_eq_getElem?_getD]
/-- what a constructor writes, as a list: a row begun, a place, rows of rows -/
abbrev MOP := Nat × Int × Int × Int
def run1 (o : MOP) (M : MEM) : MEM := match o with
  | (0, a, v, _) => zr M a v
  | (1, a, i, v) => stm M a i v
  | (2, a, n, _) => fun q i => if q = a then (if 0 ≤ i ∧ i < n then a + 1 + i else -1) else if a < q then -1 else M q i
  | (_, a, _, _) => fun q i => if a ≤ q then 0 else M q i
def runm : List MOP → MEM → MEM
  | [], M => M
  | o :: l, M => runm l (run1 o M)
theorem runm_app (l k : List MOP) (M : MEM) : runm (l ++ k) M = runm k (runm l M) := by
  induction l generalizing M with
  | nil => rfl
  | cons o l ih => exact ih _
/-- the number that stands there, if the list tells it -/
def get1 (o : MOP) (q j : Int) (r : Option Int) : Option Int := match o with
  | (0, a, v, _) => if q = a then some v else r
  | (1, a, i, v) => if q = a ∧ j = i then some v else r
  | (2, a, n, _) => if q = a then some (if 0 ≤ j ∧ j < n then a + 1 + j else -1) else if a < q then some (-1) else r
  | (_, a, _, _) => if a ≤ q then some 0 else r
def getm : List MOP → Int → Int → Option Int → Option Int
  | [], _, _, r => r
  | o :: l, q, j, r => getm l q j (get1 o q j r)
theorem get1_of : ∀ (o : MOP) (q j : Int) (r : Option Int) (M : MEM), (∀ w, r = some w → M q j = w) → ∀ w, get1 o q j r = some w → run1 o M q j = w
  | (0, a, v, _), q, j, r, M, h, w, hw => by
    change (if q = a then some v else r) = some w at hw
    change (if q = a then v else M q j) = w
    by_cases h1 : q = a
    · rw [if_pos h1] at hw ⊢
      exact Option.some.inj hw
    · rw [if_neg h1] at hw ⊢
      exact h w hw
  | (1, a, i, v), q, j, r, M, h, w, hw => by
    change (if q = a ∧ j = i then some v else r) = some w at hw
    change (if q = a ∧ j = i then v else M q j) = w
    by_cases h1 : q = a ∧ j = i
    · rw [if_pos h1] at hw ⊢
      exact Option.some.inj hw
    · rw [if_neg h1] at hw ⊢
      exact h w hw
  | (2, a, n, _), q, j, r, M, h, w, hw => by
    change (if q = a then some (if 0 ≤ j ∧ j < n then a + 1 + j else -1) else if a < q then some (-1) else r) = some w at hw
    change (if q = a then (if 0 ≤ j ∧ j < n then a + 1 + j else -1) else if a < q then -1 else M q j) = w
    by_cases h1 : q = a
    · rw [if_pos h1] at hw ⊢
      exact Option.some.inj hw
    · rw [if_neg h1] at hw ⊢
      by_cases h2 : a < q
      · rw [if_pos h2] at hw ⊢
        exact Option.some.inj hw
      · rw [if_neg h2] at hw ⊢
        exact h w hw
  | (_ + 3, a, _, _), q, j, r, M, h, w, hw => by
    change (if a ≤ q then some 0 else r) = some w at hw
    change (if a ≤ q then 0 else M q j) = w
    by_cases h1 : a ≤ q
    · rw [if_pos h1] at hw ⊢
      exact Option.some.inj hw
    · rw [if_neg h1] at hw ⊢
      exact h w hw
theorem getm_of : ∀ (l : List MOP) (q j : Int) (r : Option Int) (M : MEM) (v : Int), (∀ w, r = some w → M q j = w) → getm l q j r = some v → runm l M q j = v
  | [], _, _, _, _, v, h, e => h v e
  | o :: l, q, j, _, M, v, h, e => getm_of l q j _ (run1 o M) v (get1_of o q j _ M h) e
/-- the row that stands there is one number all along -/
def row1 (o : MOP) (q : Int) (r : Option Int) : Option Int := match o with
  | (0, a, v, _) => if q = a then some v else r
  | (1, a, _, _) => if q = a then none else r
  | (2, a, _, _) => if q = a then none else if a < q then some (-1) else r
  | (_, a, _, _) => if a ≤ q then some 0 else r
def rowm : List MOP → Int → Option Int → Option Int
  | [], _, r => r
  | o :: l, q, r => rowm l q (row1 o q r)
theorem row1_of : ∀ (o : MOP) (q : Int) (r : Option Int) (M : MEM), (∀ w, r = some w → ∀ j, M q j = w) → ∀ w, row1 o q r = some w → ∀ j, run1 o M q j = w
  | (0, a, v, _), q, r, M, h, w, hw, j => by
    change (if q = a then some v else r) = some w at hw
    change (if q = a then v else M q j) = w
    by_cases h1 : q = a
    · rw [if_pos h1] at hw ⊢
      exact Option.some.inj hw
    · rw [if_neg h1] at hw ⊢
      exact h w hw j
  | (1, a, i, v), q, r, M, h, w, hw, j => by
    change (if q = a then none else r) = some w at hw
    change (if q = a ∧ j = i then v else M q j) = w
    by_cases h1 : q = a
    · rw [if_pos h1] at hw
      cases hw
    · rw [if_neg h1] at hw
      rw [if_neg fun z => h1 z.1]
      exact h w hw j
  | (2, a, n, _), q, r, M, h, w, hw, j => by
    change (if q = a then none else if a < q then some (-1) else r) = some w at hw
    change (if q = a then (if 0 ≤ j ∧ j < n then a + 1 + j else -1) else if a < q then -1 else M q j) = w
    by_cases h1 : q = a
    · rw [if_pos h1] at hw
      cases hw
    · rw [if_neg h1] at hw ⊢
      by_cases h2 : a < q
      · rw [if_pos h2] at hw ⊢
        exact Option.some.inj hw
      · rw [if_neg h2] at hw ⊢
        exact h w hw j
  | (_ + 3, a, _, _), q, r, M, h, w, hw, j => by
    change (if a ≤ q then some 0 else r) = some w at hw
    change (if a ≤ q then 0 else M q j) = w
    by_cases h1 : a ≤ q
    · rw [if_pos h1] at hw ⊢
      exact Option.some.inj hw
    · rw [if_neg h1] at hw ⊢
      exact h w hw j
theorem rowm_of : ∀ (l : List MOP) (q : Int) (r : Option Int) (M : MEM) (v : Int), (∀ w, r = some w → ∀ j, M q j = w) → rowm l q r = some v → ∀ j, runm l M q j = v
  | [], _, _, _, v, h, e => h v e
  | o :: l, q, _, M, v, h, e => rowm_of l q _ (run1 o M) v (row1_of o q _ M h) e
