/-! FOR USE: guards as what they say, numbers as integers -/
theorem ook_iff {sh : SHP} {ci : Nat} {a : Int} {P : Prop} : ook sh ci a P ↔ (shk sh a).1 = ci ∧ P := by
  unfold ook
  cases h : Nat.beq (shk sh a).1 ci with
  | true => simp [Nat.eq_of_beq_eq_true h]
  | false => simp [Nat.ne_of_beq_eq_false h]
theorem aok_iff {sh : SHP} {kd : Nat} {a i : Int} {P : Prop} : aok sh kd a i P ↔ (shk sh a).1 = kd ∧ 0 ≤ i ∧ i < ((shk sh a).2 : Int) ∧ P := by
  unfold aok
  cases h : Nat.beq (shk sh a).1 kd with
  | true => simp [Nat.eq_of_beq_eq_true h]
  | false => simp [Nat.ne_of_beq_eq_false h]
theorem bud_iff {b : Bool} {P : Prop} : bud b P ↔ b = true ∧ P := by
  cases b <;> simp [bud]
theorem bq_iff {x : Int} {P : Prop} : bq x P ↔ (x = 0 ∨ x = 1) ∧ P := by
  unfold bq
  split
  · simp
  · simp
  · rfl
theorem w32_def (x : Int) : w32 x = (x + 2147483648) % 4294967296 - 2147483648 := by
  unfold w32
  rw [Int32.toInt_ofInt]
  unfold Int.bmod
  simp only []
  split <;> omega
theorem w32_of {x : Int} (h1 : -2147483648 ≤ x) (h2 : x ≤ 2147483647) : w32 x = x := by rw [w32_def]; omega
theorem iadd_of {x y : Int} (h1 : -2147483648 ≤ x + y) (h2 : x + y ≤ 2147483647) : iadd x y = x + y := w32_of h1 h2
theorem isub_of {x y : Int} (h1 : -2147483648 ≤ x - y) (h2 : x - y ≤ 2147483647) : isub x y = x - y := w32_of h1 h2
theorem imul_of {x y : Int} (h1 : -2147483648 ≤ x * y) (h2 : x * y ≤ 2147483647) : imul x y = x * y := w32_of h1 h2
theorem iadd_def (x y : Int) : iadd x y = (x + y + 2147483648) % 4294967296 - 2147483648 := w32_def _
theorem isub_def (x y : Int) : isub x y = (x - y + 2147483648) % 4294967296 - 2147483648 := w32_def _
theorem toInt_of32 {x : Int} (h1 : -2147483648 ≤ x) (h2 : x ≤ 2147483647) : (Int32.ofInt x).toInt = x := w32_of h1 h2
theorem idiv_of {x y : Int} (h1 : 0 ≤ x) (h2 : x ≤ 2147483647) (h3 : 0 < y) (h4 : y ≤ 2147483647) : idiv x y = x / y := by
  unfold idiv
  rw [Int32.toInt_div, toInt_of32 (by omega) h2, toInt_of32 (by omega) h4, Int.tdiv_eq_ediv_of_nonneg h1]
  have h5 : x / y ≤ x := Int.ediv_le_self _ h1
  have h6 : 0 ≤ x / y := Int.ediv_nonneg h1 (by omega)
  have := w32_of (x := x / y) (by omega) (by omega)
  unfold w32 at this
  rwa [Int32.toInt_ofInt] at this
theorem stm_ne {M : MEM} {a i v b : Int} (h : b ≠ a) : stm M a i v b = M b := by
  funext j
  simp [stm, h]
theorem stm_same (M : MEM) (a i v j : Int) : stm M a i v a j = if j = i then v else M a j := by simp [stm]
theorem stm_hit (M : MEM) (a i v : Int) : stm M a i v a i = v := by simp [stm]
theorem shk_lt {sh : SHP} {a : Int} {k : Nat} (h : (shk sh a).1 = k) (hk : k < 999) : 0 ≤ a ∧ a < (sh.length : Int) := by
  unfold shk at h
  cases a with
  | ofNat n =>
    refine ⟨Int.natCast_nonneg n, ?_⟩
    show (n : Int) < _
    by_cases hn : n < sh.length
    · omega
    · rw [List.getD_eq_default _ _ (by omega)] at h
      simp at h
      omega
  | negSucc n => simp at h; omega
theorem shk_app {sh t : SHP} {a : Int} (h0 : 0 ≤ a) (h1 : a < (sh.length : Int)) : shk (sh ++ t) a = shk sh a := by
  unfold shk
  cases a with
  | ofNat n =>
    have hn : n < sh.length := by
      have : (n : Int) < (sh.length : Int) := h1
      omega
    simp [List.getD_eq_getElem?_getD, List.getElem?_append_left hn]
  | negSucc n => rfl
theorem shk_end {sh t : SHP} {k n : Nat} : shk (sh ++ (k, n) :: t) (sh.length : Int) = (k, n) := by
  show (sh ++ (k, n) :: t).getD sh.length (999, 0) = _
  simp [List.getD_eq_getElem?_getD]
/-- what a constructor writes, as a list -/
abbrev MOP := Nat × Int × Int × Int
def run1 (o : MOP) (M : MEM) : MEM := match o with
  | (0, a, v, _) => zr M a v
  | (_, a, i, v) => stm M a i v
def runm : List MOP → MEM → MEM
  | [], M => M
  | o :: l, M => runm l (run1 o M)
theorem runm_app (l k : List MOP) (M : MEM) : runm (l ++ k) M = runm k (runm l M) := by
  induction l generalizing M with
  | nil => rfl
  | cons o l ih => exact ih _
/-- the number that stands there, if the list tells it -/
def getm : List MOP → Int → Int → Option Int → Option Int
  | [], _, _, r => r
  | (0, a, v, _) :: l, q, j, r => getm l q j (if q = a then some v else r)
  | (_ + 1, a, i, v) :: l, q, j, r => getm l q j (if q = a ∧ j = i then some v else r)
theorem getm_of : ∀ (l : List MOP) (q j : Int) (r : Option Int) (M : MEM) (v : Int), (∀ w, r = some w → M q j = w) → getm l q j r = some v → runm l M q j = v
  | [], _, _, r, M, v, h, e => h v e
  | (0, a, w, z) :: l, q, j, r, M, v, h, e => by
    refine getm_of l q j _ (run1 (0, a, w, z) M) v ?_ e
    intro x hx
    show zr M a w q j = x
    unfold zr
    by_cases hq : q = a
    · simp [hq] at hx ⊢
      exact hx
    · simp [hq] at hx ⊢
      exact h x hx
  | (k + 1, a, i, w) :: l, q, j, r, M, v, h, e => by
    refine getm_of l q j _ (run1 (k + 1, a, i, w) M) v ?_ e
    intro x hx
    show stm M a i w q j = x
    unfold stm
    by_cases hq : q = a ∧ j = i
    · simp [hq] at hx ⊢
      exact hx
    · simp only [hq, if_false] at hx ⊢
      exact h x hx
