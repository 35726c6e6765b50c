/-! FOR USE: guards as what they say, numbers as integers -/
theorem ook_iff {sh : SHP} {ci : Nat} {a : Int} {P : Prop} : ook sh ci a P ↔ (shk sh a).1 = ci ∧ P := by
  unfold ook
  cases h : Nat.beq (shk sh a).1 ci with
  | true => simp [Nat.eq_of_beq_eq_true h]
  | false => simp [Nat.ne_of_beq_eq_false h]
theorem aok_iff {sh : SHP} {kd : Nat} {a i : Int} {P : Prop} : aok sh kd a i P ↔ (shk sh a).1 = kd ∧ 0 ≤ i ∧ i < ((shk sh a).2 : Int) ∧ P := by
  unfold aok
  cases h : Nat.beq (shk sh a).1 kd with
  | true => simp [Nat.eq_of_beq_eq_true h]
  | false => simp [Nat.ne_of_beq_eq_false h]
theorem bud_iff {b : Bool} {P : Prop} : bud b P ↔ b = true ∧ P := by
  cases b <;> simp [bud]
theorem bq_iff {x : Int} {P : Prop} : bq x P ↔ (x = 0 ∨ x = 1) ∧ P := by
  unfold bq
  split
  · simp
  · simp
  · rfl
theorem w32_def (x : Int) : w32 x = (x + 2147483648) % 4294967296 - 2147483648 := by
  unfold w32
  rw [Int32.toInt_ofInt]
  unfold Int.bmod
  norm_num
  split <;> omega
theorem w32_of {x : Int} (h1 : -2147483648 ≤ x) (h2 : x ≤ 2147483647) : w32 x = x := by rw [w32_def]; omega
theorem iadd_of {x y : Int} (h1 : -2147483648 ≤ x + y) (h2 : x + y ≤ 2147483647) : iadd x y = x + y := w32_of h1 h2
theorem isub_of {x y : Int} (h1 : -2147483648 ≤ x - y) (h2 : x - y ≤ 2147483647) : isub x y = x - y := w32_of h1 h2
theorem imul_of {x y : Int} (h1 : -2147483648 ≤ x * y) (h2 : x * y ≤ 2147483647) : imul x y = x * y := w32_of h1 h2
theorem iadd_def (x y : Int) : iadd x y = (x + y + 2147483648) % 4294967296 - 2147483648 := w32_def _
theorem isub_def (x y : Int) : isub x y = (x - y + 2147483648) % 4294967296 - 2147483648 := w32_def _
theorem toInt_of32 {x : Int} (h1 : -2147483648 ≤ x) (h2 : x ≤ 2147483647) : (Int32.ofInt x).toInt = x := w32_of h1 h2
theorem idiv_of {x y : Int} (h1 : 0 ≤ x) (h2 : x ≤ 2147483647) (h3 : 0 < y) (h4 : y ≤ 2147483647) : idiv x y = x / y := by
  unfold idiv
  rw [Int32.toInt_div, toInt_of32 (by omega) h2, toInt_of32 (by omega) h4, Int.tdiv_eq_ediv_of_nonneg h1]
  have h5 : x / y ≤ x := Int.ediv_le_self _ h1
  have h6 : 0 ≤ x / y := Int.ediv_nonneg h1 (by omega)
  have := w32_of (x := x / y) (by omega) (by omega)
  unfold w32 at this
  rwa [Int32.toInt_ofInt] at this
theorem stm_def (M : MEM) (a i v b j : Int) : stm M a i v b j = if b = a ∧ j = i then v else M b j := rfl
theorem stm_ne {M : MEM} {a i v b : Int} (h : b ≠ a) : stm M a i v b = M b := by
  funext j
  simp [stm, h]
theorem stm_same (M : MEM) (a i v j : Int) : stm M a i v a j = if j = i then v else M a j := by simp [stm]
theorem stm_hit (M : MEM) (a i v : Int) : stm M a i v a i = v := by simp [stm]
