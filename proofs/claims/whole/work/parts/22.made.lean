/-! BOTH CONSTRUCTORS, at their places -/
def noq1 (o : MOP) (q : Int) : Bool := match o with
  | (0, a, _, _) => decide (q ≠ a)
  | (1, a, _, _) => decide (q ≠ a)
  | (_, a, _, _) => decide (q < a)
def noq : List MOP → Int → Bool
  | [], _ => true
  | o :: l, q => noq1 o q && noq l q
theorem noq1_of : ∀ (o : MOP) (q j : Int) (M : MEM), noq1 o q = true → run1 o M q j = M q j
  | (0, a, v, _), q, j, M, h => by
    have h1 : q ≠ a := of_decide_eq_true h
    change (if q = a then v else M q j) = _
    rw [if_neg h1]
  | (1, a, i, v), q, j, M, h => by
    have h1 : q ≠ a := of_decide_eq_true h
    change (if q = a ∧ j = i then v else M q j) = _
    rw [if_neg fun z => h1 z.1]
  | (2, a, n, _), q, j, M, h => by
    have h1 : q < a := of_decide_eq_true h
    change (if q = a then _ else if a < q then -1 else M q j) = _
    rw [if_neg (by omega), if_neg (by omega)]
  | (_ + 3, a, _, _), q, j, M, h => by
    have h1 : q < a := of_decide_eq_true h
    change (if a ≤ q then 0 else M q j) = _
    rw [if_neg (by omega)]
theorem noq_of : ∀ (l : List MOP) (q j : Int) (M : MEM), noq l q = true → runm l M q j = M q j
  | [], _, _, _, _ => rfl
  | o :: l, q, j, M, h => by
    unfold noq at h
    rw [Bool.and_eq_true] at h
    show runm l (run1 o M) q j = _
    rw [noq_of l q j _ h.2, noq1_of o q j M h.1]
theorem lenA (sh : SHP) (t : SHP) : ((sh ++ t).length : Int) = (sh.length : Int) + (t.length : Int) := by
  rw [List.length_append]
  omega
theorem lS4 : (mkS4.length : Int) = 12 := rfl
theorem lS9 : (mkS9.length : Int) = 5 := rfl
theorem lS5 : (mkS5.length : Int) = 2 := rfl
theorem lS0 : (mkS0.length : Int) = 206 := by decide +kernel
theorem lSk : (skyS.length : Int) = 4 := rfl
theorem lS10 : (mkS10.length : Int) = 12 := rfl
theorem lS6 : (mkS6.length : Int) = 63 := rfl
theorem lS3 : (mkS3.length : Int) = 1 := rfl
theorem lS2 : (mkS2.length : Int) = 1 := rfl
theorem lS1 : (mkS1.length : Int) = 12 := rfl
theorem lS7 : (mkS7.length : Int) = 8 := rfl
theorem l1 (k n : Nat) : (([(k, n)] : SHP).length : Int) = 1 := rfl
theorem zr_neq {M : MEM} {a v q j : Int} (h : q ≠ a) : zr M a v q j = M q j := if_neg h
theorem stm_neq {M : MEM} {a i v q j : Int} (h : ¬(q = a ∧ j = i)) : stm M a i v q j = M q j := if_neg h
def g11S : SHP := [(11, 0)] ++ ([(4, 0)] ++ (mkS4 ++ ([(4, 0)] ++ (mkS4 ++ ([(9, 0)] ++ (mkS9 ++ ([(5, 0)] ++ (mkS5 ++ ([(0, 0)] ++ (mkS0 ++ ([(104, 3)] ++ ([(8, 0)] ++ (skyS ++ ([(8, 0)] ++ (skyS ++ ([(8, 0)] ++ (skyS ++ ([(103, 3)] ++ ([(100, 3)] ++ ([(10, 0)] ++ (mkS10 ++ ([(6, 0)] ++ (mkS6 ++ ([(3, 0)] ++ (mkS3 ++ ([(2, 0)] ++ (mkS2 ++ ([(1, 0)] ++ (mkS1 ++ ([(7, 0)] ++ mkS7))))))))))))))))))))))))))))))
def g11R : List MOP := [(0, 1, -1, 0)] ++ (mkR4 1 2 ++ ([(1, 0, 12, 1), (0, 14, -1, 0)] ++ (mkR4 14 15 ++ ([(1, 0, 13, 14), (0, 27, -1, 0)] ++ (mkR9 27 28 ++ ([(1, 0, 0, 27), (0, 33, -1, 0)] ++ (mkR5 33 34 27 14 ++ ([(1, 0, 1, 33), (0, 36, -1, 0)] ++ (mkR0 36 37 ++ ([(1, 0, 2, 36), (0, 243, -1, 0), (1, 0, 3, 243), (0, 244, -1, 0)] ++ (skyR 244 245 ++ ([(1, 243, 0, 244), (0, 249, -1, 0)] ++ (skyR 249 250 ++ ([(1, 243, 1, 249), (0, 254, -1, 0)] ++ (skyR 254 255 ++ ([(1, 243, 2, 254), (0, 259, -1, 0), (1, 0, 4, 259), (0, 260, -1, 0), (1, 0, 5, 260), (0, 261, -1, 0)] ++ (mkR10 261 262 ++ ([(1, 0, 6, 261), (0, 274, -1, 0)] ++ (mkR6 274 275 ++ ([(1, 0, 8, 274), (0, 338, -1, 0)] ++ (mkR3 338 339 ++ ([(1, 0, 11, 338), (0, 340, -1, 0)] ++ (mkR2 340 341 261 274 338 ++ ([(1, 0, 7, 340), (0, 342, -1, 0)] ++ (mkR1 342 343 338 ++ ([(1, 0, 9, 342), (0, 355, -1, 0)] ++ (mkR7 355 356 261 ++ [(1, 0, 10, 355)])))))))))))))))))))))))))))
def g11M : List MOP := [(0, 1, 0, 0)] ++ (rows0 2 12 ++ ([(0, 14, 0, 0)] ++ (rows0 15 12 ++ ([(0, 27, 0, 0)] ++ (mkM9 28 ++ ([(0, 33, 0, 0)] ++ (mkM5 33 34 ++ ([(0, 36, 0, 0)] ++ (mkM0 37 ++ ([(0, 243, 0, 0), (0, 244, 0, 0)] ++ (rows0 245 4 ++ ([(0, 249, 0, 0)] ++ (rows0 250 4 ++ ([(0, 254, 0, 0)] ++ (rows0 255 4 ++ ([(0, 259, 0, 0), (0, 260, 0, 0), (0, 261, 0, 0)] ++ (mkM10 262 ++ ([(0, 274, 0, 0)] ++ (mkM6 274 275 ++ ([(0, 338, 0, 0)] ++ (mkM3 338 339 ++ ([(0, 340, 0, 0)] ++ (mkM2 340 341 ++ ([(0, 342, 0, 0)] ++ (mkM1 342 343 ++ ([(0, 355, 0, 0)] ++ mkM7 355 356))))))))))))))))))))))))))
theorem w_X11_init {d : Nat} {R M : MEM} {Q : RES} (hq : Q 0 g11S (runm g11R R) (runm g11M M)) : Mw (d + 2) 104 [vr 0] [(11, 0)] R M 363 24617 Q := by
  refine Mw_of mok104 rfl fun _ _ => b_X11_init_0 ?_
  refine ⟨by omega, ?_⟩
  simp only [newk_1, newk_2, newk_3, lenA, l1, lS4, lS9, lS5, lS0, lSk, lS10, lS6, lS3, lS2, lS1, lS7, Int.reduceAdd]
  rw [ook_iff]
  refine ⟨by decide +kernel, ?_⟩
  refine w_X4_init (d := d + 1) rfl ?_
  simp only [newk_1, newk_2, newk_3, lenA, l1, lS4, lS9, lS5, lS0, lSk, lS10, lS6, lS3, lS2, lS1, lS7, Int.reduceAdd]
  rw [ook_iff]
  refine ⟨by decide +kernel, ?_⟩
  rw [ook_iff]
  refine ⟨by decide +kernel, ?_⟩
  refine w_X4_init (d := d + 1) rfl ?_
  simp only [newk_1, newk_2, newk_3, lenA, l1, lS4, lS9, lS5, lS0, lSk, lS10, lS6, lS3, lS2, lS1, lS7, Int.reduceAdd]
  rw [ook_iff]
  refine ⟨by decide +kernel, ?_⟩
  rw [ook_iff]
  refine ⟨by decide +kernel, ?_⟩
  refine w_X9_init (d := d) rfl ?_
  simp only [newk_1, newk_2, newk_3, lenA, l1, lS4, lS9, lS5, lS0, lSk, lS10, lS6, lS3, lS2, lS1, lS7, Int.reduceAdd]
  rw [ook_iff]
  refine ⟨by decide +kernel, ?_⟩
  rw [ook_iff]
  refine ⟨by decide +kernel, ?_⟩
  rw [ook_iff]
  refine ⟨by decide +kernel, ?_⟩
  rw [ook_iff]
  refine ⟨by decide +kernel, ?_⟩
  repeat (first | rw [stm_hit] | rw [zr_neq (by decide)] | rw [stm_neq (by decide)] | rw [noq_of _ _ _ _ (by decide +kernel)])
  refine w_X5_init (d := d + 1) rfl ?_
  simp only [newk_1, newk_2, newk_3, lenA, l1, lS4, lS9, lS5, lS0, lSk, lS10, lS6, lS3, lS2, lS1, lS7, Int.reduceAdd]
  rw [ook_iff]
  refine ⟨by decide +kernel, ?_⟩
  rw [ook_iff]
  refine ⟨by decide +kernel, ?_⟩
  refine w_X0_init (d := d) rfl ?_
  simp only [newk_1, newk_2, newk_3, lenA, l1, lS4, lS9, lS5, lS0, lSk, lS10, lS6, lS3, lS2, lS1, lS7, Int.reduceAdd]
  rw [ook_iff]
  refine ⟨by decide +kernel, by omega, ?_⟩
  rw [ook_iff]
  refine ⟨by decide +kernel, ?_⟩
  refine b_X11_init_37_0 ?_
  rw [if_pos (by decide)]
  simp only [newk_1, newk_2, newk_3, lenA, l1, lS4, lS9, lS5, lS0, lSk, lS10, lS6, lS3, lS2, lS1, lS7, Int.reduceAdd]
  rw [ook_iff]
  refine ⟨by decide +kernel, ?_⟩
  rw [ook_iff]
  refine ⟨by decide +kernel, ?_⟩
  refine w_X8_init (d := d + 1) (by decide +kernel) ?_
  simp only [newk_1, newk_2, newk_3, lenA, l1, lS4, lS9, lS5, lS0, lSk, lS10, lS6, lS3, lS2, lS1, lS7, Int.reduceAdd]
  repeat (first | rw [stm_hit] | rw [zr_neq (by decide)] | rw [stm_neq (by decide)] | rw [noq_of _ _ _ _ (by decide +kernel)])
  rw [aok_iff, ook_iff, iadd_of (by decide) (by decide)]
  refine ⟨by decide +kernel, by decide, by decide +kernel, by decide +kernel, ?_⟩
  simp only [newk_1, newk_2, newk_3, lenA, l1, lS4, lS9, lS5, lS0, lSk, lS10, lS6, lS3, lS2, lS1, lS7, Int.reduceAdd]
  refine b_X11_init_37_1 ?_
  rw [if_pos (by decide)]
  simp only [newk_1, newk_2, newk_3, lenA, l1, lS4, lS9, lS5, lS0, lSk, lS10, lS6, lS3, lS2, lS1, lS7, Int.reduceAdd]
  rw [ook_iff]
  refine ⟨by decide +kernel, ?_⟩
  rw [ook_iff]
  refine ⟨by decide +kernel, ?_⟩
  refine w_X8_init (d := d + 1) (by decide +kernel) ?_
  simp only [newk_1, newk_2, newk_3, lenA, l1, lS4, lS9, lS5, lS0, lSk, lS10, lS6, lS3, lS2, lS1, lS7, Int.reduceAdd]
  repeat (first | rw [stm_hit] | rw [zr_neq (by decide)] | rw [stm_neq (by decide)] | rw [noq_of _ _ _ _ (by decide +kernel)])
  rw [aok_iff, ook_iff, iadd_of (by decide) (by decide)]
  refine ⟨by decide +kernel, by decide, by decide +kernel, by decide +kernel, ?_⟩
  simp only [newk_1, newk_2, newk_3, lenA, l1, lS4, lS9, lS5, lS0, lSk, lS10, lS6, lS3, lS2, lS1, lS7, Int.reduceAdd]
  refine b_X11_init_37_2 ?_
  rw [if_pos (by decide)]
  simp only [newk_1, newk_2, newk_3, lenA, l1, lS4, lS9, lS5, lS0, lSk, lS10, lS6, lS3, lS2, lS1, lS7, Int.reduceAdd]
  rw [ook_iff]
  refine ⟨by decide +kernel, ?_⟩
  rw [ook_iff]
  refine ⟨by decide +kernel, ?_⟩
  refine w_X8_init (d := d + 1) (by decide +kernel) ?_
  simp only [newk_1, newk_2, newk_3, lenA, l1, lS4, lS9, lS5, lS0, lSk, lS10, lS6, lS3, lS2, lS1, lS7, Int.reduceAdd]
  repeat (first | rw [stm_hit] | rw [zr_neq (by decide)] | rw [stm_neq (by decide)] | rw [noq_of _ _ _ _ (by decide +kernel)])
  rw [aok_iff, ook_iff, iadd_of (by decide) (by decide)]
  refine ⟨by decide +kernel, by decide, by decide +kernel, by decide +kernel, ?_⟩
  simp only [newk_1, newk_2, newk_3, lenA, l1, lS4, lS9, lS5, lS0, lSk, lS10, lS6, lS3, lS2, lS1, lS7, Int.reduceAdd]
  refine b_X11_init_37_3 ?_
  rw [if_neg (by decide)]
  refine ⟨by omega, ?_⟩
  simp only [newk_1, newk_2, newk_3, lenA, l1, lS4, lS9, lS5, lS0, lSk, lS10, lS6, lS3, lS2, lS1, lS7, Int.reduceAdd]
  rw [ook_iff]
  refine ⟨by decide +kernel, by omega, ?_⟩
  rw [ook_iff]
  refine ⟨by decide +kernel, ?_⟩
  rw [ook_iff]
  refine ⟨by decide +kernel, ?_⟩
  refine w_X10_init (d := d) (by decide +kernel) ?_
  simp only [newk_1, newk_2, newk_3, lenA, l1, lS4, lS9, lS5, lS0, lSk, lS10, lS6, lS3, lS2, lS1, lS7, Int.reduceAdd]
  rw [ook_iff]
  refine ⟨by decide +kernel, ?_⟩
  rw [ook_iff]
  refine ⟨by decide +kernel, ?_⟩
  refine w_X6_init (d := d + 1) (by decide +kernel) ?_
  simp only [newk_1, newk_2, newk_3, lenA, l1, lS4, lS9, lS5, lS0, lSk, lS10, lS6, lS3, lS2, lS1, lS7, Int.reduceAdd]
  rw [ook_iff]
  refine ⟨by decide +kernel, ?_⟩
  rw [ook_iff]
  refine ⟨by decide +kernel, ?_⟩
  refine w_X3_init (d := d + 1) (by decide +kernel) ?_
  simp only [newk_1, newk_2, newk_3, lenA, l1, lS4, lS9, lS5, lS0, lSk, lS10, lS6, lS3, lS2, lS1, lS7, Int.reduceAdd]
  rw [ook_iff]
  refine ⟨by decide +kernel, ?_⟩
  rw [ook_iff]
  refine ⟨by decide +kernel, ?_⟩
  rw [ook_iff]
  refine ⟨by decide +kernel, ?_⟩
  rw [ook_iff]
  refine ⟨by decide +kernel, ?_⟩
  rw [ook_iff]
  refine ⟨by decide +kernel, ?_⟩
  repeat (first | rw [stm_hit] | rw [zr_neq (by decide)] | rw [stm_neq (by decide)] | rw [noq_of _ _ _ _ (by decide +kernel)])
  refine w_X2_init (d := d + 1) (by decide +kernel) ?_
  simp only [newk_1, newk_2, newk_3, lenA, l1, lS4, lS9, lS5, lS0, lSk, lS10, lS6, lS3, lS2, lS1, lS7, Int.reduceAdd]
  rw [ook_iff]
  refine ⟨by decide +kernel, ?_⟩
  rw [ook_iff]
  refine ⟨by decide +kernel, ?_⟩
  rw [ook_iff]
  refine ⟨by decide +kernel, ?_⟩
  repeat (first | rw [stm_hit] | rw [zr_neq (by decide)] | rw [stm_neq (by decide)] | rw [noq_of _ _ _ _ (by decide +kernel)])
  refine w_X1_init (d := d + 1) (by decide +kernel) ?_
  simp only [newk_1, newk_2, newk_3, lenA, l1, lS4, lS9, lS5, lS0, lSk, lS10, lS6, lS3, lS2, lS1, lS7, Int.reduceAdd]
  rw [ook_iff]
  refine ⟨by decide +kernel, ?_⟩
  rw [ook_iff]
  refine ⟨by decide +kernel, ?_⟩
  rw [ook_iff]
  refine ⟨by decide +kernel, ?_⟩
  repeat (first | rw [stm_hit] | rw [zr_neq (by decide)] | rw [stm_neq (by decide)] | rw [noq_of _ _ _ _ (by decide +kernel)])
  refine w_X7_init (d := d + 1) (by decide +kernel) ?_
  simp only [newk_1, newk_2, newk_3, lenA, l1, lS4, lS9, lS5, lS0, lSk, lS10, lS6, lS3, lS2, lS1, lS7, Int.reduceAdd]
  rw [ook_iff]
  refine ⟨by decide +kernel, ?_⟩
  simp only [g11S, g11R, g11M, runm_app] at hq
  simp only [List.append_assoc]
  exact hq
