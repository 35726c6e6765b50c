/-! BOTH CONSTRUCTORS, at their places -/
def noq1 (o : MOP) (q : Int) : Bool := match o with
  | (0, a, _, _) => decide (q ≠ a)
  | (1, a, _, _) => decide (q ≠ a)
  | (_, a, _, _) => decide (q < a)
def noq : List MOP → Int → Bool
  | [], _ => true
  | o :: l, q => noq1 o q && noq l q
theorem noq1_of : ∀ (o : MOP) (q j : Int) (M : MEM), noq1 o q = true → run1 o M q j = M q j
  | (0, a, v, _), q, j, M, h => by
    have h1 : q ≠ a := of_decide_eq_true h
    change (if q = a then v else M q j) = _
    rw [if_neg h1]
  | (1, a, i, v), q, j, M, h => by
    have h1 : q ≠ a := of_decide_eq_true h
    change (if q = a ∧ j = i then v else M q j) = _
    rw [if_neg fun z => h1 z.1]
  | (2, a, n, _), q, j, M, h => by
    have h1 : q < a := of_decide_eq_true h
    change (if q = a then _ else if a < q then -1 else M q j) = _
    rw [if_neg (by omega), if_neg (by omega)]
  | (_ + 3, a, _, _), q, j, M, h => by
    have h1 : q < a := of_decide_eq_true h
    change (if a ≤ q then 0 else M q j) = _
    rw [if_neg (by omega)]
theorem noq_of : ∀ (l : List MOP) (q j : Int) (M : MEM), noq l q = true → runm l M q j = M q j
  | [], _, _, _, _ => rfl
  | o :: l, q, j, M, h => by
    unfold noq at h
    rw [Bool.and_eq_true] at h
    show runm l (run1 o M) q j = _
    rw [noq_of l q j _ h.2, noq1_of o q j M h.1]
theorem lenA (sh : SHP) (t : SHP) : ((sh ++ t).length : Int) = (sh.length : Int) + (t.length : Int) := by
  rw [List.length_append]
  omega
theorem lS4 : (mkS4.length : Int) = 12 := rfl
theorem lS9 : (mkS9.length : Int) = 5 := rfl
theorem lS5 : (mkS5.length : Int) = 2 := rfl
theorem lS0 : (mkS0.length : Int) = 206 := by decide +kernel
theorem lSk : (skyS.length : Int) = 4 := rfl
theorem lS10 : (mkS10.length : Int) = 12 := rfl
theorem lS6 : (mkS6.length : Int) = 63 := rfl
theorem lS3 : (mkS3.length : Int) = 1 := rfl
theorem lS2 : (mkS2.length : Int) = 1 := rfl
theorem lS1 : (mkS1.length : Int) = 12 := rfl
theorem lS7 : (mkS7.length : Int) = 8 := rfl
theorem l1 (k n : Nat) : (([(k, n)] : SHP).length : Int) = 1 := rfl
theorem zr_neq {M : MEM} {a v q j : Int} (h : q ≠ a) : zr M a v q j = M q j := if_neg h
theorem stm_neq {M : MEM} {a i v q j : Int} (h : ¬(q = a ∧ j = i)) : stm M a i v q j = M q j := if_neg h
def g11S : SHP := [(11, 0)] ++ ([(4, 0)] ++ (mkS4 ++ ([(4, 0)] ++ (mkS4 ++ ([(9, 0)] ++ (mkS9 ++ ([(5, 0)] ++ (mkS5 ++ ([(0, 0)] ++ (mkS0 ++ ([(104, 3)] ++ ([(8, 0)] ++ (skyS ++ ([(8, 0)] ++ (skyS ++ ([(8, 0)] ++ (skyS ++ ([(103, 3)] ++ ([(100, 3)] ++ ([(10, 0)] ++ (mkS10 ++ ([(6, 0)] ++ (mkS6 ++ ([(3, 0)] ++ (mkS3 ++ ([(2, 0)] ++ (mkS2 ++ ([(1, 0)] ++ (mkS1 ++ ([(7, 0)] ++ mkS7))))))))))))))))))))))))))))))
def g11R : List MOP := [(0, 1, -1, 0)] ++ (mkR4 1 2 ++ ([(1, 0, 12, 1), (0, 14, -1, 0)] ++ (mkR4 14 15 ++ ([(1, 0, 13, 14), (0, 27, -1, 0)] ++ (mkR9 27 28 ++ ([(1, 0, 0, 27), (0, 33, -1, 0)] ++ (mkR5 33 34 27 14 ++ ([(1, 0, 1, 33), (0, 36, -1, 0)] ++ (mkR0 36 37 ++ ([(1, 0, 2, 36), (0, 243, -1, 0), (1, 0, 3, 243), (0, 244, -1, 0)] ++ (skyR 244 245 ++ ([(1, 243, 0, 244), (0, 249, -1, 0)] ++ (skyR 249 250 ++ ([(1, 243, 1, 249), (0, 254, -1, 0)] ++ (skyR 254 255 ++ ([(1, 243, 2, 254), (0, 259, -1, 0), (1, 0, 4, 259), (0, 260, -1, 0), (1, 0, 5, 260), (0, 261, -1, 0)] ++ (mkR10 261 262 ++ ([(1, 0, 6, 261), (0, 274, -1, 0)] ++ (mkR6 274 275 ++ ([(1, 0, 8, 274), (0, 338, -1, 0)] ++ (mkR3 338 339 ++ ([(1, 0, 11, 338), (0, 340, -1, 0)] ++ (mkR2 340 341 261 274 338 ++ ([(1, 0, 7, 340), (0, 342, -1, 0)] ++ (mkR1 342 343 338 ++ ([(1, 0, 9, 342), (0, 355, -1, 0)] ++ (mkR7 355 356 261 ++ [(1, 0, 10, 355)])))))))))))))))))))))))))))
def g11M : List MOP := [(0, 1, 0, 0)] ++ (rows0 2 12 ++ ([(0, 14, 0, 0)] ++ (rows0 15 12 ++ ([(0, 27, 0, 0)] ++ (mkM9 28 ++ ([(0, 33, 0, 0)] ++ (mkM5 33 34 ++ ([(0, 36, 0, 0)] ++ (mkM0 37 ++ ([(0, 243, 0, 0), (0, 244, 0, 0)] ++ (rows0 245 4 ++ ([(0, 249, 0, 0)] ++ (rows0 250 4 ++ ([(0, 254, 0, 0)] ++ (rows0 255 4 ++ ([(0, 259, 0, 0), (0, 260, 0, 0), (0, 261, 0, 0)] ++ (mkM10 262 ++ ([(0, 274, 0, 0)] ++ (mkM6 274 275 ++ ([(0, 338, 0, 0)] ++ (mkM3 338 339 ++ ([(0, 340, 0, 0)] ++ (mkM2 340 341 ++ ([(0, 342, 0, 0)] ++ (mkM1 342 343 ++ ([(0, 355, 0, 0)] ++ mkM7 355 356))))))))))))))))))))))))))
theorem w_X11_init {d : Nat} {R M : MEM} {Q : RES} (hq : Q 0 g11S (runm g11R R) (runm g11M M)) : Mw (d + 2) 104 [vr 0] [(11, 0)] R M 363 24617 Q := by
  refine Mw_of mok104 rfl fun _ _ => b_X11_init_0 ?_
  refine ⟨by omega, ?_⟩
  simp only [newk_1, newk_2, newk_3, lenA, l1, lS4, lS9, lS5, lS0, lSk, lS10, lS6, lS3, lS2, lS1, lS7, Int.reduceAdd]
  rw [ook_iff]
  refine ⟨by decide +kernel, ?_⟩
  refine w_X4_init (d := d + 1) rfl ?_
  simp only [newk_1, newk_2, newk_3, lenA, l1, lS4, lS9, lS5, lS0, lSk, lS10, lS6, lS3, lS2, lS1, lS7, Int.reduceAdd]
  rw [ook_iff]
  refine ⟨by decide +kernel, ?_⟩
  rw [ook_iff]
  refine ⟨by decide +kernel, ?_⟩
  refine w_X4_init (d := d + 1) rfl ?_
  simp only [newk_1, newk_2, newk_3, lenA, l1, lS4, lS9, lS5, lS0, lSk, lS10, lS6, lS3, lS2, lS1, lS7, Int.reduceAdd]
  rw [ook_iff]
  refine ⟨by decide +kernel, ?_⟩
  rw [ook_iff]
  refine ⟨by decide +kernel, ?_⟩
  refine w_X9_init (d := d) rfl ?_
  simp only [newk_1, newk_2, newk_3, lenA, l1, lS4, lS9, lS5, lS0, lSk, lS10, lS6, lS3, lS2, lS1, lS7, Int.reduceAdd]
  rw [ook_iff]
  refine ⟨by decide +kernel, ?_⟩
  rw [ook_iff]
  refine ⟨by decide +kernel, ?_⟩
  rw [ook_iff]
  refine ⟨by decide +kernel, ?_⟩
  rw [ook_iff]
  refine ⟨by decide +kernel, ?_⟩
  repeat (first | rw [stm_hit] | rw [zr_neq (by decide)] | rw [stm_neq (by decide)] | rw [noq_of _ _ _ _ (by decide +kernel)])
  refine w_X5_init (d := d + 1) rfl ?_
  simp only [newk_1, newk_2, newk_3, lenA, l1, lS4, lS9, lS5, lS0, lSk, lS10, lS6, lS3, lS2, lS1, lS7, Int.reduceAdd]
  rw [ook_iff]
  refine ⟨by decide +kernel, ?_⟩
  rw [ook_iff]
  refine ⟨by decide +kernel, ?_⟩
  refine w_X0_init (d := d) rfl ?_
  simp only [newk_1, newk_2, newk_3, lenA, l1, lS4, lS9, lS5, lS0, lSk, lS10, lS6, lS3, lS2, lS1, lS7, Int.reduceAdd]
  rw [ook_iff]
  refine ⟨by decide +kernel, by omega, ?_⟩
  rw [ook_iff]
  refine ⟨by decide +kernel, ?_⟩
  refine b_X11_init_37_0 ?_
  rw [if_pos (by decide)]
  simp only [newk_1, newk_2, newk_3, lenA, l1, lS4, lS9, lS5, lS0, lSk, lS10, lS6, lS3, lS2, lS1, lS7, Int.reduceAdd]
  rw [ook_iff]
  refine ⟨by decide +kernel, ?_⟩
  rw [ook_iff]
  refine ⟨by decide +kernel, ?_⟩
  refine w_X8_init (d := d + 1) (by decide +kernel) ?_
  simp only [newk_1, newk_2, newk_3, lenA, l1, lS4, lS9, lS5, lS0, lSk, lS10, lS6, lS3, lS2, lS1, lS7, Int.reduceAdd]
  repeat (first | rw [stm_hit] | rw [zr_neq (by decide)] | rw [stm_neq (by decide)] | rw [noq_of _ _ _ _ (by decide +kernel)])
  rw [aok_iff, ook_iff, iadd_of (by decide) (by decide)]
  refine ⟨by decide +kernel, by decide, by decide +kernel, by decide +kernel, ?_⟩
  simp only [newk_1, newk_2, newk_3, lenA, l1, lS4, lS9, lS5, lS0, lSk, lS10, lS6, lS3, lS2, lS1, lS7, Int.reduceAdd]
  refine b_X11_init_37_1 ?_
  rw [if_pos (by decide)]
  simp only [newk_1, newk_2, newk_3, lenA, l1, lS4, lS9, lS5, lS0, lSk, lS10, lS6, lS3, lS2, lS1, lS7, Int.reduceAdd]
  rw [ook_iff]
  refine ⟨by decide +kernel, ?_⟩
  rw [ook_iff]
  refine ⟨by decide +kernel, ?_⟩
  refine w_X8_init (d := d + 1) (by decide +kernel) ?_
  simp only [newk_1, newk_2, newk_3, lenA, l1, lS4, lS9, lS5, lS0, lSk, lS10, lS6, lS3, lS2, lS1, lS7, Int.reduceAdd]
  repeat (first | rw [stm_hit] | rw [zr_neq (by decide)] | rw [stm_neq (by decide)] | rw [noq_of _ _ _ _ (by decide +kernel)])
  rw [aok_iff, ook_iff, iadd_of (by decide) (by decide)]
  refine ⟨by decide +kernel, by decide, by decide +kernel, by decide +kernel, ?_⟩
  simp only [newk_1, newk_2, newk_3, lenA, l1, lS4, lS9, lS5, lS0, lSk, lS10, lS6, lS3, lS2, lS1, lS7, Int.reduceAdd]
  refine b_X11_init_37_2 ?_
  rw [if_pos (by decide)]
  simp only [newk_1, newk_2, newk_3, lenA, l1, lS4, lS9, lS5, lS0, lSk, lS10, lS6, lS3, lS2, lS1, lS7, Int.reduceAdd]
  rw [ook_iff]
  refine ⟨by decide +kernel, ?_⟩
  rw [ook_iff]
  refine ⟨by decide +kernel, ?_⟩
  refine w_X8_init (d := d + 1) (by decide +kernel) ?_
  simp only [newk_1, newk_2, newk_3, lenA, l1, lS4, lS9, lS5, lS0, lSk, lS10, lS6, lS3, lS2, lS1, lS7, Int.reduceAdd]
  repeat (first | rw [stm_hit] | rw [zr_neq (by decide)] | rw [stm_neq (by decide)] | rw [noq_of _ _ _ _ (by decide +kernel)])
  rw [aok_iff, ook_iff, iadd_of (by decide) (by decide)]
  refine ⟨by decide +kernel, by decide, by decide +kernel, by decide +kernel, ?_⟩
  simp only [newk_1, newk_2, newk_3, lenA, l1, lS4, lS9, lS5, lS0, lSk, lS10, lS6, lS3, lS2, lS1, lS7, Int.reduceAdd]
  refine b_X11_init_37_3 ?_
  rw [if_neg (by decide)]
  refine ⟨by omega, ?_⟩
  simp only [newk_1, newk_2, newk_3, lenA, l1, lS4, lS9, lS5, lS0, lSk, lS10, lS6, lS3, lS2, lS1, lS7, Int.reduceAdd]
  rw [ook_iff]
  refine ⟨by decide +kernel, by omega, ?_⟩
  rw [ook_iff]
  refine ⟨by decide +kernel, ?_⟩
  rw [ook_iff]
  refine ⟨by decide +kernel, ?_⟩
  refine w_X10_init (d := d) (by decide +kernel) ?_
  simp only [newk_1, newk_2, newk_3, lenA, l1, lS4, lS9, lS5, lS0, lSk, lS10, lS6, lS3, lS2, lS1, lS7, Int.reduceAdd]
  rw [ook_iff]
  refine ⟨by decide +kernel, ?_⟩
  rw [ook_iff]
  refine ⟨by decide +kernel, ?_⟩
  refine w_X6_init (d := d + 1) (by decide +kernel) ?_
  simp only [newk_1, newk_2, newk_3, lenA, l1, lS4, lS9, lS5, lS0, lSk, lS10, lS6, lS3, lS2, lS1, lS7, Int.reduceAdd]
  rw [ook_iff]
  refine ⟨by decide +kernel, ?_⟩
  rw [ook_iff]
  refine ⟨by decide +kernel, ?_⟩
  refine w_X3_init (d := d + 1) (by decide +kernel) ?_
  simp only [newk_1, newk_2, newk_3, lenA, l1, lS4, lS9, lS5, lS0, lSk, lS10, lS6, lS3, lS2, lS1, lS7, Int.reduceAdd]
  rw [ook_iff]
  refine ⟨by decide +kernel, ?_⟩
  rw [ook_iff]
  refine ⟨by decide +kernel, ?_⟩
  rw [ook_iff]
  refine ⟨by decide +kernel, ?_⟩
  rw [ook_iff]
  refine ⟨by decide +kernel, ?_⟩
  rw [ook_iff]
  refine ⟨by decide +kernel, ?_⟩
  repeat (first | rw [stm_hit] | rw [zr_neq (by decide)] | rw [stm_neq (by decide)] | rw [noq_of _ _ _ _ (by decide +kernel)])
  refine w_X2_init (d := d + 1) (by decide +kernel) ?_
  simp only [newk_1, newk_2, newk_3, lenA, l1, lS4, lS9, lS5, lS0, lSk, lS10, lS6, lS3, lS2, lS1, lS7, Int.reduceAdd]
  rw [ook_iff]
  refine ⟨by decide +kernel, ?_⟩
  rw [ook_iff]
  refine ⟨by decide +kernel, ?_⟩
  rw [ook_iff]
  refine ⟨by decide +kernel, ?_⟩
  repeat (first | rw [stm_hit] | rw [zr_neq (by decide)] | rw [stm_neq (by decide)] | rw [noq_of _ _ _ _ (by decide +kernel)])
  refine w_X1_init (d := d + 1) (by decide +kernel) ?_
  simp only [newk_1, newk_2, newk_3, lenA, l1, lS4, lS9, lS5, lS0, lSk, lS10, lS6, lS3, lS2, lS1, lS7, Int.reduceAdd]
  rw [ook_iff]
  refine ⟨by decide +kernel, ?_⟩
  rw [ook_iff]
  refine ⟨by decide +kernel, ?_⟩
  rw [ook_iff]
  refine ⟨by decide +kernel, ?_⟩
  repeat (first | rw [stm_hit] | rw [zr_neq (by decide)] | rw [stm_neq (by decide)] | rw [noq_of _ _ _ _ (by decide +kernel)])
  refine w_X7_init (d := d + 1) (by decide +kernel) ?_
  simp only [newk_1, newk_2, newk_3, lenA, l1, lS4, lS9, lS5, lS0, lSk, lS10, lS6, lS3, lS2, lS1, lS7, Int.reduceAdd]
  rw [ook_iff]
  refine ⟨by decide +kernel, ?_⟩
  simp only [g11S, g11R, g11M, runm_app] at hq
  simp only [List.append_assoc]
  exact hq
def mkS12 : SHP := [(102, 1620), (102, 1600), (100, 2), (100, 2), (100, 2), (100, 2), (100, 2), (100, 2), (100, 20), (100, 20), (100, 6), (100, 32), (100, 32), (100, 32), (100, 20), (100, 20), (100, 12), (100, 12), (100, 12), (103, 2), (101, 20), (101, 12), (100, 1200), (100, 1200), (100, 90), (100, 90), (100, 60), (100, 218), (100, 218), (100, 16), (100, 10), (100, 3), (100, 8938), (100, 8), (100, 3), (100, 41), (100, 610), (103, 61), (100, 4), (100, 4), (100, 20), (100, 20), (100, 20), (100, 20), (100, 20), (100, 3), (100, 3), (100, 3), (100, 654), (103, 3)]
def mkR12 (a L : Int) : List MOP := [(0, L, -1, 0), (1, a, 0, L), (0, L + 1, -1, 0), (1, a, 1, L + 1), (0, L + 2, -1, 0), (1, a, 11, L + 2), (0, L + 3, -1, 0), (1, a, 12, L + 3), (0, L + 4, -1, 0), (1, a, 13, L + 4), (0, L + 5, -1, 0), (1, a, 14, L + 5), (0, L + 6, -1, 0), (1, a, 15, L + 6), (0, L + 7, -1, 0), (1, a, 16, L + 7), (0, L + 8, -1, 0), (1, a, 17, L + 8), (0, L + 9, -1, 0), (1, a, 18, L + 9), (0, L + 10, -1, 0), (1, a, 19, L + 10), (0, L + 11, -1, 0), (1, a, 20, L + 11), (0, L + 12, -1, 0), (1, a, 21, L + 12), (0, L + 13, -1, 0), (1, a, 22, L + 13), (0, L + 14, -1, 0), (1, a, 23, L + 14), (0, L + 15, -1, 0), (1, a, 24, L + 15), (0, L + 16, -1, 0), (1, a, 25, L + 16), (0, L + 17, -1, 0), (1, a, 26, L + 17), (0, L + 18, -1, 0), (1, a, 27, L + 18), (0, L + 19, -1, 0), (1, a, 28, L + 19), (0, L + 20, -1, 0), (1, a, 29, L + 20), (0, L + 21, -1, 0), (1, a, 30, L + 21), (0, L + 22, -1, 0), (1, a, 31, L + 22), (0, L + 23, -1, 0), (1, a, 32, L + 23), (0, L + 24, -1, 0), (1, a, 33, L + 24), (0, L + 25, -1, 0), (1, a, 34, L + 25), (0, L + 26, -1, 0), (1, a, 35, L + 26), (0, L + 27, -1, 0), (1, a, 42, L + 27), (0, L + 28, -1, 0), (1, a, 43, L + 28), (0, L + 29, -1, 0), (1, a, 44, L + 29), (0, L + 30, -1, 0), (1, a, 45, L + 30), (0, L + 31, -1, 0), (1, a, 46, L + 31), (0, L + 32, -1, 0), (1, a, 50, L + 32), (0, L + 33, -1, 0), (1, a, 53, L + 33), (0, L + 34, -1, 0), (1, a, 54, L + 34), (0, L + 35, -1, 0), (1, a, 56, L + 35), (0, L + 36, -1, 0), (1, a, 57, L + 36), (0, L + 37, -1, 0), (1, a, 58, L + 37), (0, L + 38, -1, 0), (1, a, 59, L + 38), (0, L + 39, -1, 0), (1, a, 60, L + 39), (0, L + 40, -1, 0), (1, a, 62, L + 40), (0, L + 41, -1, 0), (1, a, 63, L + 41), (0, L + 42, -1, 0), (1, a, 64, L + 42), (0, L + 43, -1, 0), (1, a, 65, L + 43), (0, L + 44, -1, 0), (1, a, 66, L + 44), (0, L + 45, -1, 0), (1, a, 67, L + 45), (0, L + 46, -1, 0), (1, a, 68, L + 46), (0, L + 47, -1, 0), (1, a, 69, L + 47), (0, L + 48, -1, 0), (1, a, 72, L + 48), (0, L + 49, -1, 0), (1, a, 73, L + 49)]
def mkM12 (a L : Int) : List MOP := [(0, L, 0, 0), (0, L + 1, 0, 0), (1, a, 5, -1), (0, L + 2, 0, 0), (0, L + 3, 0, 0), (0, L + 4, 0, 0), (0, L + 5, 0, 0), (0, L + 6, 0, 0), (0, L + 7, 0, 0), (0, L + 8, 0, 0), (0, L + 9, 0, 0), (0, L + 10, 0, 0), (0, L + 11, 0, 0), (0, L + 12, 0, 0), (0, L + 13, 0, 0), (0, L + 14, 0, 0), (0, L + 15, 0, 0), (0, L + 16, 0, 0), (0, L + 17, 0, 0), (0, L + 18, 0, 0), (0, L + 19, 0, 0), (0, L + 20, 0, 0), (0, L + 21, 0, 0), (0, L + 22, 0, 0), (0, L + 23, 0, 0), (0, L + 24, 0, 0), (0, L + 25, 0, 0), (0, L + 26, 0, 0), (0, L + 27, 0, 0), (0, L + 28, 0, 0), (0, L + 29, 0, 0), (0, L + 30, 0, 0), (0, L + 31, 0, 0), (0, L + 32, 0, 0), (0, L + 33, 0, 0), (0, L + 34, 0, 0), (0, L + 35, 0, 0), (0, L + 36, 0, 0), (0, L + 37, 0, 0), (0, L + 38, 0, 0), (0, L + 39, 0, 0), (0, L + 40, 0, 0), (0, L + 41, 0, 0), (0, L + 42, 0, 0), (0, L + 43, 0, 0), (0, L + 44, 0, 0), (0, L + 45, 0, 0), (0, L + 46, 0, 0), (0, L + 47, 0, 0), (0, L + 48, 0, 0), (0, L + 49, 0, 0)]
theorem w_X12_init {d : Nat} {sh : SHP} {R M : MEM} {a : Int} {Q : RES} (hs : (shk sh a).1 = 12) (hq : Mw d 167 [vr a] (sh ++ mkS12) (runm (mkR12 a sh.length) R) (runm (mkM12 a sh.length) M) 0 0 (fun _ sh1 R1 M1 => (shk sh1 a).1 = 12 ∧ Mw d 202 [vr a] sh1 R1 M1 0 0 (fun _ sh2 R2 M2 => Q 0 sh2 R2 M2))) : Mw (d + 1) 152 [vr a] sh R M 50 17024 Q := by
  refine Mw_of mok152 rfl fun _ _ => b_X12_init_0 ?_
  have h1 := shk_app1 (kd := 102) (n := 1620) hs (by omega)
  have h2 := shk_app1 (kd := 102) (n := 1600) h1 (by omega)
  have h3 := shk_app1 (kd := 100) (n := 2) h2 (by omega)
  have h4 := shk_app1 (kd := 100) (n := 2) h3 (by omega)
  have h5 := shk_app1 (kd := 100) (n := 2) h4 (by omega)
  have h6 := shk_app1 (kd := 100) (n := 2) h5 (by omega)
  have h7 := shk_app1 (kd := 100) (n := 2) h6 (by omega)
  have h8 := shk_app1 (kd := 100) (n := 2) h7 (by omega)
  have h9 := shk_app1 (kd := 100) (n := 20) h8 (by omega)
  have h10 := shk_app1 (kd := 100) (n := 20) h9 (by omega)
  have h11 := shk_app1 (kd := 100) (n := 6) h10 (by omega)
  have h12 := shk_app1 (kd := 100) (n := 32) h11 (by omega)
  have h13 := shk_app1 (kd := 100) (n := 32) h12 (by omega)
  have h14 := shk_app1 (kd := 100) (n := 32) h13 (by omega)
  have h15 := shk_app1 (kd := 100) (n := 20) h14 (by omega)
  have h16 := shk_app1 (kd := 100) (n := 20) h15 (by omega)
  have h17 := shk_app1 (kd := 100) (n := 12) h16 (by omega)
  have h18 := shk_app1 (kd := 100) (n := 12) h17 (by omega)
  have h19 := shk_app1 (kd := 100) (n := 12) h18 (by omega)
  have h20 := shk_app1 (kd := 103) (n := 2) h19 (by omega)
  have h21 := shk_app1 (kd := 101) (n := 20) h20 (by omega)
  have h22 := shk_app1 (kd := 101) (n := 12) h21 (by omega)
  have h23 := shk_app1 (kd := 100) (n := 1200) h22 (by omega)
  have h24 := shk_app1 (kd := 100) (n := 1200) h23 (by omega)
  have h25 := shk_app1 (kd := 100) (n := 90) h24 (by omega)
  have h26 := shk_app1 (kd := 100) (n := 90) h25 (by omega)
  have h27 := shk_app1 (kd := 100) (n := 60) h26 (by omega)
  have h28 := shk_app1 (kd := 100) (n := 218) h27 (by omega)
  have h29 := shk_app1 (kd := 100) (n := 218) h28 (by omega)
  have h30 := shk_app1 (kd := 100) (n := 16) h29 (by omega)
  have h31 := shk_app1 (kd := 100) (n := 10) h30 (by omega)
  have h32 := shk_app1 (kd := 100) (n := 3) h31 (by omega)
  have h33 := shk_app1 (kd := 100) (n := 8938) h32 (by omega)
  have h34 := shk_app1 (kd := 100) (n := 8) h33 (by omega)
  have h35 := shk_app1 (kd := 100) (n := 3) h34 (by omega)
  have h36 := shk_app1 (kd := 100) (n := 41) h35 (by omega)
  have h37 := shk_app1 (kd := 100) (n := 610) h36 (by omega)
  have h38 := shk_app1 (kd := 103) (n := 61) h37 (by omega)
  have h39 := shk_app1 (kd := 100) (n := 4) h38 (by omega)
  have h40 := shk_app1 (kd := 100) (n := 4) h39 (by omega)
  have h41 := shk_app1 (kd := 100) (n := 20) h40 (by omega)
  have h42 := shk_app1 (kd := 100) (n := 20) h41 (by omega)
  have h43 := shk_app1 (kd := 100) (n := 20) h42 (by omega)
  have h44 := shk_app1 (kd := 100) (n := 20) h43 (by omega)
  have h45 := shk_app1 (kd := 100) (n := 20) h44 (by omega)
  have h46 := shk_app1 (kd := 100) (n := 3) h45 (by omega)
  have h47 := shk_app1 (kd := 100) (n := 3) h46 (by omega)
  have h48 := shk_app1 (kd := 100) (n := 3) h47 (by omega)
  have h49 := shk_app1 (kd := 100) (n := 654) h48 (by omega)
  have h50 := shk_app1 (kd := 103) (n := 3) h49 (by omega)
  simp only [newk_1, newk_2, newk_3, new2_1, new2_2, new2_3, ook_iff, hs, h1, h2, h3, h4, h5, h6, h7, h8, h9, h10, h11, h12, h13, h14, h15, h16, h17, h18, h19, h20, h21, h22, h23, h24, h25, h26, h27, h28, h29, h30, h31, h32, h33, h34, h35, h36, h37, h38, h39, h40, h41, h42, h43, h44, h45, h46, h47, h48, h49, h50, len1, len2, true_and]
  refine ⟨(shk_lt hs (by omega)).1, by omega, by omega, by omega, by omega, by omega, by omega, by omega, by omega, by omega, by omega, by omega, by omega, by omega, by omega, by omega, by omega, by omega, by omega, by omega, by omega, by omega, by omega, by omega, by omega, by omega, by omega, by omega, by omega, by omega, by omega, by omega, by omega, by omega, by omega, by omega, by omega, by omega, by omega, by omega, by omega, by omega, by omega, by omega, by omega, by omega, by omega, by omega, by omega, by omega, by omega, ?_⟩
  have e : sh ++ [(102, 1620)] ++ [(102, 1600)] ++ [(100, 2)] ++ [(100, 2)] ++ [(100, 2)] ++ [(100, 2)] ++ [(100, 2)] ++ [(100, 2)] ++ [(100, 20)] ++ [(100, 20)] ++ [(100, 6)] ++ [(100, 32)] ++ [(100, 32)] ++ [(100, 32)] ++ [(100, 20)] ++ [(100, 20)] ++ [(100, 12)] ++ [(100, 12)] ++ [(100, 12)] ++ [(103, 2)] ++ [(101, 20)] ++ [(101, 12)] ++ [(100, 1200)] ++ [(100, 1200)] ++ [(100, 90)] ++ [(100, 90)] ++ [(100, 60)] ++ [(100, 218)] ++ [(100, 218)] ++ [(100, 16)] ++ [(100, 10)] ++ [(100, 3)] ++ [(100, 8938)] ++ [(100, 8)] ++ [(100, 3)] ++ [(100, 41)] ++ [(100, 610)] ++ [(103, 61)] ++ [(100, 4)] ++ [(100, 4)] ++ [(100, 20)] ++ [(100, 20)] ++ [(100, 20)] ++ [(100, 20)] ++ [(100, 20)] ++ [(100, 3)] ++ [(100, 3)] ++ [(100, 3)] ++ [(100, 654)] ++ [(103, 3)] = sh ++ mkS12 := by simp only [mkS12, List.append_assoc, List.cons_append, List.nil_append]
  rw [e]
  try simp only [Int.add_assoc, Int.reduceAdd, c61, c9]
  exact hq
