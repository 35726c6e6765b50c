/-! BOTH CONSTRUCTORS, at their places -/
def noq1 (o : MOP) (q : Int) : Bool := match o with
  | (0, a, _, _) => decide (q ≠ a)
  | (1, a, _, _) => decide (q ≠ a)
  | (_, a, _, _) => decide (q < a)
def noq : List MOP → Int → Bool
  | [], _ => true
  | o :: l, q => noq1 o q && noq l q
theorem noq1_of : ∀ (o : MOP) (q j : Int) (M : MEM), noq1 o q = true → run1 o M q j = M q j
  | (0, a, v, _), q, j, M, h => by
    have h1 : q ≠ a := of_decide_eq_true h
    change (if q = a then v else M q j) = _
    rw [if_neg h1]
  | (1, a, i, v), q, j, M, h => by
    have h1 : q ≠ a := of_decide_eq_true h
    change (if q = a ∧ j = i then v else M q j) = _
    rw [if_neg fun z => h1 z.1]
  | (2, a, n, _), q, j, M, h => by
    have h1 : q < a := of_decide_eq_true h
    change (if q = a then _ else if a < q then -1 else M q j) = _
    rw [if_neg (by omega), if_neg (by omega)]
  | (_ + 3, a, _, _), q, j, M, h => by
    have h1 : q < a := of_decide_eq_true h
    change (if a ≤ q then 0 else M q j) = _
    rw [if_neg (by omega)]
theorem noq_of : ∀ (l : List MOP) (q j : Int) (M : MEM), noq l q = true → runm l M q j = M q j
  | [], _, _, _, _ => rfl
  | o :: l, q, j, M, h => by
    unfold noq at h
    rw [Bool.and_eq_true] at h
    show runm l (run1 o M) q j = _
    rw [noq_of l q j _ h.2, noq1_of o q j M h.1]
theorem lenA (sh : SHP) (t : SHP) : ((sh ++ t).length : Int) = (sh.length : Int) + (t.length : Int) := by
  rw [List.length_append]
  omega
theorem lS4 : (mkS4.length : Int) = 12 := rfl
theorem lS9 : (mkS9.length : Int) = 5 := rfl
theorem lS5 : (mkS5.length : Int) = 2 := rfl
theorem lS0 : (mkS0.length : Int) = 206 := by decide +kernel
theorem lSk : (skyS.length : Int) = 4 := rfl
theorem lS10 : (mkS10.length : Int) = 12 := rfl
theorem lS6 : (mkS6.length : Int) = 63 := rfl
theorem lS3 : (mkS3.length : Int) = 1 := rfl
theorem lS2 : (mkS2.length : Int) = 1 := rfl
theorem lS1 : (mkS1.length : Int) = 12 := rfl
theorem lS7 : (mkS7.length : Int) = 8 := rfl
theorem l1 (k n : Nat) : (([(k, n)] : SHP).length : Int) = 1 := rfl
theorem zr_neq {M : MEM} {a v q j : Int} (h : q ≠ a) : zr M a v q j = M q j := if_neg h
theorem stm_neq {M : MEM} {a i v q j : Int} (h : ¬(q = a ∧ j = i)) : stm M a i v q j = M q j := if_neg h
theorem x11_a {d : Nat} {R M : MEM} {Q : RES} (hq : ∀ sh R' M', Go (d + 2) 104 Q 37 [vr 0, vi 0] [] sh R' M' 120 2427) : Mw (d + 2) 104 [vr 0] [(11, 0)] R M 363 24617 Q := by
  refine Mw_of mok104 rfl fun _ _ => b_X11_init_0 ?_
  refine ⟨by omega, ?_⟩
  simp only [newk_1, newk_2, newk_3, lenA, l1, lS4, lS9, lS5, lS0, lSk, Int.reduceAdd]
  rw [ook_iff]
  refine ⟨rfl, ?_⟩
  refine w_X4_init (d := d + 1) rfl ?_
  simp only [newk_1, newk_2, newk_3, lenA, l1, lS4, lS9, lS5, lS0, lSk, Int.reduceAdd]
  rw [ook_iff]
  refine ⟨rfl, ?_⟩
  rw [ook_iff]
  refine ⟨rfl, ?_⟩
  refine w_X4_init (d := d + 1) rfl ?_
  simp only [newk_1, newk_2, newk_3, lenA, l1, lS4, lS9, lS5, lS0, lSk, Int.reduceAdd]
  rw [ook_iff]
  refine ⟨rfl, ?_⟩
  rw [ook_iff]
  refine ⟨rfl, ?_⟩
  refine w_X9_init (d := d) rfl ?_
  simp only [newk_1, newk_2, newk_3, lenA, l1, lS4, lS9, lS5, lS0, lSk, Int.reduceAdd]
  rw [ook_iff]
  refine ⟨rfl, ?_⟩
  rw [ook_iff]
  refine ⟨rfl, ?_⟩
  rw [ook_iff]
  refine ⟨rfl, ?_⟩
  rw [ook_iff]
  refine ⟨rfl, ?_⟩
  rw [zr_neq (by decide), stm_hit, zr_neq (by decide), stm_neq (by decide), noq_of _ _ _ _ (by decide +kernel), zr_neq (by decide), stm_hit]
  refine w_X5_init (d := d + 1) rfl ?_
  simp only [newk_1, newk_2, newk_3, lenA, l1, lS4, lS9, lS5, lS0, lSk, Int.reduceAdd]
  rw [ook_iff]
  refine ⟨rfl, ?_⟩
  rw [ook_iff]
  refine ⟨rfl, ?_⟩
  refine w_X0_init (d := d) rfl ?_
  simp only [newk_1, newk_2, newk_3, lenA, l1, lS4, lS9, lS5, lS0, lSk, Int.reduceAdd]
  rw [ook_iff]
  refine ⟨by decide +kernel, by omega, ?_⟩
  rw [ook_iff]
  refine ⟨by decide +kernel, ?_⟩
  exact hq _ _ _
