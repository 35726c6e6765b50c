/-! what a frame is, and each instruction -/
theorem pI_inv {s : List AV} {f : Int → List AV → Prop} (h : pI s f) : ∃ x t, s = (0, x) :: t ∧ f x t := by
  match s, h with
  | (0, x) :: t, h => exact ⟨x, t, rfl, h⟩
theorem pL_inv {s : List AV} {f : Int → List AV → Prop} (h : pL s f) : ∃ x t, s = (1, x) :: t ∧ f x t := by
  match s, h with
  | (1, x) :: t, h => exact ⟨x, t, rfl, h⟩
theorem pR_inv {s : List AV} {f : Int → List AV → Prop} (h : pR s f) : ∃ x t, s = (2, x) :: t ∧ f x t := by
  match s, h with
  | (2, x) :: t, h => exact ⟨x, t, rfl, h⟩
theorem pE_inv {s : List AV} {f : Int → List AV → Prop} (h : pE s f) : ∃ x t, s = (4, x) :: t ∧ f x t := by
  match s, h with
  | (4, x) :: t, h => exact ⟨x, t, rfl, h⟩
theorem pII_inv {s : List AV} {f : Int → Int → List AV → Prop} (h : pII s f) : ∃ x y t, s = (0, y) :: (0, x) :: t ∧ f x y t := by
  obtain ⟨y, t, e1, h1⟩ := pI_inv h
  obtain ⟨x, t2, e2, h2⟩ := pI_inv h1
  exact ⟨x, y, t2, by rw [e1, e2], h2⟩
theorem pLL_inv {s : List AV} {f : Int → Int → List AV → Prop} (h : pLL s f) : ∃ x y t, s = (1, y) :: (1, x) :: t ∧ f x y t := by
  obtain ⟨y, t, e1, h1⟩ := pL_inv h
  obtain ⟨x, t2, e2, h2⟩ := pL_inv h1
  exact ⟨x, y, t2, by rw [e1, e2], h2⟩
theorem gI_inv {v : AV} {f : Int → Prop} (h : gI v f) : ∃ x, v = (0, x) ∧ f x := by
  match v, h with
  | (0, x), h => exact ⟨x, rfl, h⟩
theorem gL_inv {v : AV} {f : Int → Prop} (h : gL v f) : ∃ x, v = (1, x) ∧ f x := by
  match v, h with
  | (1, x), h => exact ⟨x, rfl, h⟩
theorem gR_inv {v : AV} {f : AV → Prop} (h : gR v f) : ∃ x, (v = (2, x) ∧ f (2, x)) ∨ (v = (4, x) ∧ f (4, x)) := by
  match v, h with
  | (2, x), h => exact ⟨x, Or.inl ⟨rfl, h⟩⟩
  | (4, x), h => exact ⟨x, Or.inr ⟨rfl, h⟩⟩
theorem bud_inv {b : Bool} {P : Prop} (h : bud b P) : b = true ∧ P := by
  cases b with
  | false => exact h.elim
  | true => exact ⟨rfl, h⟩
theorem ook_inv {sh : SHP} {ci : Nat} {a : Int} {P : Prop} (h : ook sh ci a P) : (shk sh a).1 = ci ∧ P := by
  unfold ook at h
  cases hq : Nat.beq (shk sh a).1 ci with
  | false => rw [hq] at h; exact h.elim
  | true => rw [hq] at h; exact ⟨Nat.eq_of_beq_eq_true hq, h⟩
theorem aok_inv {sh : SHP} {kd : Nat} {a i : Int} {P : Prop} (h : aok sh kd a i P) : (shk sh a).1 = kd ∧ 0 ≤ i ∧ i < ((shk sh a).2 : Int) ∧ P := by
  unfold aok at h
  cases hq : Nat.beq (shk sh a).1 kd with
  | false => rw [hq] at h; exact h.elim
  | true => rw [hq] at h; exact ⟨Nat.eq_of_beq_eq_true hq, h⟩
theorem bq_inv {x : Int} {P : Prop} (h : bq x P) : (x = 0 ∨ x = 1) ∧ P := by
  unfold bq at h
  split at h
  · exact ⟨Or.inl rfl, h⟩
  · exact ⟨Or.inr rfl, h⟩
  · exact h
theorem shk_inv {sh : SHP} {a : Int} (h : (shk sh a).1 ≠ 999) : ∃ n : Nat, a = (n : Int) ∧ n < sh.length ∧ shk sh a = sk sh n := by
  cases a with
  | ofNat n => exact ⟨n, rfl, sk_lt h, rfl⟩
  | negSucc n => exact absurd rfl h
theorem cv_cat {B : Nat} {ex : Nat → Nat} (a : AV) (h : a.1 ≠ 1) : ((cv B ex a).category == 2) = false := by
  unfold cv
  split
  · rfl
  · rename_i h1
    exact absurd h1 h
  · unfold rv
    split <;> rfl
  · rfl
  · rfl
/-! locals -/
def lo (B : Nat) (ex : Nat → Nat) : Nat → List AV → List (Nat × Value)
  | _, [] => []
  | i, v :: t => (match v.1 with
    | 3 => []
    | _ => [(i, cv B ex v)]) ++ lo B ex (i + 1) t
theorem lo_mem {B : Nat} {ex : Nat → Nat} : ∀ (ls : List AV) (i : Nat) (q : Nat × Value), q ∈ lo B ex i ls ↔ ∃ (j : Nat) (v : AV), ls[j]? = some v ∧ v.1 ≠ 3 ∧ q = (i + j, cv B ex v)
  | [], i, q => by simp [lo]
  | v :: t, i, q => by
    unfold lo
    rw [List.mem_append, lo_mem t (i + 1) q]
    constructor
    · rintro (h | ⟨j, w, h1, h2, rfl⟩)
      · by_cases hv : v.1 = 3
        · rw [hv] at h
          exact absurd h List.not_mem_nil
        · refine ⟨0, v, rfl, hv, ?_⟩
          split at h
          · rename_i h3
            exact absurd h3 hv
          · exact List.mem_singleton.mp h
      · exact ⟨j + 1, w, h1, h2, by rw [Nat.add_assoc, Nat.add_comm 1 j]⟩
    · rintro ⟨j, w, h1, h2, rfl⟩
      cases j with
      | zero =>
        left
        have : v = w := Option.some.inj h1
        subst this
        split
        · rename_i h3
          exact absurd h3 h2
        · exact List.mem_singleton.mpr rfl
      | succ j => exact Or.inr ⟨j, w, h1, h2, by rw [Nat.add_assoc, Nat.add_comm 1 j]⟩
theorem lgt_get : ∀ (ls : List AV) (i : Nat), (lgt ls i).1 ≠ 3 → ls[i]? = some (lgt ls i)
  | [], i, h => absurd rfl h
  | v :: _, 0, _ => rfl
  | _ :: t, i + 1, h => lgt_get t i h
theorem lst1_get : ∀ (ls : List AV) (i : Nat) (v : AV) (j : Nat), i < ls.length → (lst1 ls i v)[j]? = if j = i then some v else if j + 1 = i then (ls[j]?).map (fun a => if a.1 = 1 then vn else a) else ls[j]?
  | [], i, _, _, h => absurd h (Nat.not_lt_zero i)
  | a :: t, 0, v, j, _ => by
    cases j with
    | zero => rfl
    | succ j => simp [lst1]
  | a :: t, 1, v, j, h => by
    have hl : 0 < t.length := by simpa using h
    cases j with
    | zero =>
      simp only [lst1, List.getElem?_cons_zero]
      obtain ⟨ta, xa⟩ := a
      match ta with
      | 0 => simp
      | 1 => simp
      | ta + 2 => simp
    | succ j =>
      simp only [lst1, List.getElem?_cons_succ]
      rw [lst1_get t 0 v j hl]
      by_cases hj : j = 0
      · simp [hj]
      · simp [hj]
  | a :: t, i + 2, v, j, h => by
    have hl : i + 1 < t.length := by simp at h; omega
    cases j with
    | zero => simp [lst1]
    | succ j =>
      simp only [lst1, List.getElem?_cons_succ]
      rw [lst1_get t (i + 1) v j hl]
      simp
theorem lst1_len : ∀ (ls : List AV) (i : Nat) (v : AV), (lst1 ls i v).length = ls.length
  | [], _, _ => rfl
  | _ :: _, 0, _ => rfl
  | a :: t, 1, v => by simp [lst1, lst1_len t 0 v]
  | a :: t, i + 2, v => by simp [lst1, lst1_len t (i + 1) v]
theorem lst2_get : ∀ (ls : List AV) (i : Nat) (v : AV) (j : Nat), i + 1 < ls.length → (lst2 ls i v)[j]? = if j = i then some v else if j = i + 1 then some vn else if j + 1 = i then (ls[j]?).map (fun a => if a.1 = 1 then vn else a) else ls[j]?
  | [], i, _, _, h => absurd h (Nat.not_lt_zero _)
  | [_], i, _, _, h => by simp at h
  | a :: b :: t, 0, v, j, _ => by
    match j with
    | 0 => rfl
    | 1 => rfl
    | j + 2 => simp [lst2]
  | a :: b :: t, 1, v, j, h => by
    have hl : 0 + 1 < (b :: t).length := by simpa using h
    cases j with
    | zero =>
      simp only [lst2, List.getElem?_cons_zero]
      obtain ⟨ta, xa⟩ := a
      match ta with
      | 0 => simp
      | 1 => simp
      | ta + 2 => simp
    | succ j =>
      simp only [lst2, List.getElem?_cons_succ]
      rw [lst2_get (b :: t) 0 v j hl]
      by_cases hj : j = 0
      · simp [hj]
      · by_cases hj1 : j = 1
        · simp [hj1]
        · simp [hj, hj1]
  | a :: b :: t, i + 2, v, j, h => by
    have hl : i + 1 + 1 < (b :: t).length := by simp at h ⊢; omega
    cases j with
    | zero => simp [lst2]
    | succ j =>
      simp only [lst2, List.getElem?_cons_succ]
      rw [lst2_get (b :: t) (i + 1) v j hl]
      simp
theorem lst2_len : ∀ (ls : List AV) (i : Nat) (v : AV), i + 1 < ls.length → (lst2 ls i v).length = ls.length
  | [], _, _, h => absurd h (Nat.not_lt_zero _)
  | [_], i, _, h => by simp at h
  | _ :: _ :: _, 0, _, _ => rfl
  | a :: b :: t, 1, v, h => by simp [lst2, lst2_len (b :: t) 0 v (by simp at h ⊢; omega)]
  | a :: b :: t, i + 2, v, h => by simp [lst2, lst2_len (b :: t) (i + 1) v (by simp at h ⊢; omega)]
def LR (B : Nat) (ex : Nat → Nat) (nL : Nat) (lsA : Array Slot) (ls : List AV) : Prop := lv_has lsA nL (lo B ex 0 ls) ∧ ls.length = nL ∧ ∀ v ∈ ls, rngv v.1 v.2
def SQ (s : List AV) : Prop := ∀ v ∈ s, rngv v.1 v.2
theorem SQ.hd {v : AV} {s : List AV} (h : SQ (v :: s)) : rngv v.1 v.2 := h v List.mem_cons_self
theorem SQ.tl {v : AV} {s : List AV} (h : SQ (v :: s)) : SQ s := fun w hw => h w (List.mem_cons_of_mem _ hw)
theorem SQ.cons {v : AV} {s : List AV} (h1 : rngv v.1 v.2) (h : SQ s) : SQ (v :: s) := fun w hw => by
  rcases List.mem_cons.mp hw with rfl | hw
  · exact h1
  · exact h w hw
theorem lv_has_of {lsA : Array Slot} {nL : Nat} {l l' : List (Nat × Value)} (h : lv_has lsA nL l) (hs : ∀ q ∈ l', q ∈ l) : lv_has lsA nL l' := ⟨h.1, h.2.1, fun q hq => h.2.2 q (hs q hq)⟩
theorem LR.get {B : Nat} {ex : Nat → Nat} {nL : Nat} {lsA : Array Slot} {ls : List AV} (h : LR B ex nL lsA ls) {i : Nat} (hi : (lgt ls i).1 ≠ 3) : lsA[i]? = some (.val (cv B ex (lgt ls i))) ∧ rngv (lgt ls i).1 (lgt ls i).2 ∧ i < nL := by
  have hg := lgt_get ls i hi
  refine ⟨h.1.2.2 (i, cv B ex (lgt ls i)) ((lo_mem ls 0 _).mpr ⟨i, _, hg, hi, by rw [Nat.zero_add]⟩), h.2.2 _ (List.mem_of_getElem? hg), ?_⟩
  rw [← h.2.1]
  exact (List.getElem?_eq_some_iff.mp hg).1
theorem LR.st1 {B : Nat} {ex : Nat → Nat} {nL : Nat} {ls : List AV} {i : Nat} {v : AV} {lsA' : Array Slot} (hlen : ls.length = nL) (hrg : ∀ w ∈ ls, rngv w.1 w.2) (hi : i < nL) (hv : rngv v.1 v.2)
    (h : lv_has lsA' nL ((i, cv B ex v) :: (lo B ex 0 ls).filter (fun q => !(q.1 == i) && !(q.1 + 1 == i && q.2.category == 2)))) : LR B ex nL lsA' (lst1 ls i v) := by
  have hi' : i < ls.length := by rw [hlen]; exact hi
  refine ⟨lv_has_of h ?_, by rw [lst1_len, hlen], ?_⟩
  · intro q hq
    obtain ⟨j, w, h1, h2, rfl⟩ := (lo_mem _ 0 q).mp hq
    rw [Nat.zero_add]
    rw [lst1_get ls i v j hi'] at h1
    by_cases hj : j = i
    · subst hj
      rw [if_pos rfl] at h1
      cases h1
      exact List.mem_cons_self
    · rw [if_neg hj] at h1
      refine List.mem_cons_of_mem _ (List.mem_filter.mpr ⟨?_, ?_⟩)
      · by_cases hj1 : j + 1 = i
        · rw [if_pos hj1] at h1
          cases hx : ls[j]? with
          | none => rw [hx] at h1; cases h1
          | some a =>
            rw [hx, Option.map_some] at h1
            by_cases ha : a.1 = 1
            · rw [if_pos ha] at h1
              cases h1
              exact absurd rfl h2
            · rw [if_neg ha] at h1
              cases h1
              exact (lo_mem ls 0 _).mpr ⟨j, _, hx, h2, by rw [Nat.zero_add]⟩
        · rw [if_neg hj1] at h1
          exact (lo_mem ls 0 _).mpr ⟨j, _, h1, h2, by rw [Nat.zero_add]⟩
      · have e1 : (j == i) = false := by simpa using hj
        rw [e1]
        by_cases hj1 : j + 1 = i
        · rw [if_pos hj1] at h1
          cases hx : ls[j]? with
          | none => rw [hx] at h1; cases h1
          | some a =>
            rw [hx, Option.map_some] at h1
            by_cases ha : a.1 = 1
            · rw [if_pos ha] at h1
              cases h1
              exact absurd rfl h2
            · rw [if_neg ha] at h1
              cases h1
              rw [cv_cat _ ha]
              simp
        · have e2 : (j + 1 == i) = false := by simpa using hj1
          rw [e2]
          rfl
  · intro w hw
    obtain ⟨j, hj⟩ := List.getElem?_of_mem hw
    rw [lst1_get ls i v j hi'] at hj
    by_cases h1 : j = i
    · rw [if_pos h1] at hj
      cases hj
      exact hv
    · rw [if_neg h1] at hj
      by_cases h2 : j + 1 = i
      · rw [if_pos h2] at hj
        cases hx : ls[j]? with
        | none => rw [hx] at hj; cases hj
        | some a =>
          rw [hx, Option.map_some] at hj
          by_cases ha : a.1 = 1
          · rw [if_pos ha] at hj
            cases hj
            trivial
          · rw [if_neg ha] at hj
            cases hj
            exact hrg _ (List.mem_of_getElem? hx)
      · rw [if_neg h2] at hj
        exact hrg _ (List.mem_of_getElem? hj)
theorem LR.st2 {B : Nat} {ex : Nat → Nat} {nL : Nat} {ls : List AV} {i : Nat} {v : AV} {lsA' : Array Slot} (hlen : ls.length = nL) (hrg : ∀ w ∈ ls, rngv w.1 w.2) (hi : i + 1 < nL) (hv : rngv v.1 v.2)
    (h : lv_has lsA' nL ((i, cv B ex v) :: (lo B ex 0 ls).filter (fun q => !(q.1 == i) && (!(q.1 == i + 1) && !(q.1 + 1 == i && q.2.category == 2))))) : LR B ex nL lsA' (lst2 ls i v) := by
  have hi' : i + 1 < ls.length := by rw [hlen]; exact hi
  refine ⟨lv_has_of h ?_, by rw [lst2_len _ _ _ hi', hlen], ?_⟩
  · intro q hq
    obtain ⟨j, w, h1, h2, rfl⟩ := (lo_mem _ 0 q).mp hq
    rw [Nat.zero_add]
    rw [lst2_get ls i v j hi'] at h1
    by_cases hj : j = i
    · subst hj
      rw [if_pos rfl] at h1
      cases h1
      exact List.mem_cons_self
    · rw [if_neg hj] at h1
      by_cases hj2 : j = i + 1
      · rw [if_pos hj2] at h1
        cases h1
        exact absurd rfl h2
      rw [if_neg hj2] at h1
      refine List.mem_cons_of_mem _ (List.mem_filter.mpr ⟨?_, ?_⟩)
      · by_cases hj1 : j + 1 = i
        · rw [if_pos hj1] at h1
          cases hx : ls[j]? with
          | none => rw [hx] at h1; cases h1
          | some a =>
            rw [hx, Option.map_some] at h1
            by_cases ha : a.1 = 1
            · rw [if_pos ha] at h1
              cases h1
              exact absurd rfl h2
            · rw [if_neg ha] at h1
              cases h1
              exact (lo_mem ls 0 _).mpr ⟨j, _, hx, h2, by rw [Nat.zero_add]⟩
        · rw [if_neg hj1] at h1
          exact (lo_mem ls 0 _).mpr ⟨j, _, h1, h2, by rw [Nat.zero_add]⟩
      · have e1 : (j == i) = false := by simpa using hj
        have e3 : (j == i + 1) = false := by simpa using hj2
        rw [e1, e3]
        by_cases hj1 : j + 1 = i
        · rw [if_pos hj1] at h1
          cases hx : ls[j]? with
          | none => rw [hx] at h1; cases h1
          | some a =>
            rw [hx, Option.map_some] at h1
            by_cases ha : a.1 = 1
            · rw [if_pos ha] at h1
              cases h1
              exact absurd rfl h2
            · rw [if_neg ha] at h1
              cases h1
              rw [cv_cat _ ha]
              simp
        · have e2 : (j + 1 == i) = false := by simpa using hj1
          rw [e2]
          rfl
  · intro w hw
    obtain ⟨j, hj⟩ := List.getElem?_of_mem hw
    rw [lst2_get ls i v j hi'] at hj
    by_cases h1 : j = i
    · rw [if_pos h1] at hj
      cases hj
      exact hv
    · rw [if_neg h1] at hj
      by_cases h3 : j = i + 1
      · rw [if_pos h3] at hj
        cases hj
        trivial
      rw [if_neg h3] at hj
      by_cases h2 : j + 1 = i
      · rw [if_pos h2] at hj
        cases hx : ls[j]? with
        | none => rw [hx] at hj; cases hj
        | some a =>
          rw [hx, Option.map_some] at hj
          by_cases ha : a.1 = 1
          · rw [if_pos ha] at hj
            cases hj
            trivial
          · rw [if_neg ha] at hj
            cases hj
            exact hrg _ (List.mem_of_getElem? hx)
      · rw [if_neg h2] at hj
        exact hrg _ (List.mem_of_getElem? hj)
theorem msk_get : ∀ (m : List Nat) (ls : List AV), m.length = ls.length → ∀ (j : Nat) (v : AV), (msk m ls)[j]? = some v → v.1 ≠ 3 → ls[j]? = some v
  | [], [], _, j, v, h, _ => by simp [msk] at h
  | 0 :: m, a :: l, hl, j, v, h, hv => by
    cases j with
    | zero =>
      simp only [msk, List.getElem?_cons_zero] at h
      cases h
      exact absurd rfl hv
    | succ j => exact msk_get m l (by simpa using hl) j v (by simpa [msk] using h) hv
  | (n + 1) :: m, a :: l, hl, j, v, h, hv => by
    cases j with
    | zero => simpa [msk] using h
    | succ j => exact msk_get m l (by simpa using hl) j v (by simpa [msk] using h) hv
  | [], _ :: _, hl, _, _, _, _ => by simp at hl
  | _ :: _, [], hl, _, _, _, _ => by simp at hl
theorem msk_len : ∀ (m : List Nat) (ls : List AV), m.length = ls.length → (msk m ls).length = ls.length
  | [], [], _ => rfl
  | 0 :: m, a :: l, hl => by simp [msk, msk_len m l (by simpa using hl)]
  | (n + 1) :: m, a :: l, hl => by simp [msk, msk_len m l (by simpa using hl)]
  | [], _ :: _, hl => by simp at hl
  | _ :: _, [], hl => by simp at hl
theorem LR.msk {B : Nat} {ex : Nat → Nat} {nL : Nat} {lsA : Array Slot} {ls : List AV} (m : List Nat) (hm : m.length = nL) (h : LR B ex nL lsA ls) : LR B ex nL lsA (msk m ls) := by
  have hl : m.length = ls.length := by rw [hm, h.2.1]
  refine ⟨lv_has_of h.1 ?_, by rw [msk_len m ls hl, h.2.1], ?_⟩
  · intro q hq
    obtain ⟨j, v, h1, h2, rfl⟩ := (lo_mem _ 0 q).mp hq
    exact (lo_mem ls 0 _).mpr ⟨j, v, msk_get m ls hl j v h1 h2, h2, rfl⟩
  · intro v hv
    by_cases h3 : v.1 = 3
    · obtain ⟨t, x⟩ := v
      dsimp only at h3
      subst h3
      trivial
    · obtain ⟨j, hj⟩ := List.getElem?_of_mem hv
      exact h.2.2 v (List.mem_of_getElem? (msk_get m ls hl j v hj h3))
