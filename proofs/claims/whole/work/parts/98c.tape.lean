/-! THE TAPE IN PARTS, the class -/
theorem w64_of {x : Int} (h1 : -9223372036854775808 ≤ x) (h2 : x ≤ 9223372036854775807) : w64 x = x := by
  unfold w64
  rw [Int64.toInt_ofInt]
  simp only [Int.bmod, show ((Int64.size : Nat) : Int) = 18446744073709551616 from rfl]
  split <;> omega
theorem lmul_of {x y : Int} (h1 : -9223372036854775808 ≤ x * y) (h2 : x * y ≤ 9223372036854775807) : lmul x y = x * y := w64_of h1 h2
theorem lcmp_0 {x y : Int} : (lcmp x y = 0) ↔ x = y := by
  unfold lcmp
  split
  · omega
  · split
    · omega
    · omega
theorem w16_byte : ∀ c : Fin 256, w16 ((c.val : Nat) : Int) = ((c.val : Nat) : Int) := by decide +kernel
theorem w16_of {c : Int} (h0 : 0 ≤ c) (h1 : c ≤ 255) : w16 c = c := by
  obtain ⟨n, rfl⟩ := Int.eq_ofNat_of_zero_le h0
  exact w16_byte ⟨n, by omega⟩
theorem sg_byte : ∀ c : Fin 256, (idxOf ((c.val : Nat) : Int) (strB 2) 0 < 0) ↔ ¬ sgB ((c.val : Nat) : Int) = true := by decide +kernel
theorem sg_of {c : Int} (h0 : 0 ≤ c) (h1 : c ≤ 255) : (idxOf c (strB 2) 0 < 0) ↔ ¬ sgB c = true := by
  obtain ⟨n, rfl⟩ := Int.eq_ofNat_of_zero_le h0
  exact sg_byte ⟨n, by omega⟩
def addM (M : MEM) (t k a v : Int) : MEM := stm (stm (stm (stm M 30 t k) 31 t a) 32 t v) 27 6 (t + 1)
/-- the text -/
def TXC (M : MEM) (B : Int → Int) (z : Int) : Prop := M 27 1 = z ∧ (0 ≤ z ∧ z ≤ 1600) ∧ M 28 = B ∧ (∀ i : Nat, i < 18 → M 29 (i : Int) = kwL.getD i 0) ∧ ∀ i, 0 ≤ i → i < z → 0 ≤ B i ∧ B i ≤ 255
theorem TXC_of {M M' : MEM} {B : Int → Int} {z : Int} (h : TXC M B z) (e1 : M' 27 1 = M 27 1) (e2 : M' 28 = M 28) (e3 : M' 29 = M 29) : TXC M' B z := by
  unfold TXC at h ⊢
  rw [e1, e2, e3]
  exact h
theorem TXC_add {M : MEM} {B : Int → Int} {z t k a v : Int} (h : TXC M B z) : TXC (addM M t k a v) B z := TXC_of h (by unfold addM; rw [stm_neq (by omega), stm_neq (by omega), stm_neq (by omega), stm_neq (by omega)]) (by unfold addM; rw [stm_ne (by decide), stm_ne (by decide), stm_ne (by decide), stm_ne (by decide)]) (by unfold addM; rw [stm_ne (by decide), stm_ne (by decide), stm_ne (by decide), stm_ne (by decide)])
section
variable {B : Int → Int} {z a : Int}
theorem tk1_word {n : Nat} (az : a < z) (hl : ltB (B a) = true) (hrn : rn ltB B z a = a + (n : Int)) : tk1 B z a = if 8 < n then (0, a, 0, z) else if kwI (e32 B a n) < 0 then (3, a, e32 B a n, a + (n : Int)) else (2, a, kwI (e32 B a n), a + (n : Int)) := by
  unfold tk1
  rw [if_neg (by omega), if_pos hl, hrn, show a + (n : Int) - a = (n : Int) by omega, Int.toNat_natCast]
  by_cases h : 8 < n
  · rw [if_pos h, if_pos (by omega)]
  · rw [if_neg h, if_neg (by omega)]
theorem tk1_num {n : Nat} (az : a < z) (hl : ¬ ltB (B a) = true) (hd : dgB (B a) = true) (hrn : rn dgB B z a = a + (n : Int)) : tk1 B z a = if (a + (n : Int) < z ∧ ltB (B (a + (n : Int))) = true) ∨ 4 < n then (0, a, 0, z) else (4, a, nmF B a n, a + (n : Int)) := by
  unfold tk1
  rw [if_neg (by omega), if_neg hl, if_pos hd, hrn, show a + (n : Int) - a = (n : Int) by omega, Int.toNat_natCast]
  by_cases h : (a + (n : Int) < z ∧ ltB (B (a + (n : Int))) = true) ∨ 4 < n
  · rw [if_pos h, if_pos (h.imp id fun q => by omega)]
  · rw [if_neg h, if_neg fun g => h (g.imp id fun q => by omega)]
theorem kwI_is {x : Int} {i : Nat} (hi : i < 18) (he : kwL.getD i 0 = x) (hno : ∀ u : Nat, u < i → kwL.getD u 0 ≠ x) : kwI x = (i : Int) := by
  by_cases h : kwI x < 0
  · exact absurd he (kwI_no h i hi)
  · obtain ⟨j, j1, j2, j3, j4⟩ := kwI_at h
    by_cases h1 : j < i
    · exact absurd j3 (hno j h1)
    · by_cases h2 : i < j
      · exact absurd he (j4 i h2)
      · rw [j2, show j = i by omega]
theorem kwI_none {x : Int} (hno : ∀ u : Nat, u < 18 → kwL.getD u 0 ≠ x) : kwI x < 0 := by
  by_cases h : kwI x < 0
  · exact h
  · obtain ⟨j, j1, j2, j3, j4⟩ := kwI_at h
    exact absurd j3 (hno j j1)
end
section
variable {d : Nat} {R M : MEM} {B : Int → Int} {z a e t k v x y : Int} {Q : RES}
theorem c_isLetter (hq1 : ltB x = true → Q 1 SHX R M) (hq0 : ¬ ltB x = true → Q 0 SHX R M) : Mw d 89 [vi x] SHX R M 0 0 Q := by
  refine Mw_of mok89 rfl fun _ _ => b_X9_isLetter_0 ?_
  by_cases h1 : x < 97
  · rw [if_pos h1]; exact hq0 fun z => by have := ltB_iff.1 z; omega
  · rw [if_neg h1]
    by_cases h2 : 122 < x
    · rw [if_pos h2]; exact hq0 fun z => by have := ltB_iff.1 z; omega
    · rw [if_neg h2]; exact hq1 (ltB_iff.2 (by omega))
theorem c_isDigit (hq1 : dgB x = true → Q 1 SHX R M) (hq0 : ¬ dgB x = true → Q 0 SHX R M) : Mw d 90 [vi x] SHX R M 0 0 Q := by
  refine Mw_of mok90 rfl fun _ _ => b_X9_isDigit_0 ?_
  by_cases h1 : x < 48
  · rw [if_pos h1]; exact hq0 fun z => by have := dgB_iff.1 z; omega
  · rw [if_neg h1]
    by_cases h2 : 57 < x
    · rw [if_pos h2]; exact hq0 fun z => by have := dgB_iff.1 z; omega
    · rw [if_neg h2]; exact hq1 (dgB_iff.2 (by omega))
theorem c_add (hc : RC R) (ht : M 27 6 = t) (t0 : 0 ≤ t) (t1 : t ≤ 1600) (hq : Q 0 SHX R (addM M t k a v)) : Mw d 88 [vr 27, vi k, vi a, vl v] SHX R M 0 0 Q := by
  refine Mw_of mok88 rfl fun _ _ => b_X9_add_0 ?_
  rw [ok27, ht, if_neg (by omega)]
  have s1 : ∀ {x : Int}, stm M 30 t x 27 6 = t := fun {x} => by rw [stm_neq (by omega)]; exact ht
  have s2 : ∀ {x y : Int}, stm (stm M 30 t x) 31 t y 27 6 = t := fun {x y} => by rw [stm_neq (by omega)]; exact s1
  have s3 : ∀ {x y w : Int}, stm (stm (stm M 30 t x) 31 t y) 32 t w 27 6 = t := fun {x y w} => by rw [stm_neq (by omega)]; exact s2
  simp only [ok27, rc27_3 hc, rc27_4 hc, rc27_5 hc, ak30, ak31, ak32, s1, s2, s3]
  rw [iadd_of (by omega) (by omega)]
  exact ⟨t0, by omega, t0, by omega, t0, by omega, hq⟩
theorem c_partBad (hc : RC R) (hT : TXC M B z) (ht : M 27 6 = t) (t0 : 0 ≤ t) (t1 : t ≤ 1600) (hq : Q z SHX R (addM M t 0 a 0)) : Mw (d + 1) 87 [vr 27, vi a] SHX R M 0 0 Q := by
  refine Mw_of mok87 rfl fun _ _ => b_X9_partBad_0 ?_
  rw [ok27]
  refine c_add (d := d) hc ht t0 t1 ?_
  rw [ok27, (TXC_add hT).1]
  exact hq
theorem c_partWord (hc : RC R) (hT : TXC M B z) (ht : M 27 6 = t) (t0 : 0 ≤ t) (t1 : t ≤ 1600) (a0 : 0 ≤ a) (az : a < z) (hl : ltB (B a) = true) (hq : Q (tk1 B z a).2.2.2 SHX R (addM M t (tk1 B z a).1 a (tk1 B z a).2.2.1)) : Mw (d + 2) 85 [vr 27, vi a] SHX R M 0 0 Q := by
  obtain ⟨z1, z0, zB, zk, zb⟩ := hT
  refine Mw_of mok85 rfl fun _ _ => b_X9_partWord_0 ?_
  have L40 : ∀ (n : Nat), n ≤ 8 → rn ltB B z a = a + (n : Int) → ∀ i : Nat, i ≤ 18 → (∀ u : Nat, u < i → kwL.getD u 0 ≠ e32 B a n) → Go (d + 2) 85 Q 40 [vr 27, vi a, vi (a + (n : Int)), vl (e32 B a n), vn, vi (i : Int)] [] SHX R M 0 0 := by
    intro n n8 hrn
    have e := tk1_word az hl hrn
    rw [if_neg (by omega)] at e
    refine uptoN ?_ ?_
    · intro hno
      rw [if_pos (kwI_none hno)] at e
      rw [e] at hq
      refine b_X9_partWord_40 ?_
      rw [if_neg (by decide), ok27]
      exact c_add (d := d + 1) hc ht t0 t1 hq
    · intro i hi ih hno
      refine b_X9_partWord_40 ?_
      rw [if_pos (by omega), ok27, rc27_2 hc, ak29, zk i hi]
      refine ⟨by omega, by omega, ?_⟩
      by_cases he : kwL.getD i 0 = e32 B a n
      · have hk := kwI_is hi he hno
        rw [if_neg (by omega), hk] at e
        rw [e] at hq
        rw [if_pos (lcmp_0.2 he), ok27]
        exact c_add (d := d + 1) hc ht t0 t1 hq
      · rw [if_neg fun w => he (lcmp_0.1 w), iadd_of (by omega) (by omega), show (i : Int) + 1 = ((i + 1 : Nat) : Int) by omega]
        refine ih fun u hu => ?_
        by_cases hui : u = i
        · rw [hui]; exact he
        · exact hno u (by omega)
  have L6 : ∀ (r n : Nat), (z - (a + (n : Int))).toNat = r → a + (n : Int) ≤ z → LTR B a n → ∀ w, (n ≤ 8 → w = e32 B a n) → Go (d + 2) 85 Q 6 [vr 27, vi a, vi (a + (n : Int)), vl w, vn, vi (a + (n : Int))] [] SHX R M 0 0 := by
    intro r
    have stop : ∀ n : Nat, a + (n : Int) ≤ z → LTR B a n → (∀ w, (n ≤ 8 → w = e32 B a n) → ¬ (a + (n : Int) < z ∧ ltB (B (a + (n : Int))) = true) → ((8 < n → Q z SHX R (addM M t 0 a 0)) ∧ (¬ 8 < n → Go (d + 2) 85 Q 40 [vr 27, vi a, vi (a + (n : Int)), vl w, vn, vi 0] [] SHX R M 0 0))) := fun n hn hlr w hw hst => by
      have hrn : rn ltB B z a = a + (n : Int) := rn_is _ a rfl (by omega) (fun i i0 i1 => ⟨by omega, ltB_iff.2 (hlr i i0 i1)⟩) hst
      refine ⟨fun h8 => ?_, fun h8 => ?_⟩
      · have e := tk1_word az hl hrn
        rw [if_pos h8] at e
        rw [e] at hq
        exact hq
      · rw [hw (by omega)]
        exact L40 n (by omega) hrn 0 (by decide) fun u hu => by omega
    induction r with
    | zero =>
      intro n hr hn hlr w hw
      obtain ⟨s1, s2⟩ := stop n hn hlr w hw (by omega)
      refine b_X9_partWord_6 ?_
      rw [ok27, z1, if_neg (by omega), isub_of (by omega) (by omega)]
      by_cases h8 : 8 < n
      · rw [if_pos (by omega), ok27]
        exact c_partBad (d := d) hc ⟨z1, z0, zB, zk, zb⟩ ht t0 t1 (s1 h8)
      · rw [if_neg (by omega)]
        exact s2 h8
    | succ r ih =>
      intro n hr hn hlr w hw
      have bb := zb (a + (n : Int)) (by omega) (by omega)
      refine b_X9_partWord_6 ?_
      rw [ok27, z1, if_pos (by omega), ok27, rc27_0 hc, ak28, zB]
      refine ⟨by omega, by omega, c_isLetter (d := d + 1) (fun hlt _ => ?_) fun hlt _ => ?_⟩
      · have hb := ltB_iff.1 hlt
        rw [if_neg (by decide), ok27, rc27_0 hc, ak28, zB]
        refine ⟨by omega, by omega, Mw_of mok91 rfl fun _ _ => b_X9_withLetter_0 ?_⟩
        rw [iadd_of (x := a + (n : Int)) (by omega) (by omega), show a + (n : Int) + 1 = a + ((n + 1 : Nat) : Int) by omega]
        refine ih (n + 1) (by omega) (by omega) (fun i i0 i1 => ?_) _ fun n8 => ?_
        · by_cases hi : i = a + (n : Int)
          · rw [hi]; exact hb
          · exact hlr i i0 (by omega)
        · have b1 := e32_b n hlr
          have b2 := q5_8 n (by omega)
          rw [hw (by omega), lmul_of (by omega) (by omega), isub_of (by omega) (by omega), iadd_of (by omega) (by omega), ladd_of (by omega) (by omega)]
          show _ = e32 B a n * 32 + (B (a + (n : Int)) - 96)
          omega
      · obtain ⟨s1, s2⟩ := stop n hn hlr w hw fun q => hlt q.2
        rw [if_pos rfl, isub_of (by omega) (by omega)]
        by_cases h8 : 8 < n
        · rw [if_pos (by omega), ok27]
          exact c_partBad (d := d) hc ⟨z1, z0, zB, zk, zb⟩ ht t0 t1 (s1 h8)
        · rw [if_neg (by omega)]
          exact s2 h8
  have := L6 _ 0 rfl (by omega) (fun i i0 i1 => by omega) 0 fun _ => rfl
  rw [show a + ((0 : Nat) : Int) = a by omega] at this
  exact this
theorem c_partNumber (hc : RC R) (hT : TXC M B z) (ht : M 27 6 = t) (t0 : 0 ≤ t) (t1 : t ≤ 1600) (a0 : 0 ≤ a) (az : a < z) (hl : ¬ ltB (B a) = true) (hd : dgB (B a) = true) (hq : Q (tk1 B z a).2.2.2 SHX R (addM M t (tk1 B z a).1 a (tk1 B z a).2.2.1)) : Mw (d + 2) 86 [vr 27, vi a] SHX R M 0 0 Q := by
  have hT' := hT
  obtain ⟨z1, z0, zB, zk, zb⟩ := hT
  refine Mw_of mok86 rfl fun _ _ => b_X9_partNumber_0 ?_
  have L6 : ∀ (r n : Nat), (z - (a + (n : Int))).toNat = r → a + (n : Int) ≤ z → (∀ i, a ≤ i → i < a + (n : Int) → 48 ≤ B i ∧ B i ≤ 57) → ∀ w, (n ≤ 4 → w = nmF B a n) → Go (d + 2) 86 Q 6 [vr 27, vi a, vi (a + (n : Int)), vi w, vi (a + (n : Int))] [] SHX R M 0 0 := by
    intro r
    have stop : ∀ n : Nat, a + (n : Int) ≤ z → (∀ i, a ≤ i → i < a + (n : Int) → 48 ≤ B i ∧ B i ≤ 57) → (∀ w, (n ≤ 4 → w = nmF B a n) → ¬ (a + (n : Int) < z ∧ dgB (B (a + (n : Int))) = true) → (((a + (n : Int) < z ∧ ltB (B (a + (n : Int))) = true) ∨ 4 < n → Q z SHX R (addM M t 0 a 0)) ∧ (¬ ((a + (n : Int) < z ∧ ltB (B (a + (n : Int))) = true) ∨ 4 < n) → Q (a + (n : Int)) SHX R (addM M t 4 a w)))) := fun n hn hlr w hw hst => by
      have hrn : rn dgB B z a = a + (n : Int) := rn_is _ a rfl (by omega) (fun i i0 i1 => ⟨by omega, dgB_iff.2 (hlr i i0 i1)⟩) hst
      have e := tk1_num az hl hd hrn
      refine ⟨fun h8 => ?_, fun h8 => ?_⟩
      · rw [if_pos h8] at e
        rw [e] at hq
        exact hq
      · rw [if_neg h8] at e
        rw [e] at hq
        rw [hw (by omega)]
        exact hq
    induction r with
    | zero =>
      intro n hr hn hlr w hw
      obtain ⟨s1, s2⟩ := stop n hn hlr w hw (by omega)
      refine b_X9_partNumber_6 ?_
      rw [ok27, z1, if_neg (by omega), ok27, if_neg (by omega), isub_of (by omega) (by omega)]
      by_cases h8 : 4 < n
      · rw [if_pos (by omega), ok27]
        exact c_partBad (d := d) hc hT' ht t0 t1 (s1 (Or.inr h8))
      · rw [if_neg (by omega), ok27]
        exact c_add (d := d + 1) hc ht t0 t1 (s2 (by omega))
    | succ r ih =>
      intro n hr hn hlr w hw
      refine b_X9_partNumber_6 ?_
      rw [ok27, z1, if_pos (by omega), ok27, rc27_0 hc, ak28, zB]
      refine ⟨by omega, by omega, c_isDigit (d := d + 1) (fun hdg _ => ?_) fun hdg _ => ?_⟩
      · have hb := dgB_iff.1 hdg
        rw [if_neg (by decide), ok27, rc27_0 hc, ak28, zB]
        rw [iadd_of (x := a + (n : Int)) (by omega) (by omega), show a + (n : Int) + 1 = a + ((n + 1 : Nat) : Int) by omega]
        refine ⟨by omega, by omega, ih (n + 1) (by omega) (by omega) (fun i i0 i1 => ?_) _ fun n4 => ?_⟩
        · by_cases hi : i = a + (n : Int)
          · rw [hi]; exact hb
          · exact hlr i i0 (by omega)
        · have b1 := nm_4 (a := a) (B := B) (n := n) (by omega) hlr
          rw [hw (by omega), imul_of (by omega) (by omega), isub_of (by omega) (by omega), iadd_of (by omega) (by omega)]
          rfl
      · obtain ⟨s1, s2⟩ := stop n hn hlr w hw fun q => hdg q.2
        rw [if_pos rfl, ok27, z1, if_pos (by omega), ok27, rc27_0 hc, ak28, zB]
        refine ⟨by omega, by omega, c_isLetter (d := d + 1) (fun hlt _ => ?_) fun hlt _ => ?_⟩
        · rw [if_neg (by decide), ok27]
          exact c_partBad (d := d) hc hT' ht t0 t1 (s1 (Or.inl ⟨by omega, hlt⟩))
        · rw [if_pos rfl, isub_of (by omega) (by omega)]
          by_cases h8 : 4 < n
          · rw [if_pos (by omega), ok27]
            exact c_partBad (d := d) hc hT' ht t0 t1 (s1 (Or.inr h8))
          · rw [if_neg (by omega), ok27]
            exact c_add (d := d + 1) hc ht t0 t1 (s2 fun q => by rcases q with q | q; exact hlt q.2; omega)
  have := L6 _ 0 rfl (by omega) (fun i i0 i1 => by omega) 0 fun _ => rfl
  rw [show a + ((0 : Nat) : Int) = a by omega] at this
  exact this
theorem c_partOne (hc : RC R) (hT : TXC M B z) (ht : M 27 6 = t) (t0 : 0 ≤ t) (t1 : t ≤ 1600) (a0 : 0 ≤ a) (az : a < z) (hq0 : bkB (B a) = true → Q (a + 1) SHX R M) (hq1 : ¬ bkB (B a) = true → Q (tk1 B z a).2.2.2 SHX R (addM M t (tk1 B z a).1 a (tk1 B z a).2.2.1)) : Mw (d + 3) 84 [vr 27, vi a] SHX R M 0 0 Q := by
  have hT' := hT
  obtain ⟨z1, z0, zB, zk, zb⟩ := hT
  have bb := zb a a0 az
  refine Mw_of mok84 rfl fun _ _ => b_X9_partOne_0 ?_
  rw [ok27, rc27_0 hc, ak28, zB, iadd_of (x := a) (by omega) (by omega)]
  refine ⟨a0, by omega, ?_⟩
  by_cases h1 : B a = 32
  · rw [if_pos h1]; exact hq0 (bkB_iff.2 (Or.inl h1))
  · rw [if_neg h1]
    by_cases h2 : B a = 10
    · rw [if_pos h2]; exact hq0 (bkB_iff.2 (Or.inr h2))
    · rw [if_neg h2]
      have hq := hq1 fun q => by have := bkB_iff.1 q; omega
      refine c_isLetter (d := d + 2) (fun hl _ => ?_) fun hl _ => ?_
      · rw [if_neg (by decide), ok27]
        exact c_partWord (d := d) hc hT' ht t0 t1 a0 az hl hq
      · rw [if_pos rfl]
        refine c_isDigit (d := d + 2) (fun hdg _ => ?_) fun hdg _ => ?_
        · rw [if_neg (by decide), ok27]
          exact c_partNumber (d := d) hc hT' ht t0 t1 a0 az hl hdg hq
        · rw [if_pos rfl, w16_of bb.1 bb.2]
          have e : tk1 B z a = if sgB (B a) = true then (5, a, B a, a + 1) else (0, a, 0, z) := by
            unfold tk1
            rw [if_neg (by omega), if_neg hl, if_neg hdg]
          by_cases hs : sgB (B a) = true
          · rw [if_pos hs] at e
            rw [e] at hq
            rw [if_neg fun q => (sg_of bb.1 bb.2).1 q hs, ok27]
            exact c_add (d := d + 2) hc ht t0 t1 hq
          · rw [if_neg hs] at e
            rw [e] at hq
            rw [if_pos ((sg_of bb.1 bb.2).2 hs), ok27]
            exact c_partBad (d := d + 1) hc hT' ht t0 t1 hq
end
