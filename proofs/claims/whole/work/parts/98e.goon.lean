/-! THE LEXER, the reference -/
def MTX (X : MEM) (B : Int → Int) (z : Int) : Prop := X 364 3 = z ∧ (0 ≤ z ∧ z ≤ 1600) ∧ ∀ i, 0 ≤ i → i < z → iand (X 366 i) 255 = B i ∧ 0 ≤ B i ∧ B i ≤ 255
/-- the reference stands at token k -/
def MTk (X : MEM) (B : Int → Int) (z : Int) (k : Nat) : Prop := X 364 8 = km (tkd B z k) ∧ X 364 6 = tpl B z k ∧ (tkd B z k ≠ 0 → X 364 7 = pos B z (k + 1)) ∧ (tkd B z k = 2 ∨ tkd B z k = 3 → X 364 10 = cvw (twd B z k)) ∧ (tkd B z k = 4 → X 364 9 = tvl B z k)
def FM5 (X X' : MEM) : Prop := (∀ q, q ≠ 364 → X' q = X q) ∧ ∀ j, j < 6 ∨ 10 < j → X' 364 j = X 364 j
theorem lshl_8 {x : Int} (h0 : 0 ≤ x) (h1 : x ≤ 36028797018963967) : lshl x 8 = x * 256 := by
  obtain ⟨n, rfl⟩ := Int.eq_ofNat_of_zero_le h0
  have e : (Int64.ofInt (n : Int)).toBitVec.toNat = n := by
    show (BitVec.ofInt 64 (n : Int)).toNat = n
    rw [BitVec.toNat_ofInt]
    show ((n : Int) % 18446744073709551616).toNat = n
    omega
  have hs : (((Int32.ofInt 8).toInt64 &&& 63).toBitVec.smod 64).toNat = 8 := by decide +kernel
  show BitVec.toInt ((Int64.ofInt (n : Int)).toBitVec <<< (((Int32.ofInt 8).toInt64 &&& 63).toBitVec.smod 64)) = _
  have e2 : ((Int64.ofInt (n : Int)).toBitVec <<< (((Int32.ofInt 8).toInt64 &&& 63).toBitVec.smod 64)).toNat = n * 256 := by
    rw [BitVec.shiftLeft_eq', BitVec.toNat_shiftLeft, e, hs, Nat.shiftLeft_eq]
    show n * 256 % 18446744073709551616 = n * 256
    omega
  rw [BitVec.toInt_eq_toNat_of_lt (by rw [e2]; omega), e2]
  omega
theorem lor_add {x c : Int} (h0 : 0 ≤ x) (h1 : x ≤ 36028797018963967) (c0 : 0 ≤ c) (c1 : c ≤ 255) : lor (x * 256) c = x * 256 + c := by
  obtain ⟨n, rfl⟩ := Int.eq_ofNat_of_zero_le h0
  obtain ⟨m, rfl⟩ := Int.eq_ofNat_of_zero_le c0
  have bv : ∀ w : Nat, w < 9223372036854775808 → (Int64.ofInt (w : Int)).toBitVec.toNat = w := fun w hw => by
    show (BitVec.ofInt 64 (w : Int)).toNat = w
    rw [BitVec.toNat_ofInt]
    show ((w : Int) % 18446744073709551616).toNat = w
    omega
  have e2 : ((Int64.ofInt ((n : Int) * 256)).toBitVec ||| (Int64.ofInt (m : Int)).toBitVec).toNat = n * 256 + m := by
    rw [BitVec.toNat_or, show (n : Int) * 256 = ((n * 256 : Nat) : Int) by omega, bv _ (by omega), bv _ (by omega), Nat.mul_comm, show (256 : Nat) = 2 ^ 8 from rfl, ← Nat.two_pow_add_eq_or_of_lt (by omega)]
  show BitVec.toInt (Int64.toBitVec (Int64.ofInt ((n : Int) * 256) ||| Int64.ofInt (m : Int))) = _
  rw [Int64.toBitVec_or, BitVec.toInt_eq_toNat_of_lt (by rw [e2]; omega), e2]
  omega
section
variable {d : Nat} {R X Y : MEM} {B : Int → Int} {z a e t v x y i : Int} {k : Nat} {Q : RES}
theorem MTX_of (h : MTX X B z) (e3 : Y 364 3 = X 364 3) (e : Y 366 = X 366) : MTX Y B z := by
  unfold MTX at h ⊢
  rw [e3, e]
  exact h
theorem FM5_tr {W : MEM} (h : FM5 X Y) (g : FM5 Y W) : FM5 X W := ⟨fun q hq => (g.1 q hq).trans (h.1 q hq), fun j hj => (g.2 j hj).trans (h.2 j hj)⟩
theorem FM5_stm {j : Int} (h : FM5 X Y) (hj : 6 ≤ j ∧ j ≤ 10) : FM5 X (stm Y 364 j v) := ⟨fun q hq => by rw [stm_ne hq, h.1 q hq], fun i hi => by rw [stm_neq (by omega), h.2 i hi]⟩
theorem MTX_5 (h : MTX X B z) (f : FM5 X Y) : MTX Y B z := MTX_of h (f.2 3 (by omega)) (f.1 366 (by decide))
/-- the byte, none behind the end -/
def bS (B : Int → Int) (z i : Int) : Int := if i < z then B i else 0
theorem m_sign (hR : RM R) (hT : MTX X B z) (i0 : 0 ≤ i) (hq : Q (bS B z i) SHX R X) : Mw d 153 [vr 364, vi i] SHX R X 0 0 Q := by
  obtain ⟨h3, hz, hb⟩ := hT
  unfold bS at hq
  refine Mw_of mok153 rfl fun _ _ => b_X12_sign_0 ?_
  rw [ok364, h3]
  by_cases h : i < z
  · rw [if_pos h] at hq ⊢
    rw [ok364, fr1 hR, ak366, (hb i i0 h).1]
    exact ⟨i0, by omega, hq⟩
  · rw [if_neg h] at hq ⊢
    exact hq
theorem m_isLetter (hq1 : ltB x = true → Q 1 SHX R X) (hq0 : ¬ ltB x = true → Q 0 SHX R X) : Mw d 154 [vi x] SHX R X 0 0 Q := by
  refine Mw_of mok154 rfl fun _ _ => b_X12_isLetter_0 ?_
  by_cases h1 : x < 97
  · rw [if_pos h1]; exact hq0 fun z => by have := ltB_iff.1 z; omega
  · rw [if_neg h1]
    by_cases h2 : 122 < x
    · rw [if_pos h2]; exact hq0 fun z => by have := ltB_iff.1 z; omega
    · rw [if_neg h2]; exact hq1 (ltB_iff.2 (by omega))
theorem m_isDigit (hq1 : dgB x = true → Q 1 SHX R X) (hq0 : ¬ dgB x = true → Q 0 SHX R X) : Mw d 155 [vi x] SHX R X 0 0 Q := by
  refine Mw_of mok155 rfl fun _ _ => b_X12_isDigit_0 ?_
  by_cases h1 : x < 48
  · rw [if_pos h1]; exact hq0 fun z => by have := dgB_iff.1 z; omega
  · rw [if_neg h1]
    by_cases h2 : 57 < x
    · rw [if_pos h2]; exact hq0 fun z => by have := dgB_iff.1 z; omega
    · rw [if_neg h2]; exact hq1 (dgB_iff.2 (by omega))
theorem m_isSign (hq1 : sgB x = true → Q 1 SHX R X) (hq0 : ¬ sgB x = true → Q 0 SHX R X) : Mw d 159 [vi x] SHX R X 0 0 Q := by
  refine Mw_of mok159 rfl fun _ _ => b_X12_isSign_0 ?_
  by_cases hs : sgB x = true
  · have h := sgB_iff.1 hs
    have g := hq1 hs
    repeat' split
    all_goals first | exact g | omega
  · have h : ∀ c, (c = 59 ∨ c = 40 ∨ c = 41 ∨ c = 60 ∨ c = 62 ∨ c = 61 ∨ c = 43 ∨ c = 45 ∨ c = 42 ∨ c = 47 ∨ c = 37) → x ≠ c := fun c hc e => hs (sgB_iff.2 (e ▸ hc))
    rw [if_neg (h 59 (by decide)), if_neg (h 40 (by decide)), if_neg (h 41 (by decide)), if_neg (h 60 (by decide)), if_neg (h 62 (by decide)), if_neg (h 61 (by decide)), if_neg (h 43 (by decide)), if_neg (h 45 (by decide)), if_neg (h 42 (by decide)), if_neg (h 47 (by decide)), if_neg (h 37 (by decide))]
    exact hq0 hs
theorem m_isKept (hq1 : (∃ i : Nat, i < 18 ∧ cvw (kwL.getD i 0) = x) → Q 1 SHX R X) (hq0 : (∀ i : Nat, i < 18 → cvw (kwL.getD i 0) ≠ x) → Q 0 SHX R X) : Mw d 158 [vl x] SHX R X 0 0 Q := by
  refine Mw_of mok158 rfl fun _ _ => b_X12_isKept_0 ?_
  by_cases h0 : x = 495873782388
  · rw [if_pos (lcmp_0.2 h0)]; exact hq1 ⟨0, by decide, by rw [h0]; decide⟩
  rw [if_neg fun q => h0 (lcmp_0.1 q)]
  by_cases h1 : x = 1785686382
  · rw [if_pos (lcmp_0.2 h1)]; exact hq1 ⟨1, by decide, by rw [h1]; decide⟩
  rw [if_neg fun q => h1 (lcmp_0.1 q)]
  by_cases h2 : x = 495807392116
  · rw [if_pos (lcmp_0.2 h2)]; exact hq1 ⟨2, by decide, by rw [h2]; decide⟩
  rw [if_neg fun q => h2 (lcmp_0.1 q)]
  by_cases h3 : x = 7300196
  · rw [if_pos (lcmp_0.2 h3)]; exact hq1 ⟨3, by decide, by rw [h3]; decide⟩
  rw [if_neg fun q => h3 (lcmp_0.1 q)]
  by_cases h4 : x = 1685418859
  · rw [if_pos (lcmp_0.2 h4)]; exact hq1 ⟨4, by decide, by rw [h4]; decide⟩
  rw [if_neg fun q => h4 (lcmp_0.1 q)]
  by_cases h5 : x = 1886350948
  · rw [if_pos (lcmp_0.2 h5)]; exact hq1 ⟨5, by decide, by rw [h5]; decide⟩
  rw [if_neg fun q => h5 (lcmp_0.1 q)]
  by_cases h6 : x = 6713208
  · rw [if_pos (lcmp_0.2 h6)]; exact hq1 ⟨6, by decide, by rw [h6]; decide⟩
  rw [if_neg fun q => h6 (lcmp_0.1 q)]
  by_cases h7 : x = 422826041700
  · rw [if_pos (lcmp_0.2 h7)]; exact hq1 ⟨7, by decide, by rw [h7]; decide⟩
  rw [if_neg fun q => h7 (lcmp_0.1 q)]
  by_cases h8 : x = 2003398244
  · rw [if_pos (lcmp_0.2 h8)]; exact hq1 ⟨8, by decide, by rw [h8]; decide⟩
  rw [if_neg fun q => h8 (lcmp_0.1 q)]
  by_cases h9 : x = 7823737
  · rw [if_pos (lcmp_0.2 h9)]; exact hq1 ⟨9, by decide, by rw [h9]; decide⟩
  rw [if_neg fun q => h9 (lcmp_0.1 q)]
  by_cases h12 : x = 29807
  · rw [if_pos (lcmp_0.2 h12)]; exact hq1 ⟨12, by decide, by rw [h12]; decide⟩
  rw [if_neg fun q => h12 (lcmp_0.1 q)]
  by_cases h13 : x = 26990
  · rw [if_pos (lcmp_0.2 h13)]; exact hq1 ⟨13, by decide, by rw [h13]; decide⟩
  rw [if_neg fun q => h13 (lcmp_0.1 q)]
  by_cases h10 : x = 427020085613
  · rw [if_pos (lcmp_0.2 h10)]; exact hq1 ⟨10, by decide, by rw [h10]; decide⟩
  rw [if_neg fun q => h10 (lcmp_0.1 q)]
  by_cases h14 : x = 24948
  · rw [if_pos (lcmp_0.2 h14)]; exact hq1 ⟨14, by decide, by rw [h14]; decide⟩
  rw [if_neg fun q => h14 (lcmp_0.1 q)]
  by_cases h11 : x = 1685217655
  · rw [if_pos (lcmp_0.2 h11)]; exact hq1 ⟨11, by decide, by rw [h11]; decide⟩
  rw [if_neg fun q => h11 (lcmp_0.1 q)]
  by_cases h15 : x = 28530
  · rw [if_pos (lcmp_0.2 h15)]; exact hq1 ⟨15, by decide, by rw [h15]; decide⟩
  rw [if_neg fun q => h15 (lcmp_0.1 q)]
  by_cases h16 : x = 6385252
  · rw [if_pos (lcmp_0.2 h16)]; exact hq1 ⟨16, by decide, by rw [h16]; decide⟩
  rw [if_neg fun q => h16 (lcmp_0.1 q)]
  by_cases h17 : x = 7237492
  · rw [if_pos (lcmp_0.2 h17)]; exact hq1 ⟨17, by decide, by rw [h17]; decide⟩
  rw [if_neg fun q => h17 (lcmp_0.1 q)]
  exact hq0 fun i hi => by
    match i, hi with
    | 0, _ => exact fun q => h0 (by rw [← q]; decide)
    | 1, _ => exact fun q => h1 (by rw [← q]; decide)
    | 2, _ => exact fun q => h2 (by rw [← q]; decide)
    | 3, _ => exact fun q => h3 (by rw [← q]; decide)
    | 4, _ => exact fun q => h4 (by rw [← q]; decide)
    | 5, _ => exact fun q => h5 (by rw [← q]; decide)
    | 6, _ => exact fun q => h6 (by rw [← q]; decide)
    | 7, _ => exact fun q => h7 (by rw [← q]; decide)
    | 8, _ => exact fun q => h8 (by rw [← q]; decide)
    | 9, _ => exact fun q => h9 (by rw [← q]; decide)
    | 10, _ => exact fun q => h10 (by rw [← q]; decide)
    | 11, _ => exact fun q => h11 (by rw [← q]; decide)
    | 12, _ => exact fun q => h12 (by rw [← q]; decide)
    | 13, _ => exact fun q => h13 (by rw [← q]; decide)
    | 14, _ => exact fun q => h14 (by rw [← q]; decide)
    | 15, _ => exact fun q => h15 (by rw [← q]; decide)
    | 16, _ => exact fun q => h16 (by rw [← q]; decide)
    | 17, _ => exact fun q => h17 (by rw [← q]; decide)
    | i + 18, hi => omega
theorem km_0 {x : Int} : km x = 1 ↔ x = 0 := by
  unfold km
  repeat' split
  all_goals omega
theorem m_word {n : Nat} (hR : RM R) (hT : MTX Y B z) (az : a < z) (a0 : 0 ≤ a) (hl : ltB (B a) = true) (hrn : rn ltB B z a = a + (n : Int)) (hlr : LTR B a n) (ht : tok B z k = tk1 B z a) (h6 : Y 364 6 = a) (h7 : Y 364 7 = a + (n : Int)) (nz : a + (n : Int) ≤ z) (hq : ∀ X', MTk X' B z k → FM5 Y X' → Q 0 SHX R X') : Go (d + 1) 160 Q 78 [vr 364, vn, vi a] [] SHX R (stm Y 364 10 0) 0 0 := by
  have hz := hT.2.1
  have e := tk1_word az hl hrn
  rw [← ht] at e
  have fin : ∀ W : MEM, W 364 6 = a → W 364 7 = a + (n : Int) → FM5 Y W → (n ≤ 8 → W 364 10 = e56 B a n) → (8 < n → Q 0 SHX R (stm W 364 8 1)) ∧ (¬ 8 < n → Cd (d + 1) 158 [vl (W 364 10)] SHX R W 0 0 (fun (x1 : Int) (sh1 : SHP) (R1 M1 : MEM) => (x1 = 0 ∨ x1 = 1) → (if x1 = 0 then ook sh1 12 364 (Q 0 sh1 R1 (stm M1 364 8 2)) else ook sh1 12 364 (Q 0 sh1 R1 (stm M1 364 8 3))))) := fun W w6 w7 fW w10 => by
    refine ⟨fun h8 => ?_, fun h8 => ?_⟩
    · rw [if_pos h8] at e
      have e1 : tkd B z k = 0 := by show (tok B z k).1 = 0; rw [e]
      have e2 : tpl B z k = a := by show (tok B z k).2.1 = a; rw [e]
      refine hq _ ⟨?_, ?_, fun q => absurd e1 q, fun q => by omega, fun q => by omega⟩ (FM5_stm fW (by omega))
      · rw [stm_hit, e1]; rfl
      · rw [stm_neq (by omega), w6, e2]
    · rw [if_neg h8] at e
      have hw := w10 (by omega)
      have cve := cv_e32 8 n (by omega) hlr
      have vw := VWd_e (show n ≤ 8 by omega) hlr
      rw [hw]
      by_cases hk : kwI (e32 B a n) < 0
      · rw [if_pos hk] at e
        have e1 : tkd B z k = 3 := by show (tok B z k).1 = 3; rw [e]
        have e2 : tpl B z k = a := by show (tok B z k).2.1 = a; rw [e]
        have e3 : tvl B z k = e32 B a n := by show (tok B z k).2.2.1 = _; rw [e]
        have e4 : pos B z (k + 1) = a + (n : Int) := by rw [pos_s, e]
        refine m_isKept (d := d) (fun h => ?_) fun h _ => ?_
        · obtain ⟨i, i1, i2⟩ := h
          rw [← cve] at i2
          exact absurd ((cv_inj (VWd_kw ⟨i, i1⟩) vw).1 i2) (kwI_no hk i i1)
        · rw [if_pos rfl, ok364]
          refine hq _ ⟨?_, ?_, fun _ => ?_, fun _ => ?_, fun q => by omega⟩ (FM5_stm fW (by omega))
          · rw [stm_hit, e1]; rfl
          · rw [stm_neq (by omega), w6, e2]
          · rw [stm_neq (by omega), w7, e4]
          · rw [stm_neq (by omega), hw]
            unfold twd
            rw [if_neg (by omega), e3, ← cve]
      · rw [if_neg hk] at e
        obtain ⟨j, j1, j2, j3, _⟩ := kwI_at hk
        have e1 : tkd B z k = 2 := by show (tok B z k).1 = 2; rw [e]
        have e2 : tpl B z k = a := by show (tok B z k).2.1 = a; rw [e]
        have e3 : tvl B z k = (j : Int) := by show (tok B z k).2.2.1 = _; rw [e]; exact j2
        have e4 : pos B z (k + 1) = a + (n : Int) := by rw [pos_s, e]
        refine m_isKept (d := d) (fun h _ => ?_) fun h => ?_
        · rw [if_neg (by decide), ok364]
          refine hq _ ⟨?_, ?_, fun _ => ?_, fun _ => ?_, fun q => by omega⟩ (FM5_stm fW (by omega))
          · rw [stm_hit, e1]; rfl
          · rw [stm_neq (by omega), w6, e2]
          · rw [stm_neq (by omega), w7, e4]
          · rw [stm_neq (by omega), hw]
            unfold twd
            rw [if_pos e1, e3, Int.toNat_natCast, j3, ← cve]
        · exact absurd (by rw [j3]; exact cve) (h j j1)
  have L78 : ∀ (r m : Nat), n - m = r → m ≤ n → m ≤ 8 → ∀ W : MEM, W 364 6 = a → W 364 7 = a + (n : Int) → FM5 Y W → W 364 10 = e56 B a m → Go (d + 1) 160 Q 78 [vr 364, vn, vi (a + (m : Int))] [] SHX R W 0 0 := by
    intro r
    induction r with
    | zero =>
      intro m hr mn m8 W w6 w7 fW w10
      have hmn : m = n := by omega
      subst hmn
      obtain ⟨s1, s2⟩ := fin W w6 w7 fW fun _ => w10
      refine b_X12_goOn_78 ?_
      rw [ok364, w7, if_neg (by omega), ok364, ok364, w6, isub_of (by omega) (by omega), if_neg (by omega), ok364]
      exact s2 (by omega)
    | succ r ih =>
      intro m hr mn m8 W w6 w7 fW w10
      refine b_X12_goOn_78 ?_
      rw [ok364, w7, if_pos (by omega), ok364, w6, iadd_of (x := a) (by omega) (by omega)]
      by_cases h8 : m = 8
      · subst h8
        obtain ⟨s1, s2⟩ := fin W w6 w7 fW fun q => by omega
        rw [if_neg (by omega), ok364, ok364, isub_of (by omega) (by omega), if_pos (by omega), ok364]
        exact s1 (by omega)
      · rw [if_pos (by omega), ok364, ok364]
        refine m_sign (d := d) hR (MTX_5 hT fW) (by omega) ?_
        have hb := hlr (a + (m : Int)) (by omega) (by omega)
        have b1 := e56_b m fun i i0 i1 => hlr i i0 (by omega)
        have b2 := q8_7 m (by omega)
        rw [ok364, w10, iadd_of (x := a + (m : Int)) (by omega) (by omega), show a + (m : Int) + 1 = a + ((m + 1 : Nat) : Int) by omega]
        have ebs : bS B z (a + (m : Int)) = B (a + (m : Int)) := if_pos (by omega)
        rw [ebs, lshl_8 b1.1 (by omega), lor_add b1.1 (by omega) (by omega) (by omega)]
        exact ih (m + 1) (by omega) (by omega) (by omega) _ (by rw [stm_neq (by omega)]; exact w6) (by rw [stm_neq (by omega)]; exact w7) (FM5_stm fW (by omega)) (by rw [stm_hit]; rfl)
  have := L78 _ 0 rfl (Nat.zero_le _) (by decide) (stm Y 364 10 0) (by rw [stm_neq (by omega)]; exact h6) (by rw [stm_neq (by omega)]; exact h7) (FM5_stm ⟨fun _ _ => rfl, fun _ _ => rfl⟩ (by omega)) (stm_hit _ _ _ _)
  rw [show a + ((0 : Nat) : Int) = a by omega] at this
  exact this
theorem m_letters (hR : RM R) (hT : MTX Y B z) (az : a < z) (a0 : 0 ≤ a) (hl : ltB (B a) = true) (ht : tok B z k = tk1 B z a) : ∀ (r n : Nat) (W : MEM), (z - (a + (n : Int))).toNat = r → a + (n : Int) ≤ z → LTR B a n → W 364 6 = a → W 364 7 = a + (n : Int) → FM5 Y W → (∀ X', MTk X' B z k → FM5 Y X' → Q 0 SHX R X') → Go (d + 1) 160 Q 59 [vr 364, vn, vn] [] SHX R W 0 0
  | r, n, W, hr, hn, hlr, w6, w7, fW, hq => by
    have hz := hT.2.1
    refine b_X12_goOn_59 ?_
    rw [ok364, ok364, w7]
    refine m_sign (d := d) hR (MTX_5 hT fW) (by omega) ?_
    refine m_isLetter (d := d) (fun h _ => ?_) fun h _ => ?_
    · rw [if_neg (by decide), ok364, ok364, w7, iadd_of (by omega) (by omega), show a + (n : Int) + 1 = a + ((n + 1 : Nat) : Int) by omega]
      have hlt : a + (n : Int) < z := by
        by_cases hc : a + (n : Int) < z
        · exact hc
        · have : bS B z (a + (n : Int)) = 0 := if_neg hc
          rw [this] at h
          exact absurd h (by decide)
      have ebs : bS B z (a + (n : Int)) = B (a + (n : Int)) := if_pos hlt
      rw [ebs] at h
      match r, hr with
      | 0, hr => omega
      | r + 1, hr =>
        refine m_letters hR hT az a0 hl ht r (n + 1) _ (by omega) (by omega) (fun i i0 i1 => ?_) (by rw [stm_neq (by omega)]; exact w6) (stm_hit _ _ _ _) (FM5_stm fW (by omega)) hq
        by_cases hi : i = a + (n : Int)
        · rw [hi]; exact ltB_iff.1 h
        · exact hlr i i0 (by omega)
    · rw [if_pos rfl, ok364, ok364]
      have hst : ¬ (a + (n : Int) < z ∧ ltB (B (a + (n : Int))) = true) := fun q => by
        have ebs : bS B z (a + (n : Int)) = B (a + (n : Int)) := if_pos q.1
        rw [ebs] at h
        exact h q.2
      have hrn : rn ltB B z a = a + (n : Int) := rn_is _ a rfl (by omega) (fun i i0 i1 => ⟨by omega, ltB_iff.2 (hlr i i0 i1)⟩) hst
      have e6 : stm W 364 10 0 364 6 = a := by rw [stm_neq (by omega)]; exact w6
      rw [e6]
      exact m_word hR (MTX_5 hT fW) az a0 hl hrn hlr ht w6 w7 hn fun X' h1 h2 => hq X' h1 (FM5_tr fW h2)
theorem m_digits (hR : RM R) (hT : MTX Y B z) (az : a < z) (a0 : 0 ≤ a) (hl : ¬ ltB (B a) = true) (hd : dgB (B a) = true) (ht : tok B z k = tk1 B z a) : ∀ (r n : Nat) (W : MEM), (z - (a + (n : Int))).toNat = r → a + (n : Int) ≤ z → (∀ i, a ≤ i → i < a + (n : Int) → 48 ≤ B i ∧ B i ≤ 57) → W 364 6 = a → W 364 7 = a + (n : Int) → (n ≤ 4 → W 364 9 = nmF B a n) → FM5 Y W → (∀ X', MTk X' B z k → FM5 Y X' → Q 0 SHX R X') → Go (d + 1) 160 Q 130 [vr 364, vn, vn] [] SHX R W 0 0
  | r, n, W, hr, hn, hlr, w6, w7, w9, fW, hq => by
    have hz := hT.2.1
    refine b_X12_goOn_130 ?_
    rw [ok364, ok364, w7]
    refine m_sign (d := d) hR (MTX_5 hT fW) (by omega) ?_
    refine m_isDigit (d := d) (fun h _ => ?_) fun h _ => ?_
    · rw [if_neg (by decide), ok364, ok364, w7, w6, isub_of (by omega) (by omega)]
      have hlt : a + (n : Int) < z := by
        by_cases hc : a + (n : Int) < z
        · exact hc
        · have : bS B z (a + (n : Int)) = 0 := if_neg hc
          rw [this] at h
          exact absurd h (by decide)
      have ebs : bS B z (a + (n : Int)) = B (a + (n : Int)) := if_pos hlt
      rw [ebs] at h
      have hb := dgB_iff.1 h
      have hlr' : ∀ i, a ≤ i → i < a + ((n + 1 : Nat) : Int) → 48 ≤ B i ∧ B i ≤ 57 := fun i i0 i1 => by
        by_cases hi : i = a + (n : Int)
        · rw [hi]; exact hb
        · exact hlr i i0 (by omega)
      match r, hr with
      | 0, hr => omega
      | r + 1, hr =>
        by_cases h4 : a + (n : Int) - a < 4
        · rw [if_pos h4, ok364, ok364, ok364]
          refine m_sign (d := d) hR (MTX_5 hT fW) (by omega) ?_
          have b1 := nm_4 (a := a) (B := B) (n := n) (by omega) hlr
          have w9' := w9 (by omega)
          simp (disch := omega) only [ok364, stm_neq, w7, w9', ebs, imul_of, iadd_of, isub_of]
          refine m_digits hR hT az a0 hl hd ht r (n + 1) _ (by omega) (by omega) hlr' (by simp (disch := omega) only [stm_neq]; exact w6) (by rw [stm_hit]; omega) (fun n4 => ?_) (FM5_stm (FM5_stm fW (by omega)) (by omega)) hq
          rw [stm_neq (by omega), stm_hit]
          show _ = nmF B a n * 10 + (B (a + (n : Int)) - 48)
          omega
        · rw [if_neg h4, ok364, ok364, iadd_of (by omega) (by omega), show a + (n : Int) + 1 = a + ((n + 1 : Nat) : Int) by omega]
          exact m_digits hR hT az a0 hl hd ht r (n + 1) _ (by omega) (by omega) hlr' (by rw [stm_neq (by omega)]; exact w6) (stm_hit _ _ _ _) (fun n4 => by omega) (FM5_stm fW (by omega)) hq
    · have hst : ¬ (a + (n : Int) < z ∧ dgB (B (a + (n : Int))) = true) := fun q => by
        have ebs : bS B z (a + (n : Int)) = B (a + (n : Int)) := if_pos q.1
        rw [ebs] at h
        exact h q.2
      have hrn : rn dgB B z a = a + (n : Int) := rn_is _ a rfl (by omega) (fun i i0 i1 => ⟨by omega, dgB_iff.2 (hlr i i0 i1)⟩) hst
      have e := tk1_num az hl hd hrn
      rw [← ht] at e
      have bad : ((a + (n : Int) < z ∧ ltB (B (a + (n : Int))) = true) ∨ 4 < n) → Q 0 SHX R (stm W 364 8 1) := fun hb => by
        rw [if_pos hb] at e
        have e1 : tkd B z k = 0 := by show (tok B z k).1 = 0; rw [e]
        have e2 : tpl B z k = a := by show (tok B z k).2.1 = a; rw [e]
        refine hq _ ⟨?_, ?_, fun q => absurd e1 q, fun q => by omega, fun q => by omega⟩ (FM5_stm fW (by omega))
        · rw [stm_hit, e1]; rfl
        · rw [stm_neq (by omega), w6, e2]
      rw [if_pos rfl, ok364, ok364, w7, w6, isub_of (by omega) (by omega)]
      by_cases h4 : 4 < a + (n : Int) - a
      · rw [if_pos h4, ok364]
        exact bad (Or.inr (by omega))
      · rw [if_neg h4, ok364, ok364]
        refine m_sign (d := d) hR (MTX_5 hT fW) (by omega) ?_
        refine m_isLetter (d := d) (fun h2 _ => ?_) fun h2 _ => ?_
        · have hlt : a + (n : Int) < z := by
            by_cases hc : a + (n : Int) < z
            · exact hc
            · have : bS B z (a + (n : Int)) = 0 := if_neg hc
              rw [this] at h2
              exact absurd h2 (by decide)
          have ebs : bS B z (a + (n : Int)) = B (a + (n : Int)) := if_pos hlt
          rw [ebs] at h2
          rw [if_neg (by decide), ok364]
          exact bad (Or.inl ⟨hlt, h2⟩)
        · have hnb : ¬ ((a + (n : Int) < z ∧ ltB (B (a + (n : Int))) = true) ∨ 4 < n) := fun q => by
            rcases q with q | q
            · have ebs : bS B z (a + (n : Int)) = B (a + (n : Int)) := if_pos q.1
              rw [ebs] at h2
              exact h2 q.2
            · omega
          rw [if_neg hnb] at e
          have e1 : tkd B z k = 4 := by show (tok B z k).1 = 4; rw [e]
          have e2 : tpl B z k = a := by show (tok B z k).2.1 = a; rw [e]
          have e3 : tvl B z k = nmF B a n := by show (tok B z k).2.2.1 = _; rw [e]
          have e4 : pos B z (k + 1) = a + (n : Int) := by rw [pos_s, e]
          rw [if_pos rfl, ok364]
          refine hq _ ⟨?_, ?_, fun _ => ?_, fun q => by omega, fun _ => ?_⟩ (FM5_stm fW (by omega))
          · rw [stm_hit, e1]; rfl
          · rw [stm_neq (by omega), w6, e2]
          · rw [stm_neq (by omega), w7, e4]
          · rw [stm_neq (by omega), w9 (by omega), e3]
theorem m_goOn (hR : RM R) (hT : MTX X B z) (h7 : X 364 7 = pos B z k) (hq : ∀ X', MTk X' B z k → FM5 X X' → Q 0 SHX R X') : Mw (d + 1) 160 [vr 364] SHX R X 0 0 Q := by
  have hz := hT.2.1
  have pr := pos_rng (B := B) hz.1 k
  refine Mw_of mok160 rfl fun _ _ => b_X12_goOn_0 ?_
  rw [ok364, ok364, h7]
  have key : ∀ (r : Nat) (a : Int) (Y : MEM), (z - a).toNat = r → pos B z k ≤ a → a ≤ z → rn bkB B z a = rn bkB B z (pos B z k) → Y 364 6 = a → FM5 X Y → Go (d + 1) 160 Q 4 [vr 364, vn, vn] [] SHX R Y 0 0 := by
    intro r
    induction r with
    | zero =>
      intro a Y hr pa az hrn y6 fY
      have hza : a = z := by omega
      subst hza
      have te : TE (tok B a k) 1 a 0 a := by
        show TE (tk1 B a (rn bkB B a (pos B a k))) 1 a 0 a
        rw [← hrn, rn_stop (by omega)]
        unfold tk1
        rw [if_pos (Int.le_refl _)]
        exact ⟨rfl, rfl, rfl, rfl⟩
      have y3 : Y 364 3 = a := (MTX_5 hT fY).1
      refine b_X12_goOn_4 ?_
      rw [ok364, ok364, y6, y3, if_neg (by omega), ok364, ok364]
      refine m_sign (d := d) hR (MTX_5 hT fY) (by omega) ?_
      simp (disch := omega) only [ok364, stm_neq, stm_hit, y6, y3, iadd_of]
      rw [if_neg (by omega)]
      refine hq _ ⟨?_, ?_, fun _ => ?_, fun q => ?_, fun q => ?_⟩ (FM5_stm (FM5_stm (FM5_stm (FM5_stm fY (by omega)) (by omega)) (by omega)) (by omega))
      · simp (disch := omega) only [stm_neq, stm_hit]
        rw [show tkd B a k = 1 from te.1]; rfl
      · simp (disch := omega) only [stm_neq, stm_hit]
        exact te.2.1.symm
      · rw [stm_hit, pos_s]; exact te.2.2.2.symm
      · have := te.1
        exact absurd (show tkd B a k = 1 from te.1) (by omega)
      · exact absurd (show tkd B a k = 1 from te.1) (by omega)
    | succ r ih =>
      intro a Y hr pa az hrn y6 fY
      have y3 : Y 364 3 = z := (MTX_5 hT fY).1
      have hb := hT.2.2 a (by omega) (by omega)
      have ebs : bS B z a = B a := if_pos (by omega)
      have nxt : bkB (B a) = true → Go (d + 1) 160 Q 4 [vr 364, vn, vn] [] SHX R (stm Y 364 6 (a + 1)) 0 0 := fun hbk => ih (a + 1) _ (by omega) (by omega) (by omega) (by rw [← rn_step (by omega) hbk]; exact hrn) (stm_hit _ _ _ _) (FM5_stm fY (by omega))
      refine b_X12_goOn_4 ?_
      rw [ok364, ok364, y6, y3, if_pos (by omega), ok364, ok364]
      refine m_sign (d := d) hR (MTX_5 hT fY) (by omega) ?_
      rw [ebs, y6, iadd_of (x := a) (by omega) (by omega)]
      by_cases h1 : B a = 32
      · rw [if_pos h1, ok364, ok364]
        exact nxt (bkB_iff.2 (Or.inl h1))
      · rw [if_neg h1, ok364, ok364]
        refine m_sign (d := d) hR (MTX_5 hT fY) (by omega) ?_
        rw [ebs, y6, iadd_of (x := a) (by omega) (by omega)]
        by_cases h2 : B a = 10
        · rw [if_pos h2, ok364, ok364]
          exact nxt (bkB_iff.2 (Or.inr h2))
        · have hbk : ¬ bkB (B a) = true := fun q => by have := bkB_iff.1 q; omega
          have et : tok B z k = tk1 B z a := by
            show tk1 B z (rn bkB B z (pos B z k)) = _
            rw [← hrn, rn_stop fun q => hbk q.2]
          rw [if_neg h2, ok364, ok364]
          refine m_sign (d := d) hR (MTX_5 hT fY) (by omega) ?_
          simp (disch := omega) only [ok364, stm_neq, y6, y3, iadd_of, ebs]
          rw [if_pos (by omega)]
          have f1 : FM5 X (stm Y 364 7 (a + 1)) := FM5_stm fY (by omega)
          have hT1 := MTX_5 hT f1
          have g6 : stm Y 364 7 (a + 1) 364 6 = a := by rw [stm_neq (by omega)]; exact y6
          refine m_isLetter (d := d) (fun hl _ => ?_) fun hl _ => ?_
          · rw [if_neg (by decide)]
            refine m_letters hR hT1 (by omega) (by omega) hl et _ 1 _ rfl (by omega) (fun i i0 i1 => ?_) g6 (stm_hit _ _ _ _) ⟨fun _ _ => rfl, fun _ _ => rfl⟩ fun X' h3 h4 => hq X' h3 (FM5_tr f1 h4)
            rw [show i = a by omega]; exact ltB_iff.1 hl
          · rw [if_pos rfl]
            refine m_isDigit (d := d) (fun hdg _ => ?_) fun hdg _ => ?_
            · rw [if_neg (by decide), ok364, ok364, ok364]
              rw [g6]
              refine m_digits hR hT1 (by omega) (by omega) hl hdg et _ 0 _ rfl (by omega) (fun i i0 i1 => by omega) (by rw [stm_neq (by omega), stm_neq (by omega)]; exact g6) (by rw [stm_hit]; omega) (fun _ => ?_) (FM5_stm (FM5_stm ⟨fun _ _ => rfl, fun _ _ => rfl⟩ (by omega)) (by omega)) fun X' h3 h4 => hq X' h3 (FM5_tr f1 h4)
              rw [stm_neq (by omega), stm_hit]
              rfl
            · rw [if_pos rfl]
              have e : tk1 B z a = if sgB (B a) = true then (5, a, B a, a + 1) else (0, a, 0, z) := by
                unfold tk1
                rw [if_neg (by omega), if_neg hl, if_neg hdg]
              rw [← et] at e
              refine m_isSign (d := d) (fun hs _ => ?_) fun hs _ => ?_
              · rw [if_pos hs] at e
                have e1 : tkd B z k = 5 := by show (tok B z k).1 = 5; rw [e]
                have e2 : tpl B z k = a := by show (tok B z k).2.1 = a; rw [e]
                have e4 : pos B z (k + 1) = a + 1 := by rw [pos_s, e]
                rw [if_neg (by decide), ok364]
                refine hq _ ⟨?_, ?_, fun _ => ?_, fun q => by omega, fun q => by omega⟩ (FM5_stm f1 (by omega))
                · rw [stm_hit, e1]; rfl
                · rw [stm_neq (by omega), g6, e2]
                · rw [stm_neq (by omega), stm_hit, e4]
              · rw [if_neg hs] at e
                have e1 : tkd B z k = 0 := by show (tok B z k).1 = 0; rw [e]
                have e2 : tpl B z k = a := by show (tok B z k).2.1 = a; rw [e]
                rw [if_pos rfl, ok364]
                refine hq _ ⟨?_, ?_, fun q => absurd e1 q, fun q => by omega, fun q => by omega⟩ (FM5_stm f1 (by omega))
                · rw [stm_hit, e1]; rfl
                · rw [stm_neq (by omega), g6, e2]
  exact key _ (pos B z k) _ rfl (Int.le_refl _) pr.2 rfl (stm_hit _ _ _ _) (FM5_stm ⟨fun _ _ => rfl, fun _ _ => rfl⟩ (by omega))
end
