/-! THE REFERENCE BEGINS ANEW -/
/-- a piece of a row is another row's piece -/
def cpy (M : MEM) (a off b n : Int) : MEM := fun q j => if q = b ∧ 0 ≤ j ∧ j < n then M a (off + j) else M q j
theorem cpy_0 (M : MEM) (a off b : Int) : cpy M a off b 0 = M := by
  funext q j
  exact if_neg fun h => by omega
theorem cpy_ne {M : MEM} {a off b n q j : Int} (h : q ≠ b) : cpy M a off b n q j = M q j := if_neg fun z => h z.1
theorem fil_ne {M : MEM} {a lo hi v q j : Int} (h : q ≠ a) : fil M a lo hi v q j = M q j := if_neg fun z => h z.1
theorem stm_cpy (M : MEM) (a off b n : Int) (h : 0 ≤ n) : stm (cpy M a off b n) b n (M a (off + n)) = cpy M a off b (n + 1) := by
  funext q j
  show (if q = b ∧ j = n then M a (off + n) else if q = b ∧ 0 ≤ j ∧ j < n then M a (off + j) else M q j) = if q = b ∧ 0 ≤ j ∧ j < n + 1 then M a (off + j) else M q j
  by_cases h1 : q = b ∧ j = n
  · rw [if_pos h1, if_pos ⟨h1.1, by omega, by omega⟩, h1.2]
  · rw [if_neg h1]
    by_cases h2 : q = b ∧ 0 ≤ j ∧ j < n
    · rw [if_pos h2, if_pos ⟨h2.1, h2.2.1, by omega⟩]
    · rw [if_neg h2, if_neg fun h3 => h2 ⟨h3.1, h3.2.1, by
        have : j ≠ n := fun e => h1 ⟨h3.1, e⟩
        omega⟩]
theorem anew_13 {d : Nat} {R M : MEM} {Q : RES} {b : Int} (hR : RM R) (hb : M 364 36 = b) (b0 : 0 ≤ b) (b1 : b ≤ 1) (hq : Go d 202 Q 33 [vr 364, vi 0] [] SHX R (cpy M 378 (16 * b) 394 16) 0 0) : ∀ (n : Nat) (i : Int), 0 ≤ i → i + (n : Int) = 16 → Go d 202 Q 13 [vr 364, vi i] [] SHX R (cpy M 378 (16 * b) 394 i) 0 0
  | 0, i, h0, hi => by
    refine b_X12_startAnew_13 ?_
    rw [if_neg (by omega)]
    have e : i = 16 := by omega
    rw [e]
    exact hq
  | n + 1, i, h0, hi => by
    refine b_X12_startAnew_13 ?_
    have e1 : imul 16 b = 16 * b := imul_of (by omega) (by omega)
    rw [if_pos (by omega), ook_iff, ook_iff, ook_iff, fs364, fr22 hR, fr44 hR, aok_iff, aok_iff, fs378, fs394, cpy_ne (q := 364) (by decide), hb, e1, iadd_of (x := 16 * b) (by omega) (by omega), iadd_of (x := i) (by omega) (by omega), cpy_ne (q := 378) (by decide), stm_cpy _ _ _ _ _ h0]
    exact ⟨rfl, rfl, rfl, rfl, by omega, by show 16 * b + i < 32; omega, rfl, h0, by show i < 16; omega, anew_13 hR hb b0 b1 hq n (i + 1) (by omega) (by omega)⟩
theorem anew_63 {d : Nat} {R M : MEM} {Q : RES} (hR : RM R) (hq : Q 0 SHX R (fil M 414 0 3 0)) : ∀ (n : Nat) (i : Int), 0 ≤ i → i + (n : Int) = 3 → Go d 202 Q 63 [vr 364, vi i] [] SHX R (fil M 414 0 i 0) 0 0
  | 0, i, h0, hi => by
    refine b_X12_startAnew_63 ?_
    rw [if_neg (by omega)]
    have e : i = 3 := by omega
    rw [e]
    exact hq
  | n + 1, i, h0, hi => by
    refine b_X12_startAnew_63 ?_
    rw [if_pos (by omega), ook_iff, fs364, fr73 hR, aok_iff, fs414, iadd_of (by omega) (by omega), stm_fil _ _ _ _ _ h0]
    exact ⟨rfl, rfl, h0, by show i < 3; omega, anew_63 hR hq n (i + 1) (by omega) (by omega)⟩
theorem anew_33 {d : Nat} {R M : MEM} {Q : RES} (hR : RM R) (hq : Q 0 SHX R (fil (stm (stm (stm (stm (stm (stm (fil M 396 0 3 0) 364 47 (-1)) 364 51 0) 364 52 0) 364 61 0) 364 70 0) 364 55 0) 414 0 3 0)) : ∀ (n : Nat) (i : Int), 0 ≤ i → i + (n : Int) = 3 → Go d 202 Q 33 [vr 364, vi i] [] SHX R (fil M 396 0 i 0) 0 0
  | 0, i, h0, hi => by
    refine b_X12_startAnew_33 ?_
    rw [if_neg (by omega)]
    simp only [ook_iff, fs364, true_and]
    have e : i = 3 := by omega
    rw [e]
    have := anew_63 (d := d) hR hq 3 0 (by omega) (by omega)
    rwa [fil_0] at this
  | n + 1, i, h0, hi => by
    refine b_X12_startAnew_33 ?_
    rw [if_pos (by omega), ook_iff, fs364, fr46 hR, aok_iff, fs396, iadd_of (by omega) (by omega), stm_fil _ _ _ _ _ h0]
    exact ⟨rfl, rfl, h0, by show i < 3; omega, anew_33 hR hq n (i + 1) (by omega) (by omega)⟩
def anewM (M : MEM) (b : Int) : MEM := fil (stm (stm (stm (stm (stm (stm (fil (cpy (stm (fil M 392 0 218 0) 392 217 (M 372 b)) 378 (16 * b) 394 16) 396 0 3 0) 364 47 (-1)) 364 51 0) 364 52 0) 364 61 0) 364 70 0) 364 55 0) 414 0 3 0
theorem w_startAnew {d : Nat} {R M : MEM} {Q : RES} {b : Int} (hR : RM R) (hb : M 364 36 = b) (b0 : 0 ≤ b) (b1 : b ≤ 1) (hq : Q 0 SHX R (anewM M b)) : Mw (d + 1) 202 [vr 364] SHX R M 0 0 Q := by
  refine Mw_of mok202 rfl fun _ _ => b_X12_startAnew_0 ?_
  rw [ook_iff, fs364]
  refine ⟨rfl, w_clearSky (d := d) hR ?_⟩
  rw [ook_iff, ook_iff, ook_iff, fs364, fr16 hR, fr42 hR, aok_iff, aok_iff, fs372, fs392, fil_ne (q := 364) (by decide), fil_ne (q := 372) (by decide), hb]
  refine ⟨rfl, rfl, rfl, rfl, b0, by show b < 2; omega, rfl, by decide, by decide, ?_⟩
  have h33 := anew_33 (d := d + 1) (M := cpy (stm (fil M 392 0 218 0) 392 217 (M 372 b)) 378 (16 * b) 394 16) hR hq 3 0 (by omega) (by omega)
  rw [fil_0] at h33
  have h13 := anew_13 (d := d + 1) (M := stm (fil M 392 0 218 0) 392 217 (M 372 b)) (b := b) hR (by rw [stm_neq (by decide), fil_ne (by decide), hb]) b0 b1 h33 16 0 (by omega) (by omega)
  rwa [cpy_0] at h13
def clrM (M : MEM) (b : Int) : MEM := stm (stm (stm (stm (stm (stm (stm (stm M 367 b 0) 368 b 0) 369 b 0) 370 b 0) 371 b 0) 372 b 0) 384 b 0) 364 38 (600 * b)
theorem w_clearBank {d : Nat} {R M : MEM} {Q : RES} {b : Int} (hR : RM R) (hb : M 364 37 = b) (b0 : 0 ≤ b) (b1 : b ≤ 1) (hq : Q 0 SHX R (clrM M b)) : Mw d 167 [vr 364] SHX R M 0 0 Q := by
  refine Mw_of mok167 rfl fun _ _ => b_X12_clearBank_0 ?_
  simp (disch := decide) only [ook_iff, aok_iff, fs364, fr11 hR, fr12 hR, fr13 hR, fr14 hR, fr15 hR, fr16 hR, fr28 hR, fs367, fs368, fs369, fs370, fs371, fs372, fs384, stm_ne, hb, true_and]
  rw [imul_of (by omega) (by omega)]
  have h2 : b < ((2 : Nat) : Int) := by omega
  simp only [b0, h2, true_and]
  exact hq
