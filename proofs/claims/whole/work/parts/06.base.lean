/-! THE PLAIN MACHINE IS THE MACHINE: what heap the numbers are, what a frame; an instruction, a walk, a method, a call. -/
def tagT : FieldType → Nat
  | .long => 1
  | .object _ => 2
  | .array _ => 2
  | _ => 0
def tyF (k : Nat) : Nat → FieldType := match k with
  | 0 => tyX0
  | 1 => tyX1
  | 2 => tyX2
  | 3 => tyX3
  | 4 => tyX4
  | 5 => tyX5
  | 6 => tyX6
  | 7 => tyX7
  | 8 => tyX8
  | 9 => tyX9
  | 10 => tyX10
  | 11 => tyX11
  | _ => tyX12
def nF (k : Nat) : Nat := match vwCl[k]? with
  | some q => q.2.2
  | none => 0
def ftag (k j : Nat) : Nat := match k with
  | 100 => 0
  | 101 => 1
  | 102 => 0
  | 103 => 0
  | 104 => 2
  | 105 => 2
  | k => tagT (tyF k j)
def rngv (t : Nat) (x : Int) : Prop := match t with
  | 0 => -2147483648 ≤ x ∧ x < 2147483648
  | 1 => -9223372036854775808 ≤ x ∧ x < 9223372036854775808
  | 2 => -1 ≤ x
  | _ => True
def rv (B : Nat) (x : Int) : Value := if x < 0 then .null else .ref (B + x.toNat)
def ro (B : Nat) (x : Int) : Option Nat := if x < 0 then none else some (B + x.toNat)
theorem rv_ro (B : Nat) (x : Int) : rv B x = va_rf (ro B x) := by
  unfold rv ro va_rf
  by_cases h : x < 0 <;> simp [h]
def cv (B : Nat) (ex : Nat → Nat) (v : AV) : Value := match v.1 with
  | 0 => .int (Int32.ofInt v.2)
  | 1 => .long (Int64.ofInt v.2)
  | 2 => rv B v.2
  | 4 => .ref (ex v.2.toNat)
  | _ => .null
def fv (B t : Nat) (r m : Int) : Value := match t with
  | 1 => .long (Int64.ofInt m)
  | 2 => rv B r
  | _ => .int (Int32.ofInt m)
def fvs (B k : Nat) (Ra Ma : Int → Int) : List Value := (List.range (nF k)).map (fun j => fv B (ftag k j) (Ra j) (Ma j))
def el (B : Nat) (cA : Nat → ClassId) (k n : Nat) (Ra Ma : Int → Int) : va_E := match k with
  | 100 => .inl (cA 0, n, .inl (fun j => Int32.ofInt (Ma j)))
  | 101 => .inl (cA 1, n, .inr (.inl (fun j => Int64.ofInt (Ma j))))
  | 102 => .inl (cA 2, n, .inl (fun j => Int32.ofInt (Ma j)))
  | 103 => .inl (cA 3, n, .inl (fun j => Int32.ofInt (Ma j)))
  | 104 => .inl (cA 4, n, .inr (.inr (.inr (.inr (fun j => ro B (Ra j))))))
  | 105 => .inl (cA 5, n, .inr (.inr (.inr (.inr (fun j => ro B (Ra j))))))
  | k => .inr (k, fvs B k Ra Ma)
def TYS (cA : Nat → ClassId) : List (ClassId × FieldType) := [(cA 0, .int), (cA 1, .long), (cA 2, .byte), (cA 3, .boolean), (cA 4, .object "GeeseSums$Sky"), (cA 5, .array .int)]
def sk (sh : SHP) (a : Nat) : Nat × Nat := sh.getD a (999, 0)
def wo (B : Nat) (cA : Nat → ClassId) (sh : SHP) (R M : MEM) : va_W := (List.range sh.length).map (fun (a : Nat) => (B + a, el B cA (sk sh a).1 (sk sh a).2 (R a) (M a)))
theorem wo_len {B : Nat} {cA : Nat → ClassId} {sh : SHP} {R M : MEM} : (wo B cA sh R M).length = sh.length := by simp [wo]
theorem wo_get {B : Nat} {cA : Nat → ClassId} {sh : SHP} {R M : MEM} {a : Nat} (h : a < sh.length) : (wo B cA sh R M)[a]? = some (B + a, el B cA (sk sh a).1 (sk sh a).2 (R a) (M a)) := by
  unfold wo
  rw [List.getElem?_map, List.getElem?_range h]
  rfl
theorem wo_inv {B : Nat} {cA : Nat → ClassId} {sh : SHP} {R M : MEM} {a : Nat} {q : Nat × va_E} (h : (wo B cA sh R M)[a]? = some q) : a < sh.length ∧ q = (B + a, el B cA (sk sh a).1 (sk sh a).2 (R a) (M a)) := by
  have hl := (List.getElem?_eq_some_iff.mp h).1
  rw [wo_len] at hl
  rw [wo_get hl] at h
  exact ⟨hl, (Option.some.inj h).symm⟩
def Bq (B : Nat) : Nat → Prop := fun q => B ≤ q
theorem wo_D {B : Nat} {cA : Nat → ClassId} {sh : SHP} {R M : MEM} : va_D (Bq B) (wo B cA sh R M) := by
  refine ⟨fun i j p q hi hj h => ?_, fun k q hk => ?_⟩
  · obtain ⟨-, rfl⟩ := wo_inv hi
    obtain ⟨-, rfl⟩ := wo_inv hj
    dsimp only at h
    omega
  · obtain ⟨-, rfl⟩ := wo_inv hk
    exact Nat.le_add_right _ _
theorem sk_lt {sh : SHP} {a : Nat} (h : (sk sh a).1 ≠ 999) : a < sh.length := by
  rcases Nat.lt_or_ge a sh.length with q | q
  · exact q
  · exfalso
    apply h
    unfold sk
    rw [List.getD_eq_getElem?_getD, List.getElem?_eq_none q]
    rfl
/-- a cell's picture changed at one place of the list -/
theorem wo_set {B : Nat} {cA : Nat → ClassId} {sh : SHP} {R M R' M' : MEM} {a : Nat} {e : va_E} (ha : a < sh.length) (he : e = el B cA (sk sh a).1 (sk sh a).2 (R' a) (M' a)) (hR : ∀ q : Nat, q ≠ a → R' q = R q) (hM : ∀ q : Nat, q ≠ a → M' q = M q) :
    (wo B cA sh R M).set a (B + a, e) = wo B cA sh R' M' := by
  apply List.ext_getElem?
  intro i
  by_cases hi : i = a
  · subst hi
    rw [List.getElem?_set_self (by rw [wo_len]; exact ha), wo_get ha, he]
  · rw [List.getElem?_set_ne (Ne.symm hi)]
    by_cases hl : i < sh.length
    · rw [wo_get hl, wo_get hl, hR i hi, hM i hi]
    · rw [List.getElem?_eq_none (by rw [wo_len]; omega), List.getElem?_eq_none (by rw [wo_len]; omega)]
theorem sk_app_lt {sh : SHP} {a : Nat} {x : List (Nat × Nat)} (h : a < sh.length) : sk (sh ++ x) a = sk sh a := by
  unfold sk
  rw [List.getD_eq_getElem?_getD, List.getD_eq_getElem?_getD, List.getElem?_append_left h]
theorem sk_app_at {sh : SHP} {x : Nat × Nat} : sk (sh ++ [x]) sh.length = x := by
  unfold sk
  rw [List.getD_eq_getElem?_getD, List.getElem?_append_right (Nat.le_refl _), Nat.sub_self]
  rfl
theorem wo_push {B : Nat} {cA : Nat → ClassId} {sh : SHP} {R M R' M' : MEM} {k n : Nat} (hR : ∀ q : Nat, q < sh.length → R' q = R q) (hM : ∀ q : Nat, q < sh.length → M' q = M q) :
    wo B cA (sh ++ [(k, n)]) R' M' = wo B cA sh R M ++ [(B + sh.length, el B cA k n (R' sh.length) (M' sh.length))] := by
  apply List.ext_getElem?
  intro i
  rcases Nat.lt_trichotomy i sh.length with h | h | h
  · rw [wo_get (by simp; omega), List.getElem?_append_left (by rw [wo_len]; exact h), wo_get h, sk_app_lt h, hR i h, hM i h]
  · subst h
    rw [wo_get (by simp), List.getElem?_append_right (by rw [wo_len]; exact Nat.le_refl _), wo_len, Nat.sub_self, sk_app_at]
    rfl
  · rw [List.getElem?_eq_none (by rw [wo_len]; simp; omega), List.getElem?_eq_none (by simp [wo_len]; omega)]
/-- every number within its type -/
def RN (sh : SHP) (R M : MEM) : Prop := ∀ a j : Nat, a < sh.length → rngv (ftag (sk sh a).1 j) (match ftag (sk sh a).1 j with | 2 => R a j | _ => M a j)
theorem w32_rng (x : Int) : rngv 0 (w32 x) := ⟨Int32.le_toInt _, Int32.toInt_lt _⟩
theorem w64_rng (x : Int) : rngv 1 (w64 x) := ⟨Int64.le_toInt _, Int64.toInt_lt _⟩
theorem i32_rng (x : Int32) : rngv 0 x.toInt := ⟨Int32.le_toInt _, Int32.toInt_lt _⟩
theorem i64_rng (x : Int64) : rngv 1 x.toInt := ⟨Int64.le_toInt _, Int64.toInt_lt _⟩
theorem oi32 (x : Int32) : Int32.ofInt x.toInt = x := Int32.ofInt_toInt x
theorem oi64 (x : Int64) : Int64.ofInt x.toInt = x := Int64.ofInt_toInt x
theorem ti32 {x : Int} (h : rngv 0 x) : (Int32.ofInt x).toInt = x := Int32.toInt_ofInt_of_le h.1 h.2
theorem ti64 {x : Int} (h : rngv 1 x) : (Int64.ofInt x).toInt = x := Int64.toInt_ofInt_of_le h.1 h.2
theorem lt32 {x y : Int} (hx : rngv 0 x) (hy : rngv 0 y) : (Int32.ofInt x < Int32.ofInt y) ↔ x < y := by
  rw [Int32.lt_iff_toInt_lt, ti32 hx, ti32 hy]
theorem eq32 {x y : Int} (hx : rngv 0 x) (hy : rngv 0 y) : (Int32.ofInt x = Int32.ofInt y) ↔ x = y := by
  constructor
  · intro h
    have := congrArg Int32.toInt h
    rwa [ti32 hx, ti32 hy] at this
  · intro h; rw [h]
theorem ofw32 (x : Int) : Int32.ofInt (w32 x) = Int32.ofInt x := oi32 _
theorem ofw64 (x : Int) : Int64.ofInt (w64 x) = Int64.ofInt x := oi64 _
theorem o_add (x y : Int) : Int32.ofInt x + Int32.ofInt y = Int32.ofInt (iadd x y) := by unfold iadd; rw [ofw32, Int32.ofInt_add]
theorem o_sub (x y : Int) : Int32.ofInt x - Int32.ofInt y = Int32.ofInt (isub x y) := by unfold isub; rw [ofw32, Int32.ofInt_sub]
theorem o_mul (x y : Int) : Int32.ofInt x * Int32.ofInt y = Int32.ofInt (imul x y) := by unfold imul; rw [ofw32, Int32.ofInt_mul]
theorem o_ladd (x y : Int) : Int64.ofInt x + Int64.ofInt y = Int64.ofInt (ladd x y) := by unfold ladd; rw [ofw64, Int64.ofInt_add]
theorem o_lmul (x y : Int) : Int64.ofInt x * Int64.ofInt y = Int64.ofInt (lmul x y) := by unfold lmul; rw [ofw64, Int64.ofInt_mul]
theorem o_z : Int32.ofInt 0 = 0 := rfl
theorem clamp32 {x : Int} (hx : rngv 0 x) (h : 0 ≤ x) : (Int32.ofInt x).toNatClampNeg = x.toNat := by
  show ((Int32.ofInt x).toInt).toNat = x.toNat
  rw [ti32 hx]
theorem in32 {x : Int} {n : Nat} (hx : rngv 0 x) (h0 : 0 ≤ x) (h1 : x < (n : Int)) : vp_in (Int32.ofInt x) n := by
  intro h
  rcases h with h | h
  · rw [← o_z, lt32 hx ⟨by omega, by omega⟩] at h
    omega
  · rw [clamp32 hx h0] at h
    omega
