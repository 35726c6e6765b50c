/-! THE LAW'S CASES AND ITS LOOP -/
theorem fs0 : shk SHX 0 = (11, 0) := by decide +kernel
/-- a call of the class and the same of the reference: like answers, and then J -/
def PR (d c r : Nat) (as : List AV) (R M : MEM) (J : MEM → MEM → Prop) : Prop := Mw d c (vr 0 :: as) SHX R M 0 0 (fun x sh1 R1 M1 => sh1 = SHX ∧ Mw d r (vr 364 :: as) SHX R1 M1 0 0 (fun y sh2 R2 M2 => sh2 = SHX ∧ x = y ∧ J R2 M2))
theorem law_c0 {X : Int × (Int → Int)} {d : Nat} {Q : RES} {R M : MEM} {J : MEM → MEM → Prop} {v3 : Int} (h0 : 0 ≤ v3) (h1 : v3 + 6 ≤ X.1) (h2 : X.1 ≤ 100000) (H : PR d 105 275 [vi (X.2 (iadd v3 1)), vi (X.2 (iadd v3 2)), vi (X.2 (iadd v3 3)), vi (X.2 (iadd v3 4)), vi (X.2 (iadd v3 5))] R M J) (nx : ∀ R M, J R M → GoX X (d + 1) 305 Q 10 [ve 0, vr 0, vr 364, vi (v3 + 6)] [] SHX R M 0 0) : GoX X (d + 1) 305 Q 22 [ve 0, vr 0, vr 364, vi v3] [] SHX R M 0 0 := by
  have e1 : iadd v3 1 = v3 + 1 := iadd_of (by omega) (by omega)
  have e2 : iadd v3 2 = v3 + 2 := iadd_of (by omega) (by omega)
  have e3 : iadd v3 3 = v3 + 3 := iadd_of (by omega) (by omega)
  have e4 : iadd v3 4 = v3 + 4 := iadd_of (by omega) (by omega)
  have e5 : iadd v3 5 = v3 + 5 := iadd_of (by omega) (by omega)
  have e6 : iadd v3 6 = v3 + 6 := iadd_of (by omega) (by omega)
  refine b_law_22 ⟨rfl, by omega, by omega, rfl, by omega, by omega, rfl, by omega, by omega, rfl, by omega, by omega, rfl, by omega, by omega, ook_iff.mpr ⟨by rw [fs0], Mw.mono H fun x sh1 R1 M1 hh => ?_⟩⟩
  obtain ⟨rfl, hh2⟩ := hh
  refine ⟨rfl, by omega, by omega, rfl, by omega, by omega, rfl, by omega, by omega, rfl, by omega, by omega, rfl, by omega, by omega, ook_iff.mpr ⟨by rw [fs364], Mw.mono hh2 fun y sh2 R2 M2 hk => ?_⟩⟩
  obtain ⟨rfl, rfl, hj⟩ := hk
  rw [if_pos rfl]
  refine b_law_955 ?_
  rw [e6]
  exact nx _ _ hj
theorem law_c1 {X : Int × (Int → Int)} {d : Nat} {Q : RES} {R M : MEM} {J : MEM → MEM → Prop} {v3 : Int} (h0 : 0 ≤ v3) (h1 : v3 + 6 ≤ X.1) (h2 : X.1 ≤ 100000) (H : PR d 106 276 [vi (X.2 (iadd v3 1))] R M J) (nx : ∀ R M, J R M → GoX X (d + 1) 305 Q 10 [ve 0, vr 0, vr 364, vi (v3 + 6)] [] SHX R M 0 0) : GoX X (d + 1) 305 Q 79 [ve 0, vr 0, vr 364, vi v3] [] SHX R M 0 0 := by
  have e1 : iadd v3 1 = v3 + 1 := iadd_of (by omega) (by omega)
  have e6 : iadd v3 6 = v3 + 6 := iadd_of (by omega) (by omega)
  refine b_law_79 ⟨rfl, by omega, by omega, ook_iff.mpr ⟨by rw [fs0], Mw.mono H fun x sh1 R1 M1 hh => ?_⟩⟩
  obtain ⟨rfl, hh2⟩ := hh
  refine ⟨rfl, by omega, by omega, ook_iff.mpr ⟨by rw [fs364], Mw.mono hh2 fun y sh2 R2 M2 hk => ?_⟩⟩
  obtain ⟨rfl, rfl, hj⟩ := hk
  rw [if_pos rfl]
  refine b_law_955 ?_
  rw [e6]
  exact nx _ _ hj
theorem law_c2 {X : Int × (Int → Int)} {d : Nat} {Q : RES} {R M : MEM} {J : MEM → MEM → Prop} {v3 : Int} (h0 : 0 ≤ v3) (h1 : v3 + 6 ≤ X.1) (h2 : X.1 ≤ 100000) (H : PR d 107 168 [] R M J) (nx : ∀ R M, J R M → GoX X (d + 1) 305 Q 10 [ve 0, vr 0, vr 364, vi (v3 + 6)] [] SHX R M 0 0) : GoX X (d + 1) 305 Q 96 [ve 0, vr 0, vr 364, vi v3] [] SHX R M 0 0 := by
  have e6 : iadd v3 6 = v3 + 6 := iadd_of (by omega) (by omega)
  refine b_law_96 (ook_iff.mpr ⟨by rw [fs0], Mw.mono H fun x sh1 R1 M1 hh => ?_⟩)
  obtain ⟨rfl, hh2⟩ := hh
  refine ook_iff.mpr ⟨by rw [fs364], Mw.mono hh2 fun y sh2 R2 M2 hk => ?_⟩
  obtain ⟨rfl, rfl, hj⟩ := hk
  rw [if_pos rfl]
  refine b_law_955 ?_
  rw [e6]
  exact nx _ _ hj
theorem law_c3 {X : Int × (Int → Int)} {d : Nat} {Q : RES} {R M : MEM} {J : MEM → MEM → Prop} {v3 : Int} (h0 : 0 ≤ v3) (h1 : v3 + 6 ≤ X.1) (h2 : X.1 ≤ 100000) (H : PR d 108 192 [vi (X.2 (iadd v3 1))] R M J) (nx : ∀ R M, J R M → GoX X (d + 1) 305 Q 10 [ve 0, vr 0, vr 364, vi (v3 + 6)] [] SHX R M 0 0) : GoX X (d + 1) 305 Q 103 [ve 0, vr 0, vr 364, vi v3] [] SHX R M 0 0 := by
  have e1 : iadd v3 1 = v3 + 1 := iadd_of (by omega) (by omega)
  have e6 : iadd v3 6 = v3 + 6 := iadd_of (by omega) (by omega)
  refine b_law_103 ⟨rfl, by omega, by omega, ook_iff.mpr ⟨by rw [fs0], Mw.mono H fun x sh1 R1 M1 hh => ?_⟩⟩
  obtain ⟨rfl, hh2⟩ := hh
  refine ⟨rfl, by omega, by omega, ook_iff.mpr ⟨by rw [fs364], Mw.mono hh2 fun y sh2 R2 M2 hk => ?_⟩⟩
  obtain ⟨rfl, rfl, hj⟩ := hk
  rw [if_pos rfl]
  refine b_law_955 ?_
  rw [e6]
  exact nx _ _ hj
theorem law_c4 {X : Int × (Int → Int)} {d : Nat} {Q : RES} {R M : MEM} {J : MEM → MEM → Prop} {v3 : Int} (h0 : 0 ≤ v3) (h1 : v3 + 6 ≤ X.1) (h2 : X.1 ≤ 100000) (H : PR d 109 213 [vi (X.2 (iadd v3 1)), vi (X.2 (iadd v3 2))] R M J) (nx : ∀ R M, J R M → GoX X (d + 1) 305 Q 10 [ve 0, vr 0, vr 364, vi (v3 + 6)] [] SHX R M 0 0) : GoX X (d + 1) 305 Q 120 [ve 0, vr 0, vr 364, vi v3] [] SHX R M 0 0 := by
  have e1 : iadd v3 1 = v3 + 1 := iadd_of (by omega) (by omega)
  have e2 : iadd v3 2 = v3 + 2 := iadd_of (by omega) (by omega)
  have e6 : iadd v3 6 = v3 + 6 := iadd_of (by omega) (by omega)
  refine b_law_120 ⟨rfl, by omega, by omega, rfl, by omega, by omega, ook_iff.mpr ⟨by rw [fs0], Mw.mono H fun x sh1 R1 M1 hh => ?_⟩⟩
  obtain ⟨rfl, hh2⟩ := hh
  refine ⟨rfl, by omega, by omega, rfl, by omega, by omega, ook_iff.mpr ⟨by rw [fs364], Mw.mono hh2 fun y sh2 R2 M2 hk => ?_⟩⟩
  obtain ⟨rfl, rfl, hj⟩ := hk
  rw [if_pos rfl]
  refine b_law_955 ?_
  rw [e6]
  exact nx _ _ hj
theorem law_c5 {X : Int × (Int → Int)} {d : Nat} {Q : RES} {R M : MEM} {J : MEM → MEM → Prop} {v3 : Int} (h0 : 0 ≤ v3) (h1 : v3 + 6 ≤ X.1) (h2 : X.1 ≤ 100000) (H : PR d 110 214 [vi (X.2 (iadd v3 1)), vi (X.2 (iadd v3 2))] R M J) (nx : ∀ R M, J R M → GoX X (d + 1) 305 Q 10 [ve 0, vr 0, vr 364, vi (v3 + 6)] [] SHX R M 0 0) : GoX X (d + 1) 305 Q 147 [ve 0, vr 0, vr 364, vi v3] [] SHX R M 0 0 := by
  have e1 : iadd v3 1 = v3 + 1 := iadd_of (by omega) (by omega)
  have e2 : iadd v3 2 = v3 + 2 := iadd_of (by omega) (by omega)
  have e6 : iadd v3 6 = v3 + 6 := iadd_of (by omega) (by omega)
  refine b_law_147 ⟨rfl, by omega, by omega, rfl, by omega, by omega, ook_iff.mpr ⟨by rw [fs0], Mw.mono H fun x sh1 R1 M1 hh => ?_⟩⟩
  obtain ⟨rfl, hh2⟩ := hh
  refine ⟨rfl, by omega, by omega, rfl, by omega, by omega, ook_iff.mpr ⟨by rw [fs364], Mw.mono hh2 fun y sh2 R2 M2 hk => ?_⟩⟩
  obtain ⟨rfl, rfl, hj⟩ := hk
  rw [if_pos rfl]
  refine b_law_955 ?_
  rw [e6]
  exact nx _ _ hj
theorem law_c6 {X : Int × (Int → Int)} {d : Nat} {Q : RES} {R M : MEM} {J : MEM → MEM → Prop} {v3 : Int} (h0 : 0 ≤ v3) (h1 : v3 + 6 ≤ X.1) (h2 : X.1 ≤ 100000) (H : PR d 111 215 [vi (X.2 (iadd v3 1)), vi (X.2 (iadd v3 2))] R M J) (nx : ∀ R M, J R M → GoX X (d + 1) 305 Q 10 [ve 0, vr 0, vr 364, vi (v3 + 6)] [] SHX R M 0 0) : GoX X (d + 1) 305 Q 174 [ve 0, vr 0, vr 364, vi v3] [] SHX R M 0 0 := by
  have e1 : iadd v3 1 = v3 + 1 := iadd_of (by omega) (by omega)
  have e2 : iadd v3 2 = v3 + 2 := iadd_of (by omega) (by omega)
  have e6 : iadd v3 6 = v3 + 6 := iadd_of (by omega) (by omega)
  refine b_law_174 ⟨rfl, by omega, by omega, rfl, by omega, by omega, ook_iff.mpr ⟨by rw [fs0], Mw.mono H fun x sh1 R1 M1 hh => ?_⟩⟩
  obtain ⟨rfl, hh2⟩ := hh
  refine ⟨rfl, by omega, by omega, rfl, by omega, by omega, ook_iff.mpr ⟨by rw [fs364], Mw.mono hh2 fun y sh2 R2 M2 hk => ?_⟩⟩
  obtain ⟨rfl, rfl, hj⟩ := hk
  rw [if_pos rfl]
  refine b_law_955 ?_
  rw [e6]
  exact nx _ _ hj
theorem law_c7 {X : Int × (Int → Int)} {d : Nat} {Q : RES} {R M : MEM} {J : MEM → MEM → Prop} {v3 : Int} (h0 : 0 ≤ v3) (h1 : v3 + 6 ≤ X.1) (h2 : X.1 ≤ 100000) (H : PR d 112 216 [vi (X.2 (iadd v3 1))] R M J) (nx : ∀ R M, J R M → GoX X (d + 1) 305 Q 10 [ve 0, vr 0, vr 364, vi (v3 + 6)] [] SHX R M 0 0) : GoX X (d + 1) 305 Q 201 [ve 0, vr 0, vr 364, vi v3] [] SHX R M 0 0 := by
  have e1 : iadd v3 1 = v3 + 1 := iadd_of (by omega) (by omega)
  have e6 : iadd v3 6 = v3 + 6 := iadd_of (by omega) (by omega)
  refine b_law_201 ⟨rfl, by omega, by omega, ook_iff.mpr ⟨by rw [fs0], Mw.mono H fun x sh1 R1 M1 hh => ?_⟩⟩
  obtain ⟨rfl, hh2⟩ := hh
  refine ⟨rfl, by omega, by omega, ook_iff.mpr ⟨by rw [fs364], Mw.mono hh2 fun y sh2 R2 M2 hk => ?_⟩⟩
  obtain ⟨rfl, rfl, hj⟩ := hk
  rw [if_pos rfl]
  refine b_law_955 ?_
  rw [e6]
  exact nx _ _ hj
theorem law_c8 {X : Int × (Int → Int)} {d : Nat} {Q : RES} {R M : MEM} {J : MEM → MEM → Prop} {v3 : Int} (h0 : 0 ≤ v3) (h1 : v3 + 6 ≤ X.1) (h2 : X.1 ≤ 100000) (H : PR d 113 219 [vi (X.2 (iadd v3 1)), vi (X.2 (iadd v3 2))] R M J) (nx : ∀ R M, J R M → GoX X (d + 1) 305 Q 10 [ve 0, vr 0, vr 364, vi (v3 + 6)] [] SHX R M 0 0) : GoX X (d + 1) 305 Q 218 [ve 0, vr 0, vr 364, vi v3] [] SHX R M 0 0 := by
  have e1 : iadd v3 1 = v3 + 1 := iadd_of (by omega) (by omega)
  have e2 : iadd v3 2 = v3 + 2 := iadd_of (by omega) (by omega)
  have e6 : iadd v3 6 = v3 + 6 := iadd_of (by omega) (by omega)
  refine b_law_218 ⟨rfl, by omega, by omega, rfl, by omega, by omega, ook_iff.mpr ⟨by rw [fs0], Mw.mono H fun x sh1 R1 M1 hh => ?_⟩⟩
  obtain ⟨rfl, hh2⟩ := hh
  refine ⟨rfl, by omega, by omega, rfl, by omega, by omega, ook_iff.mpr ⟨by rw [fs364], Mw.mono hh2 fun y sh2 R2 M2 hk => ?_⟩⟩
  obtain ⟨rfl, rfl, hj⟩ := hk
  rw [if_pos rfl]
  refine b_law_955 ?_
  rw [e6]
  exact nx _ _ hj
theorem law_c9 {X : Int × (Int → Int)} {d : Nat} {Q : RES} {R M : MEM} {J : MEM → MEM → Prop} {v3 : Int} (h0 : 0 ≤ v3) (h1 : v3 + 6 ≤ X.1) (h2 : X.1 ≤ 100000) (H : PR d 114 220 [vi (X.2 (iadd v3 1))] R M J) (nx : ∀ R M, J R M → GoX X (d + 1) 305 Q 10 [ve 0, vr 0, vr 364, vi (v3 + 6)] [] SHX R M 0 0) : GoX X (d + 1) 305 Q 245 [ve 0, vr 0, vr 364, vi v3] [] SHX R M 0 0 := by
  have e1 : iadd v3 1 = v3 + 1 := iadd_of (by omega) (by omega)
  have e6 : iadd v3 6 = v3 + 6 := iadd_of (by omega) (by omega)
  refine b_law_245 ⟨rfl, by omega, by omega, ook_iff.mpr ⟨by rw [fs0], Mw.mono H fun x sh1 R1 M1 hh => ?_⟩⟩
  obtain ⟨rfl, hh2⟩ := hh
  refine ⟨rfl, by omega, by omega, ook_iff.mpr ⟨by rw [fs364], Mw.mono hh2 fun y sh2 R2 M2 hk => ?_⟩⟩
  obtain ⟨rfl, rfl, hj⟩ := hk
  rw [if_pos rfl]
  refine b_law_955 ?_
  rw [e6]
  exact nx _ _ hj
theorem law_c10 {X : Int × (Int → Int)} {d : Nat} {Q : RES} {R M : MEM} {J : MEM → MEM → Prop} {v3 : Int} (h0 : 0 ≤ v3) (h1 : v3 + 6 ≤ X.1) (h2 : X.1 ≤ 100000) (H : PR d 115 221 [] R M J) (nx : ∀ R M, J R M → GoX X (d + 1) 305 Q 10 [ve 0, vr 0, vr 364, vi (v3 + 6)] [] SHX R M 0 0) : GoX X (d + 1) 305 Q 262 [ve 0, vr 0, vr 364, vi v3] [] SHX R M 0 0 := by
  have e6 : iadd v3 6 = v3 + 6 := iadd_of (by omega) (by omega)
  refine b_law_262 (ook_iff.mpr ⟨by rw [fs0], Mw.mono H fun x sh1 R1 M1 hh => ?_⟩)
  obtain ⟨rfl, hh2⟩ := hh
  refine ook_iff.mpr ⟨by rw [fs364], Mw.mono hh2 fun y sh2 R2 M2 hk => ?_⟩
  obtain ⟨rfl, rfl, hj⟩ := hk
  rw [if_pos rfl]
  refine b_law_955 ?_
  rw [e6]
  exact nx _ _ hj
theorem law_c11 {X : Int × (Int → Int)} {d : Nat} {Q : RES} {R M : MEM} {J : MEM → MEM → Prop} {v3 : Int} (h0 : 0 ≤ v3) (h1 : v3 + 6 ≤ X.1) (h2 : X.1 ≤ 100000) (H : PR d 116 222 [] R M J) (nx : ∀ R M, J R M → GoX X (d + 1) 305 Q 10 [ve 0, vr 0, vr 364, vi (v3 + 6)] [] SHX R M 0 0) : GoX X (d + 1) 305 Q 269 [ve 0, vr 0, vr 364, vi v3] [] SHX R M 0 0 := by
  have e6 : iadd v3 6 = v3 + 6 := iadd_of (by omega) (by omega)
  refine b_law_269 (ook_iff.mpr ⟨by rw [fs0], Mw.mono H fun x sh1 R1 M1 hh => ?_⟩)
  obtain ⟨rfl, hh2⟩ := hh
  intro _
  refine ook_iff.mpr ⟨by rw [fs364], Mw.mono hh2 fun y sh2 R2 M2 hk => ?_⟩
  obtain ⟨rfl, rfl, hj⟩ := hk
  intro _
  rw [if_pos rfl]
  refine b_law_955 ?_
  rw [e6]
  exact nx _ _ hj
theorem law_c12 {X : Int × (Int → Int)} {d : Nat} {Q : RES} {R M : MEM} {J : MEM → MEM → Prop} {v3 : Int} (h0 : 0 ≤ v3) (h1 : v3 + 6 ≤ X.1) (h2 : X.1 ≤ 100000) (H : PR d 117 223 [] R M J) (nx : ∀ R M, J R M → GoX X (d + 1) 305 Q 10 [ve 0, vr 0, vr 364, vi (v3 + 6)] [] SHX R M 0 0) : GoX X (d + 1) 305 Q 276 [ve 0, vr 0, vr 364, vi v3] [] SHX R M 0 0 := by
  have e6 : iadd v3 6 = v3 + 6 := iadd_of (by omega) (by omega)
  refine b_law_276 (ook_iff.mpr ⟨by rw [fs0], Mw.mono H fun x sh1 R1 M1 hh => ?_⟩)
  obtain ⟨rfl, hh2⟩ := hh
  intro _
  refine ook_iff.mpr ⟨by rw [fs364], Mw.mono hh2 fun y sh2 R2 M2 hk => ?_⟩
  obtain ⟨rfl, rfl, hj⟩ := hk
  intro _
  rw [if_pos rfl]
  refine b_law_955 ?_
  rw [e6]
  exact nx _ _ hj
theorem law_c13 {X : Int × (Int → Int)} {d : Nat} {Q : RES} {R M : MEM} {J : MEM → MEM → Prop} {v3 : Int} (h0 : 0 ≤ v3) (h1 : v3 + 6 ≤ X.1) (h2 : X.1 ≤ 100000) (H : PR d 118 225 [vi (X.2 (iadd v3 1)), vi (X.2 (iadd v3 2))] R M J) (nx : ∀ R M, J R M → GoX X (d + 1) 305 Q 10 [ve 0, vr 0, vr 364, vi (v3 + 6)] [] SHX R M 0 0) : GoX X (d + 1) 305 Q 283 [ve 0, vr 0, vr 364, vi v3] [] SHX R M 0 0 := by
  have e1 : iadd v3 1 = v3 + 1 := iadd_of (by omega) (by omega)
  have e2 : iadd v3 2 = v3 + 2 := iadd_of (by omega) (by omega)
  have e6 : iadd v3 6 = v3 + 6 := iadd_of (by omega) (by omega)
  refine b_law_283 ⟨rfl, by omega, by omega, rfl, by omega, by omega, ook_iff.mpr ⟨by rw [fs0], Mw.mono H fun x sh1 R1 M1 hh => ?_⟩⟩
  obtain ⟨rfl, hh2⟩ := hh
  refine ⟨rfl, by omega, by omega, rfl, by omega, by omega, ook_iff.mpr ⟨by rw [fs364], Mw.mono hh2 fun y sh2 R2 M2 hk => ?_⟩⟩
  obtain ⟨rfl, rfl, hj⟩ := hk
  rw [if_pos rfl]
  refine b_law_955 ?_
  rw [e6]
  exact nx _ _ hj
theorem law_c14 {X : Int × (Int → Int)} {d : Nat} {Q : RES} {R M : MEM} {J : MEM → MEM → Prop} {v3 : Int} (h0 : 0 ≤ v3) (h1 : v3 + 6 ≤ X.1) (h2 : X.1 ≤ 100000) (H : PR d 119 229 [vi (X.2 (iadd v3 1)), vi (X.2 (iadd v3 2))] R M J) (nx : ∀ R M, J R M → GoX X (d + 1) 305 Q 10 [ve 0, vr 0, vr 364, vi (v3 + 6)] [] SHX R M 0 0) : GoX X (d + 1) 305 Q 310 [ve 0, vr 0, vr 364, vi v3] [] SHX R M 0 0 := by
  have e1 : iadd v3 1 = v3 + 1 := iadd_of (by omega) (by omega)
  have e2 : iadd v3 2 = v3 + 2 := iadd_of (by omega) (by omega)
  have e6 : iadd v3 6 = v3 + 6 := iadd_of (by omega) (by omega)
  refine b_law_310 ⟨rfl, by omega, by omega, rfl, by omega, by omega, ook_iff.mpr ⟨by rw [fs0], Mw.mono H fun x sh1 R1 M1 hh => ?_⟩⟩
  obtain ⟨rfl, hh2⟩ := hh
  refine ⟨rfl, by omega, by omega, rfl, by omega, by omega, ook_iff.mpr ⟨by rw [fs364], Mw.mono hh2 fun y sh2 R2 M2 hk => ?_⟩⟩
  obtain ⟨rfl, rfl, hj⟩ := hk
  rw [if_pos rfl]
  refine b_law_955 ?_
  rw [e6]
  exact nx _ _ hj
theorem law_c15 {X : Int × (Int → Int)} {d : Nat} {Q : RES} {R M : MEM} {J : MEM → MEM → Prop} {v3 : Int} (h0 : 0 ≤ v3) (h1 : v3 + 6 ≤ X.1) (h2 : X.1 ≤ 100000) (H : PR d 120 231 [] R M J) (nx : ∀ R M, J R M → GoX X (d + 1) 305 Q 10 [ve 0, vr 0, vr 364, vi (v3 + 6)] [] SHX R M 0 0) : GoX X (d + 1) 305 Q 337 [ve 0, vr 0, vr 364, vi v3] [] SHX R M 0 0 := by
  have e6 : iadd v3 6 = v3 + 6 := iadd_of (by omega) (by omega)
  refine b_law_337 (ook_iff.mpr ⟨by rw [fs0], Mw.mono H fun x sh1 R1 M1 hh => ?_⟩)
  obtain ⟨rfl, hh2⟩ := hh
  refine ook_iff.mpr ⟨by rw [fs364], Mw.mono hh2 fun y sh2 R2 M2 hk => ?_⟩
  obtain ⟨rfl, rfl, hj⟩ := hk
  rw [if_pos rfl]
  refine b_law_955 ?_
  rw [e6]
  exact nx _ _ hj
theorem law_c16 {X : Int × (Int → Int)} {d : Nat} {Q : RES} {R M : MEM} {J : MEM → MEM → Prop} {v3 : Int} (h0 : 0 ≤ v3) (h1 : v3 + 6 ≤ X.1) (h2 : X.1 ≤ 100000) (H : PR d 121 237 [vi (X.2 (iadd v3 1))] R M J) (nx : ∀ R M, J R M → GoX X (d + 1) 305 Q 10 [ve 0, vr 0, vr 364, vi (v3 + 6)] [] SHX R M 0 0) : GoX X (d + 1) 305 Q 344 [ve 0, vr 0, vr 364, vi v3] [] SHX R M 0 0 := by
  have e1 : iadd v3 1 = v3 + 1 := iadd_of (by omega) (by omega)
  have e6 : iadd v3 6 = v3 + 6 := iadd_of (by omega) (by omega)
  refine b_law_344 ⟨rfl, by omega, by omega, ook_iff.mpr ⟨by rw [fs0], Mw.mono H fun x sh1 R1 M1 hh => ?_⟩⟩
  obtain ⟨rfl, hh2⟩ := hh
  refine ⟨rfl, by omega, by omega, ook_iff.mpr ⟨by rw [fs364], Mw.mono hh2 fun y sh2 R2 M2 hk => ?_⟩⟩
  obtain ⟨rfl, rfl, hj⟩ := hk
  rw [if_pos rfl]
  refine b_law_955 ?_
  rw [e6]
  exact nx _ _ hj
theorem law_c17 {X : Int × (Int → Int)} {d : Nat} {Q : RES} {R M : MEM} {J : MEM → MEM → Prop} {v3 : Int} (h0 : 0 ≤ v3) (h1 : v3 + 6 ≤ X.1) (h2 : X.1 ≤ 100000) (H : PR d 122 240 [vi (X.2 (iadd v3 1)), vi (X.2 (iadd v3 2)), vi (X.2 (iadd v3 3))] R M J) (nx : ∀ R M, J R M → GoX X (d + 1) 305 Q 10 [ve 0, vr 0, vr 364, vi (v3 + 6)] [] SHX R M 0 0) : GoX X (d + 1) 305 Q 361 [ve 0, vr 0, vr 364, vi v3] [] SHX R M 0 0 := by
  have e1 : iadd v3 1 = v3 + 1 := iadd_of (by omega) (by omega)
  have e2 : iadd v3 2 = v3 + 2 := iadd_of (by omega) (by omega)
  have e3 : iadd v3 3 = v3 + 3 := iadd_of (by omega) (by omega)
  have e6 : iadd v3 6 = v3 + 6 := iadd_of (by omega) (by omega)
  refine b_law_361 ⟨rfl, by omega, by omega, rfl, by omega, by omega, rfl, by omega, by omega, ook_iff.mpr ⟨by rw [fs0], Mw.mono H fun x sh1 R1 M1 hh => ?_⟩⟩
  obtain ⟨rfl, hh2⟩ := hh
  refine ⟨rfl, by omega, by omega, rfl, by omega, by omega, rfl, by omega, by omega, ook_iff.mpr ⟨by rw [fs364], Mw.mono hh2 fun y sh2 R2 M2 hk => ?_⟩⟩
  obtain ⟨rfl, rfl, hj⟩ := hk
  rw [if_pos rfl]
  refine b_law_955 ?_
  rw [e6]
  exact nx _ _ hj
theorem law_c18 {X : Int × (Int → Int)} {d : Nat} {Q : RES} {R M : MEM} {J : MEM → MEM → Prop} {v3 : Int} (h0 : 0 ≤ v3) (h1 : v3 + 6 ≤ X.1) (h2 : X.1 ≤ 100000) (H : PR d 123 241 [vi (X.2 (iadd v3 1)), vi (X.2 (iadd v3 2)), vi (X.2 (iadd v3 3))] R M J) (nx : ∀ R M, J R M → GoX X (d + 1) 305 Q 10 [ve 0, vr 0, vr 364, vi (v3 + 6)] [] SHX R M 0 0) : GoX X (d + 1) 305 Q 398 [ve 0, vr 0, vr 364, vi v3] [] SHX R M 0 0 := by
  have e1 : iadd v3 1 = v3 + 1 := iadd_of (by omega) (by omega)
  have e2 : iadd v3 2 = v3 + 2 := iadd_of (by omega) (by omega)
  have e3 : iadd v3 3 = v3 + 3 := iadd_of (by omega) (by omega)
  have e6 : iadd v3 6 = v3 + 6 := iadd_of (by omega) (by omega)
  refine b_law_398 ⟨rfl, by omega, by omega, rfl, by omega, by omega, rfl, by omega, by omega, ook_iff.mpr ⟨by rw [fs0], Mw.mono H fun x sh1 R1 M1 hh => ?_⟩⟩
  obtain ⟨rfl, hh2⟩ := hh
  refine ⟨rfl, by omega, by omega, rfl, by omega, by omega, rfl, by omega, by omega, ook_iff.mpr ⟨by rw [fs364], Mw.mono hh2 fun y sh2 R2 M2 hk => ?_⟩⟩
  obtain ⟨rfl, rfl, hj⟩ := hk
  rw [if_pos rfl]
  refine b_law_955 ?_
  rw [e6]
  exact nx _ _ hj
theorem law_c19 {X : Int × (Int → Int)} {d : Nat} {Q : RES} {R M : MEM} {J : MEM → MEM → Prop} {v3 : Int} (h0 : 0 ≤ v3) (h1 : v3 + 6 ≤ X.1) (h2 : X.1 ≤ 100000) (H : PR d 124 246 [vi (X.2 (iadd v3 1)), vi (X.2 (iadd v3 2)), vi (X.2 (iadd v3 3))] R M J) (nx : ∀ R M, J R M → GoX X (d + 1) 305 Q 10 [ve 0, vr 0, vr 364, vi (v3 + 6)] [] SHX R M 0 0) : GoX X (d + 1) 305 Q 435 [ve 0, vr 0, vr 364, vi v3] [] SHX R M 0 0 := by
  have e1 : iadd v3 1 = v3 + 1 := iadd_of (by omega) (by omega)
  have e2 : iadd v3 2 = v3 + 2 := iadd_of (by omega) (by omega)
  have e3 : iadd v3 3 = v3 + 3 := iadd_of (by omega) (by omega)
  have e6 : iadd v3 6 = v3 + 6 := iadd_of (by omega) (by omega)
  refine b_law_435 ⟨rfl, by omega, by omega, rfl, by omega, by omega, rfl, by omega, by omega, ook_iff.mpr ⟨by rw [fs0], Mw.mono H fun x sh1 R1 M1 hh => ?_⟩⟩
  obtain ⟨rfl, hh2⟩ := hh
  refine ⟨rfl, by omega, by omega, rfl, by omega, by omega, rfl, by omega, by omega, ook_iff.mpr ⟨by rw [fs364], Mw.mono hh2 fun y sh2 R2 M2 hk => ?_⟩⟩
  obtain ⟨rfl, rfl, hj⟩ := hk
  rw [if_pos rfl]
  refine b_law_955 ?_
  rw [e6]
  exact nx _ _ hj
theorem law_c20 {X : Int × (Int → Int)} {d : Nat} {Q : RES} {R M : MEM} {J : MEM → MEM → Prop} {v3 : Int} (h0 : 0 ≤ v3) (h1 : v3 + 6 ≤ X.1) (h2 : X.1 ≤ 100000) (H : PR d 125 248 [vi (X.2 (iadd v3 1)), vi (X.2 (iadd v3 2)), vi (X.2 (iadd v3 3)), vi (X.2 (iadd v3 4))] R M J) (nx : ∀ R M, J R M → GoX X (d + 1) 305 Q 10 [ve 0, vr 0, vr 364, vi (v3 + 6)] [] SHX R M 0 0) : GoX X (d + 1) 305 Q 472 [ve 0, vr 0, vr 364, vi v3] [] SHX R M 0 0 := by
  have e1 : iadd v3 1 = v3 + 1 := iadd_of (by omega) (by omega)
  have e2 : iadd v3 2 = v3 + 2 := iadd_of (by omega) (by omega)
  have e3 : iadd v3 3 = v3 + 3 := iadd_of (by omega) (by omega)
  have e4 : iadd v3 4 = v3 + 4 := iadd_of (by omega) (by omega)
  have e6 : iadd v3 6 = v3 + 6 := iadd_of (by omega) (by omega)
  refine b_law_472 ⟨rfl, by omega, by omega, rfl, by omega, by omega, rfl, by omega, by omega, rfl, by omega, by omega, ook_iff.mpr ⟨by rw [fs0], Mw.mono H fun x sh1 R1 M1 hh => ?_⟩⟩
  obtain ⟨rfl, hh2⟩ := hh
  refine ⟨rfl, by omega, by omega, rfl, by omega, by omega, rfl, by omega, by omega, rfl, by omega, by omega, ook_iff.mpr ⟨by rw [fs364], Mw.mono hh2 fun y sh2 R2 M2 hk => ?_⟩⟩
  obtain ⟨rfl, rfl, hj⟩ := hk
  rw [if_pos rfl]
  refine b_law_955 ?_
  rw [e6]
  exact nx _ _ hj
theorem law_c21 {X : Int × (Int → Int)} {d : Nat} {Q : RES} {R M : MEM} {J : MEM → MEM → Prop} {v3 : Int} (h0 : 0 ≤ v3) (h1 : v3 + 6 ≤ X.1) (h2 : X.1 ≤ 100000) (H : PR d 126 249 [vi (X.2 (iadd v3 1)), vi (X.2 (iadd v3 2))] R M J) (nx : ∀ R M, J R M → GoX X (d + 1) 305 Q 10 [ve 0, vr 0, vr 364, vi (v3 + 6)] [] SHX R M 0 0) : GoX X (d + 1) 305 Q 519 [ve 0, vr 0, vr 364, vi v3] [] SHX R M 0 0 := by
  have e1 : iadd v3 1 = v3 + 1 := iadd_of (by omega) (by omega)
  have e2 : iadd v3 2 = v3 + 2 := iadd_of (by omega) (by omega)
  have e6 : iadd v3 6 = v3 + 6 := iadd_of (by omega) (by omega)
  refine b_law_519 ⟨rfl, by omega, by omega, rfl, by omega, by omega, ook_iff.mpr ⟨by rw [fs0], Mw.mono H fun x sh1 R1 M1 hh => ?_⟩⟩
  obtain ⟨rfl, hh2⟩ := hh
  refine ⟨rfl, by omega, by omega, rfl, by omega, by omega, ook_iff.mpr ⟨by rw [fs364], Mw.mono hh2 fun y sh2 R2 M2 hk => ?_⟩⟩
  obtain ⟨rfl, rfl, hj⟩ := hk
  rw [if_pos rfl]
  refine b_law_955 ?_
  rw [e6]
  exact nx _ _ hj
theorem law_c22 {X : Int × (Int → Int)} {d : Nat} {Q : RES} {R M : MEM} {J : MEM → MEM → Prop} {v3 : Int} (h0 : 0 ≤ v3) (h1 : v3 + 6 ≤ X.1) (h2 : X.1 ≤ 100000) (H : PR d 127 250 [vi (X.2 (iadd v3 1)), vi (X.2 (iadd v3 2)), vi (X.2 (iadd v3 3)), vi (X.2 (iadd v3 4)), vi (X.2 (iadd v3 5))] R M J) (nx : ∀ R M, J R M → GoX X (d + 1) 305 Q 10 [ve 0, vr 0, vr 364, vi (v3 + 6)] [] SHX R M 0 0) : GoX X (d + 1) 305 Q 546 [ve 0, vr 0, vr 364, vi v3] [] SHX R M 0 0 := by
  have e1 : iadd v3 1 = v3 + 1 := iadd_of (by omega) (by omega)
  have e2 : iadd v3 2 = v3 + 2 := iadd_of (by omega) (by omega)
  have e3 : iadd v3 3 = v3 + 3 := iadd_of (by omega) (by omega)
  have e4 : iadd v3 4 = v3 + 4 := iadd_of (by omega) (by omega)
  have e5 : iadd v3 5 = v3 + 5 := iadd_of (by omega) (by omega)
  have e6 : iadd v3 6 = v3 + 6 := iadd_of (by omega) (by omega)
  refine b_law_546 ⟨rfl, by omega, by omega, rfl, by omega, by omega, rfl, by omega, by omega, rfl, by omega, by omega, rfl, by omega, by omega, ook_iff.mpr ⟨by rw [fs0], Mw.mono H fun x sh1 R1 M1 hh => ?_⟩⟩
  obtain ⟨rfl, hh2⟩ := hh
  refine ⟨rfl, by omega, by omega, rfl, by omega, by omega, rfl, by omega, by omega, rfl, by omega, by omega, rfl, by omega, by omega, ook_iff.mpr ⟨by rw [fs364], Mw.mono hh2 fun y sh2 R2 M2 hk => ?_⟩⟩
  obtain ⟨rfl, rfl, hj⟩ := hk
  rw [if_pos rfl]
  refine b_law_955 ?_
  rw [e6]
  exact nx _ _ hj
theorem law_c23 {X : Int × (Int → Int)} {d : Nat} {Q : RES} {R M : MEM} {J : MEM → MEM → Prop} {v3 : Int} (h0 : 0 ≤ v3) (h1 : v3 + 6 ≤ X.1) (h2 : X.1 ≤ 100000) (H : PR d 128 252 [vi (X.2 (iadd v3 1)), vi (X.2 (iadd v3 2)), vi (X.2 (iadd v3 3))] R M J) (nx : ∀ R M, J R M → GoX X (d + 1) 305 Q 10 [ve 0, vr 0, vr 364, vi (v3 + 6)] [] SHX R M 0 0) : GoX X (d + 1) 305 Q 603 [ve 0, vr 0, vr 364, vi v3] [] SHX R M 0 0 := by
  have e1 : iadd v3 1 = v3 + 1 := iadd_of (by omega) (by omega)
  have e2 : iadd v3 2 = v3 + 2 := iadd_of (by omega) (by omega)
  have e3 : iadd v3 3 = v3 + 3 := iadd_of (by omega) (by omega)
  have e6 : iadd v3 6 = v3 + 6 := iadd_of (by omega) (by omega)
  refine b_law_603 ⟨rfl, by omega, by omega, rfl, by omega, by omega, rfl, by omega, by omega, ook_iff.mpr ⟨by rw [fs0], Mw.mono H fun x sh1 R1 M1 hh => ?_⟩⟩
  obtain ⟨rfl, hh2⟩ := hh
  refine ⟨rfl, by omega, by omega, rfl, by omega, by omega, rfl, by omega, by omega, ook_iff.mpr ⟨by rw [fs364], Mw.mono hh2 fun y sh2 R2 M2 hk => ?_⟩⟩
  obtain ⟨rfl, rfl, hj⟩ := hk
  rw [if_pos rfl]
  refine b_law_955 ?_
  rw [e6]
  exact nx _ _ hj
theorem law_c24 {X : Int × (Int → Int)} {d : Nat} {Q : RES} {R M : MEM} {J : MEM → MEM → Prop} {v3 : Int} (h0 : 0 ≤ v3) (h1 : v3 + 6 ≤ X.1) (h2 : X.1 ≤ 100000) (H : PR d 129 253 [vi (X.2 (iadd v3 1)), vi (X.2 (iadd v3 2)), vi (X.2 (iadd v3 3))] R M J) (nx : ∀ R M, J R M → GoX X (d + 1) 305 Q 10 [ve 0, vr 0, vr 364, vi (v3 + 6)] [] SHX R M 0 0) : GoX X (d + 1) 305 Q 640 [ve 0, vr 0, vr 364, vi v3] [] SHX R M 0 0 := by
  have e1 : iadd v3 1 = v3 + 1 := iadd_of (by omega) (by omega)
  have e2 : iadd v3 2 = v3 + 2 := iadd_of (by omega) (by omega)
  have e3 : iadd v3 3 = v3 + 3 := iadd_of (by omega) (by omega)
  have e6 : iadd v3 6 = v3 + 6 := iadd_of (by omega) (by omega)
  refine b_law_640 ⟨rfl, by omega, by omega, rfl, by omega, by omega, rfl, by omega, by omega, ook_iff.mpr ⟨by rw [fs0], Mw.mono H fun x sh1 R1 M1 hh => ?_⟩⟩
  obtain ⟨rfl, hh2⟩ := hh
  refine ⟨rfl, by omega, by omega, rfl, by omega, by omega, rfl, by omega, by omega, ook_iff.mpr ⟨by rw [fs364], Mw.mono hh2 fun y sh2 R2 M2 hk => ?_⟩⟩
  obtain ⟨rfl, rfl, hj⟩ := hk
  rw [if_pos rfl]
  refine b_law_955 ?_
  rw [e6]
  exact nx _ _ hj
theorem law_c25 {X : Int × (Int → Int)} {d : Nat} {Q : RES} {R M : MEM} {J : MEM → MEM → Prop} {v3 : Int} (h0 : 0 ≤ v3) (h1 : v3 + 6 ≤ X.1) (h2 : X.1 ≤ 100000) (H : PR d 130 254 [vi (X.2 (iadd v3 1)), vi (X.2 (iadd v3 2))] R M J) (nx : ∀ R M, J R M → GoX X (d + 1) 305 Q 10 [ve 0, vr 0, vr 364, vi (v3 + 6)] [] SHX R M 0 0) : GoX X (d + 1) 305 Q 677 [ve 0, vr 0, vr 364, vi v3] [] SHX R M 0 0 := by
  have e1 : iadd v3 1 = v3 + 1 := iadd_of (by omega) (by omega)
  have e2 : iadd v3 2 = v3 + 2 := iadd_of (by omega) (by omega)
  have e6 : iadd v3 6 = v3 + 6 := iadd_of (by omega) (by omega)
  refine b_law_677 ⟨rfl, by omega, by omega, rfl, by omega, by omega, ook_iff.mpr ⟨by rw [fs0], Mw.mono H fun x sh1 R1 M1 hh => ?_⟩⟩
  obtain ⟨rfl, hh2⟩ := hh
  refine ⟨rfl, by omega, by omega, rfl, by omega, by omega, ook_iff.mpr ⟨by rw [fs364], Mw.mono hh2 fun y sh2 R2 M2 hk => ?_⟩⟩
  obtain ⟨rfl, rfl, hj⟩ := hk
  rw [if_pos rfl]
  refine b_law_955 ?_
  rw [e6]
  exact nx _ _ hj
theorem law_c26 {X : Int × (Int → Int)} {d : Nat} {Q : RES} {R M : MEM} {J : MEM → MEM → Prop} {v3 : Int} (h0 : 0 ≤ v3) (h1 : v3 + 6 ≤ X.1) (h2 : X.1 ≤ 100000) (H : PR d 131 257 [] R M J) (nx : ∀ R M, J R M → GoX X (d + 1) 305 Q 10 [ve 0, vr 0, vr 364, vi (v3 + 6)] [] SHX R M 0 0) : GoX X (d + 1) 305 Q 704 [ve 0, vr 0, vr 364, vi v3] [] SHX R M 0 0 := by
  have e6 : iadd v3 6 = v3 + 6 := iadd_of (by omega) (by omega)
  refine b_law_704 (ook_iff.mpr ⟨by rw [fs0], Mw.mono H fun x sh1 R1 M1 hh => ?_⟩)
  obtain ⟨rfl, hh2⟩ := hh
  refine ook_iff.mpr ⟨by rw [fs364], Mw.mono hh2 fun y sh2 R2 M2 hk => ?_⟩
  obtain ⟨rfl, rfl, hj⟩ := hk
  rw [if_pos rfl]
  refine b_law_955 ?_
  rw [e6]
  exact nx _ _ hj
theorem law_c27 {X : Int × (Int → Int)} {d : Nat} {Q : RES} {R M : MEM} {J : MEM → MEM → Prop} {v3 : Int} (h0 : 0 ≤ v3) (h1 : v3 + 6 ≤ X.1) (h2 : X.1 ≤ 100000) (H : PR d 132 258 [vi (X.2 (iadd v3 1)), vi (X.2 (iadd v3 2))] R M J) (nx : ∀ R M, J R M → GoX X (d + 1) 305 Q 10 [ve 0, vr 0, vr 364, vi (v3 + 6)] [] SHX R M 0 0) : GoX X (d + 1) 305 Q 711 [ve 0, vr 0, vr 364, vi v3] [] SHX R M 0 0 := by
  have e1 : iadd v3 1 = v3 + 1 := iadd_of (by omega) (by omega)
  have e2 : iadd v3 2 = v3 + 2 := iadd_of (by omega) (by omega)
  have e6 : iadd v3 6 = v3 + 6 := iadd_of (by omega) (by omega)
  refine b_law_711 ⟨rfl, by omega, by omega, rfl, by omega, by omega, ook_iff.mpr ⟨by rw [fs0], Mw.mono H fun x sh1 R1 M1 hh => ?_⟩⟩
  obtain ⟨rfl, hh2⟩ := hh
  refine ⟨rfl, by omega, by omega, rfl, by omega, by omega, ook_iff.mpr ⟨by rw [fs364], Mw.mono hh2 fun y sh2 R2 M2 hk => ?_⟩⟩
  obtain ⟨rfl, rfl, hj⟩ := hk
  rw [if_pos rfl]
  refine b_law_955 ?_
  rw [e6]
  exact nx _ _ hj
theorem law_c28 {X : Int × (Int → Int)} {d : Nat} {Q : RES} {R M : MEM} {J : MEM → MEM → Prop} {v3 : Int} (h0 : 0 ≤ v3) (h1 : v3 + 6 ≤ X.1) (h2 : X.1 ≤ 100000) (H : PR d 133 259 [] R M J) (nx : ∀ R M, J R M → GoX X (d + 1) 305 Q 10 [ve 0, vr 0, vr 364, vi (v3 + 6)] [] SHX R M 0 0) : GoX X (d + 1) 305 Q 738 [ve 0, vr 0, vr 364, vi v3] [] SHX R M 0 0 := by
  have e6 : iadd v3 6 = v3 + 6 := iadd_of (by omega) (by omega)
  refine b_law_738 (ook_iff.mpr ⟨by rw [fs0], Mw.mono H fun x sh1 R1 M1 hh => ?_⟩)
  obtain ⟨rfl, hh2⟩ := hh
  refine ook_iff.mpr ⟨by rw [fs364], Mw.mono hh2 fun y sh2 R2 M2 hk => ?_⟩
  obtain ⟨rfl, rfl, hj⟩ := hk
  rw [if_pos rfl]
  refine b_law_955 ?_
  rw [e6]
  exact nx _ _ hj
theorem law_c29 {X : Int × (Int → Int)} {d : Nat} {Q : RES} {R M : MEM} {J : MEM → MEM → Prop} {v3 : Int} (h0 : 0 ≤ v3) (h1 : v3 + 6 ≤ X.1) (h2 : X.1 ≤ 100000) (H : PR d 134 262 [] R M J) (nx : ∀ R M, J R M → GoX X (d + 1) 305 Q 10 [ve 0, vr 0, vr 364, vi (v3 + 6)] [] SHX R M 0 0) : GoX X (d + 1) 305 Q 745 [ve 0, vr 0, vr 364, vi v3] [] SHX R M 0 0 := by
  have e6 : iadd v3 6 = v3 + 6 := iadd_of (by omega) (by omega)
  refine b_law_745 (ook_iff.mpr ⟨by rw [fs0], Mw.mono H fun x sh1 R1 M1 hh => ?_⟩)
  obtain ⟨rfl, hh2⟩ := hh
  refine ook_iff.mpr ⟨by rw [fs364], Mw.mono hh2 fun y sh2 R2 M2 hk => ?_⟩
  obtain ⟨rfl, rfl, hj⟩ := hk
  rw [if_pos rfl]
  refine b_law_955 ?_
  rw [e6]
  exact nx _ _ hj
theorem law_c30 {X : Int × (Int → Int)} {d : Nat} {Q : RES} {R M : MEM} {J : MEM → MEM → Prop} {v3 : Int} (h0 : 0 ≤ v3) (h1 : v3 + 6 ≤ X.1) (h2 : X.1 ≤ 100000) (H : PR d 135 224 [vi (X.2 (iadd v3 1))] R M J) (nx : ∀ R M, J R M → GoX X (d + 1) 305 Q 10 [ve 0, vr 0, vr 364, vi (v3 + 6)] [] SHX R M 0 0) : GoX X (d + 1) 305 Q 752 [ve 0, vr 0, vr 364, vi v3] [] SHX R M 0 0 := by
  have e1 : iadd v3 1 = v3 + 1 := iadd_of (by omega) (by omega)
  have e6 : iadd v3 6 = v3 + 6 := iadd_of (by omega) (by omega)
  refine b_law_752 ⟨rfl, by omega, by omega, ook_iff.mpr ⟨by rw [fs0], Mw.mono H fun x sh1 R1 M1 hh => ?_⟩⟩
  obtain ⟨rfl, hh2⟩ := hh
  refine ⟨rfl, by omega, by omega, ook_iff.mpr ⟨by rw [fs364], Mw.mono hh2 fun y sh2 R2 M2 hk => ?_⟩⟩
  obtain ⟨rfl, rfl, hj⟩ := hk
  rw [if_pos rfl]
  refine b_law_955 ?_
  rw [e6]
  exact nx _ _ hj
theorem law_c31 {X : Int × (Int → Int)} {d : Nat} {Q : RES} {R M : MEM} {J : MEM → MEM → Prop} {v3 : Int} (h0 : 0 ≤ v3) (h1 : v3 + 6 ≤ X.1) (h2 : X.1 ≤ 100000) (H : PR d 136 263 [vi (X.2 (iadd v3 1)), vi (X.2 (iadd v3 2)), vi (X.2 (iadd v3 3))] R M J) (nx : ∀ R M, J R M → GoX X (d + 1) 305 Q 10 [ve 0, vr 0, vr 364, vi (v3 + 6)] [] SHX R M 0 0) : GoX X (d + 1) 305 Q 769 [ve 0, vr 0, vr 364, vi v3] [] SHX R M 0 0 := by
  have e1 : iadd v3 1 = v3 + 1 := iadd_of (by omega) (by omega)
  have e2 : iadd v3 2 = v3 + 2 := iadd_of (by omega) (by omega)
  have e3 : iadd v3 3 = v3 + 3 := iadd_of (by omega) (by omega)
  have e6 : iadd v3 6 = v3 + 6 := iadd_of (by omega) (by omega)
  refine b_law_769 ⟨rfl, by omega, by omega, rfl, by omega, by omega, rfl, by omega, by omega, ook_iff.mpr ⟨by rw [fs0], Mw.mono H fun x sh1 R1 M1 hh => ?_⟩⟩
  obtain ⟨rfl, hh2⟩ := hh
  refine ⟨rfl, by omega, by omega, rfl, by omega, by omega, rfl, by omega, by omega, ook_iff.mpr ⟨by rw [fs364], Mw.mono hh2 fun y sh2 R2 M2 hk => ?_⟩⟩
  obtain ⟨rfl, rfl, hj⟩ := hk
  rw [if_pos rfl]
  refine b_law_955 ?_
  rw [e6]
  exact nx _ _ hj
theorem law_c32 {X : Int × (Int → Int)} {d : Nat} {Q : RES} {R M : MEM} {J : MEM → MEM → Prop} {v3 : Int} (h0 : 0 ≤ v3) (h1 : v3 + 6 ≤ X.1) (h2 : X.1 ≤ 100000) (H : PR d 137 264 [vi (X.2 (iadd v3 1))] R M J) (nx : ∀ R M, J R M → GoX X (d + 1) 305 Q 10 [ve 0, vr 0, vr 364, vi (v3 + 6)] [] SHX R M 0 0) : GoX X (d + 1) 305 Q 806 [ve 0, vr 0, vr 364, vi v3] [] SHX R M 0 0 := by
  have e1 : iadd v3 1 = v3 + 1 := iadd_of (by omega) (by omega)
  have e6 : iadd v3 6 = v3 + 6 := iadd_of (by omega) (by omega)
  refine b_law_806 ⟨rfl, by omega, by omega, ook_iff.mpr ⟨by rw [fs0], Mw.mono H fun x sh1 R1 M1 hh => ?_⟩⟩
  obtain ⟨rfl, hh2⟩ := hh
  intro _
  refine ⟨rfl, by omega, by omega, ook_iff.mpr ⟨by rw [fs364], Mw.mono hh2 fun y sh2 R2 M2 hk => ?_⟩⟩
  obtain ⟨rfl, rfl, hj⟩ := hk
  intro _
  rw [if_pos rfl]
  refine b_law_955 ?_
  rw [e6]
  exact nx _ _ hj
theorem law_c33 {X : Int × (Int → Int)} {d : Nat} {Q : RES} {R M : MEM} {J : MEM → MEM → Prop} {v3 : Int} (h0 : 0 ≤ v3) (h1 : v3 + 6 ≤ X.1) (h2 : X.1 ≤ 100000) (H : PR d 138 265 [vi (X.2 (iadd v3 1))] R M J) (nx : ∀ R M, J R M → GoX X (d + 1) 305 Q 10 [ve 0, vr 0, vr 364, vi (v3 + 6)] [] SHX R M 0 0) : GoX X (d + 1) 305 Q 823 [ve 0, vr 0, vr 364, vi v3] [] SHX R M 0 0 := by
  have e1 : iadd v3 1 = v3 + 1 := iadd_of (by omega) (by omega)
  have e6 : iadd v3 6 = v3 + 6 := iadd_of (by omega) (by omega)
  refine b_law_823 ⟨rfl, by omega, by omega, ook_iff.mpr ⟨by rw [fs0], Mw.mono H fun x sh1 R1 M1 hh => ?_⟩⟩
  obtain ⟨rfl, hh2⟩ := hh
  refine ⟨rfl, by omega, by omega, ook_iff.mpr ⟨by rw [fs364], Mw.mono hh2 fun y sh2 R2 M2 hk => ?_⟩⟩
  obtain ⟨rfl, rfl, hj⟩ := hk
  rw [if_pos rfl]
  refine b_law_955 ?_
  rw [e6]
  exact nx _ _ hj
theorem law_c34 {X : Int × (Int → Int)} {d : Nat} {Q : RES} {R M : MEM} {J : MEM → MEM → Prop} {v3 : Int} (h0 : 0 ≤ v3) (h1 : v3 + 6 ≤ X.1) (h2 : X.1 ≤ 100000) (H : PR d 139 270 [vi (X.2 (iadd v3 1)), vi (X.2 (iadd v3 2))] R M J) (nx : ∀ R M, J R M → GoX X (d + 1) 305 Q 10 [ve 0, vr 0, vr 364, vi (v3 + 6)] [] SHX R M 0 0) : GoX X (d + 1) 305 Q 840 [ve 0, vr 0, vr 364, vi v3] [] SHX R M 0 0 := by
  have e1 : iadd v3 1 = v3 + 1 := iadd_of (by omega) (by omega)
  have e2 : iadd v3 2 = v3 + 2 := iadd_of (by omega) (by omega)
  have e6 : iadd v3 6 = v3 + 6 := iadd_of (by omega) (by omega)
  refine b_law_840 ⟨rfl, by omega, by omega, rfl, by omega, by omega, ook_iff.mpr ⟨by rw [fs0], Mw.mono H fun x sh1 R1 M1 hh => ?_⟩⟩
  obtain ⟨rfl, hh2⟩ := hh
  refine ⟨rfl, by omega, by omega, rfl, by omega, by omega, ook_iff.mpr ⟨by rw [fs364], Mw.mono hh2 fun y sh2 R2 M2 hk => ?_⟩⟩
  obtain ⟨rfl, rfl, hj⟩ := hk
  rw [if_pos rfl]
  refine b_law_955 ?_
  rw [e6]
  exact nx _ _ hj
theorem law_c35 {X : Int × (Int → Int)} {d : Nat} {Q : RES} {R M : MEM} {J : MEM → MEM → Prop} {v3 : Int} (h0 : 0 ≤ v3) (h1 : v3 + 6 ≤ X.1) (h2 : X.1 ≤ 100000) (H : PR d 140 271 [vi (X.2 (iadd v3 1)), vi (X.2 (iadd v3 2)), vi (X.2 (iadd v3 3))] R M J) (nx : ∀ R M, J R M → GoX X (d + 1) 305 Q 10 [ve 0, vr 0, vr 364, vi (v3 + 6)] [] SHX R M 0 0) : GoX X (d + 1) 305 Q 867 [ve 0, vr 0, vr 364, vi v3] [] SHX R M 0 0 := by
  have e1 : iadd v3 1 = v3 + 1 := iadd_of (by omega) (by omega)
  have e2 : iadd v3 2 = v3 + 2 := iadd_of (by omega) (by omega)
  have e3 : iadd v3 3 = v3 + 3 := iadd_of (by omega) (by omega)
  have e6 : iadd v3 6 = v3 + 6 := iadd_of (by omega) (by omega)
  refine b_law_867 ⟨rfl, by omega, by omega, rfl, by omega, by omega, rfl, by omega, by omega, ook_iff.mpr ⟨by rw [fs0], Mw.mono H fun x sh1 R1 M1 hh => ?_⟩⟩
  obtain ⟨rfl, hh2⟩ := hh
  refine ⟨rfl, by omega, by omega, rfl, by omega, by omega, rfl, by omega, by omega, ook_iff.mpr ⟨by rw [fs364], Mw.mono hh2 fun y sh2 R2 M2 hk => ?_⟩⟩
  obtain ⟨rfl, rfl, hj⟩ := hk
  rw [if_pos rfl]
  refine b_law_955 ?_
  rw [e6]
  exact nx _ _ hj
theorem law_c36 {X : Int × (Int → Int)} {d : Nat} {Q : RES} {R M : MEM} {J : MEM → MEM → Prop} {v3 : Int} (h0 : 0 ≤ v3) (h1 : v3 + 6 ≤ X.1) (h2 : X.1 ≤ 100000) (H : PR d 141 272 [vi (X.2 (iadd v3 1))] R M J) (nx : ∀ R M, J R M → GoX X (d + 1) 305 Q 10 [ve 0, vr 0, vr 364, vi (v3 + 6)] [] SHX R M 0 0) : GoX X (d + 1) 305 Q 904 [ve 0, vr 0, vr 364, vi v3] [] SHX R M 0 0 := by
  have e1 : iadd v3 1 = v3 + 1 := iadd_of (by omega) (by omega)
  have e6 : iadd v3 6 = v3 + 6 := iadd_of (by omega) (by omega)
  refine b_law_904 ⟨rfl, by omega, by omega, ook_iff.mpr ⟨by rw [fs0], Mw.mono H fun x sh1 R1 M1 hh => ?_⟩⟩
  obtain ⟨rfl, hh2⟩ := hh
  refine ⟨rfl, by omega, by omega, ook_iff.mpr ⟨by rw [fs364], Mw.mono hh2 fun y sh2 R2 M2 hk => ?_⟩⟩
  obtain ⟨rfl, rfl, hj⟩ := hk
  rw [if_pos rfl]
  refine b_law_955 ?_
  rw [e6]
  exact nx _ _ hj
theorem law_c37 {X : Int × (Int → Int)} {d : Nat} {Q : RES} {R M : MEM} {J : MEM → MEM → Prop} {v3 : Int} (h0 : 0 ≤ v3) (h1 : v3 + 6 ≤ X.1) (h2 : X.1 ≤ 100000) (H : PR d 142 273 [vi (X.2 (iadd v3 1))] R M J) (nx : ∀ R M, J R M → GoX X (d + 1) 305 Q 10 [ve 0, vr 0, vr 364, vi (v3 + 6)] [] SHX R M 0 0) : GoX X (d + 1) 305 Q 921 [ve 0, vr 0, vr 364, vi v3] [] SHX R M 0 0 := by
  have e1 : iadd v3 1 = v3 + 1 := iadd_of (by omega) (by omega)
  have e6 : iadd v3 6 = v3 + 6 := iadd_of (by omega) (by omega)
  refine b_law_921 ⟨rfl, by omega, by omega, ook_iff.mpr ⟨by rw [fs0], Mw.mono H fun x sh1 R1 M1 hh => ?_⟩⟩
  obtain ⟨rfl, hh2⟩ := hh
  refine ⟨rfl, by omega, by omega, ook_iff.mpr ⟨by rw [fs364], Mw.mono hh2 fun y sh2 R2 M2 hk => ?_⟩⟩
  obtain ⟨rfl, rfl, hj⟩ := hk
  rw [if_pos rfl]
  refine b_law_955 ?_
  rw [e6]
  exact nx _ _ hj
theorem law_c38 {X : Int × (Int → Int)} {d : Nat} {Q : RES} {R M : MEM} {J : MEM → MEM → Prop} {v3 : Int} (h0 : 0 ≤ v3) (h1 : v3 + 6 ≤ X.1) (h2 : X.1 ≤ 100000) (H : PR d 143 274 [vi (X.2 (iadd v3 1))] R M J) (nx : ∀ R M, J R M → GoX X (d + 1) 305 Q 10 [ve 0, vr 0, vr 364, vi (v3 + 6)] [] SHX R M 0 0) : GoX X (d + 1) 305 Q 938 [ve 0, vr 0, vr 364, vi v3] [] SHX R M 0 0 := by
  have e1 : iadd v3 1 = v3 + 1 := iadd_of (by omega) (by omega)
  have e6 : iadd v3 6 = v3 + 6 := iadd_of (by omega) (by omega)
  refine b_law_938 ⟨rfl, by omega, by omega, ook_iff.mpr ⟨by rw [fs0], Mw.mono H fun x sh1 R1 M1 hh => ?_⟩⟩
  obtain ⟨rfl, hh2⟩ := hh
  refine ⟨rfl, by omega, by omega, ook_iff.mpr ⟨by rw [fs364], Mw.mono hh2 fun y sh2 R2 M2 hk => ?_⟩⟩
  obtain ⟨rfl, rfl, hj⟩ := hk
  rw [if_pos rfl]
  refine b_law_955 ?_
  rw [e6]
  exact nx _ _ hj
