/-! THE LAW'S CASES AND ITS LOOP -/
theorem fs0 : shk SHX 0 = (11, 0) := by decide +kernel
/-- a call of the class and the same of the reference: like answers, and then J -/
def PR (d c r : Nat) (as : List AV) (R M : MEM) (J : MEM → MEM → Prop) : Prop := Mw d c (vr 0 :: as) SHX R M 0 0 (fun x sh1 R1 M1 => sh1 = SHX ∧ Mw d r (vr 364 :: as) SHX R1 M1 0 0 (fun y sh2 R2 M2 => sh2 = SHX ∧ x = y ∧ J R2 M2))
theorem law_c0 {X : Int × (Int → Int)} {d : Nat} {Q : RES} {R M : MEM} {J : MEM → MEM → Prop} {v3 : Int} (h0 : 0 ≤ v3) (h1 : v3 + 6 ≤ X.1) (h2 : X.1 ≤ 100000) (H : PR d 105 275 [vi (X.2 (iadd v3 1)), vi (X.2 (iadd v3 2)), vi (X.2 (iadd v3 3)), vi (X.2 (iadd v3 4)), vi (X.2 (iadd v3 5))] R M J) (nx : ∀ R M, J R M → GoX X (d + 1) 305 Q 10 [ve 0, vr 0, vr 364, vi (v3 + 6)] [] SHX R M 0 0) : GoX X (d + 1) 305 Q 22 [ve 0, vr 0, vr 364, vi v3] [] SHX R M 0 0 := by
  have e1 : iadd v3 1 = v3 + 1 := iadd_of (by omega) (by omega)
  have e2 : iadd v3 2 = v3 + 2 := iadd_of (by omega) (by omega)
  have e3 : iadd v3 3 = v3 + 3 := iadd_of (by omega) (by omega)
  have e4 : iadd v3 4 = v3 + 4 := iadd_of (by omega) (by omega)
  have e5 : iadd v3 5 = v3 + 5 := iadd_of (by omega) (by omega)
  have e6 : iadd v3 6 = v3 + 6 := iadd_of (by omega) (by omega)
  refine b_law_22 ⟨rfl, by omega, by omega, rfl, by omega, by omega, rfl, by omega, by omega, rfl, by omega, by omega, rfl, by omega, by omega, ook_iff.mpr ⟨by rw [fs0], Mw.mono H fun x sh1 R1 M1 hh => ?_⟩⟩
  obtain ⟨rfl, hh2⟩ := hh
  refine ⟨rfl, by omega, by omega, rfl, by omega, by omega, rfl, by omega, by omega, rfl, by omega, by omega, rfl, by omega, by omega, ook_iff.mpr ⟨by rw [fs364], Mw.mono hh2 fun y sh2 R2 M2 hk => ?_⟩⟩
  obtain ⟨rfl, rfl, hj⟩ := hk
  rw [if_pos rfl]
  refine b_law_955 ?_
  rw [e6]
  exact nx _ _ hj
theorem law_c1 {X : Int × (Int → Int)} {d : Nat} {Q : RES} {R M : MEM} {J : MEM → MEM → Prop} {v3 : Int} (h0 : 0 ≤ v3) (h1 : v3 + 6 ≤ X.1) (h2 : X.1 ≤ 100000) (H : PR d 106 276 [vi (X.2 (iadd v3 1))] R M J) (nx : ∀ R M, J R M → GoX X (d + 1) 305 Q 10 [ve 0, vr 0, vr 364, vi (v3 + 6)] [] SHX R M 0 0) : GoX X (d + 1) 305 Q 79 [ve 0, vr 0, vr 364, vi v3] [] SHX R M 0 0 := by
  have e1 : iadd v3 1 = v3 + 1 := iadd_of (by omega) (by omega)
  have e6 : iadd v3 6 = v3 + 6 := iadd_of (by omega) (by omega)
  refine b_law_79 ⟨rfl, by omega, by omega, ook_iff.mpr ⟨by rw [fs0], Mw.mono H fun x sh1 R1 M1 hh => ?_⟩⟩
  obtain ⟨rfl, hh2⟩ := hh
  refine ⟨rfl, by omega, by omega, ook_iff.mpr ⟨by rw [fs364], Mw.mono hh2 fun y sh2 R2 M2 hk => ?_⟩⟩
  obtain ⟨rfl, rfl, hj⟩ := hk
  rw [if_pos rfl]
  refine b_law_955 ?_
  rw [e6]
  exact nx _ _ hj
theorem law_c2 {X : Int × (Int → Int)} {d : Nat} {Q : RES} {R M : MEM} {J : MEM → MEM → Prop} {v3 : Int} (h0 : 0 ≤ v3) (h1 : v3 + 6 ≤ X.1) (h2 : X.1 ≤ 100000) (H : PR d 107 168 [] R M J) (nx : ∀ R M, J R M → GoX X (d + 1) 305 Q 10 [ve 0, vr 0, vr 364, vi (v3 + 6)] [] SHX R M 0 0) : GoX X (d + 1) 305 Q 96 [ve 0, vr 0, vr 364, vi v3] [] SHX R M 0 0 := by
  have e6 : iadd v3 6 = v3 + 6 := iadd_of (by omega) (by omega)
  refine b_law_96 (ook_iff.mpr ⟨by rw [fs0], Mw.mono H fun x sh1 R1 M1 hh => ?_⟩)
  obtain ⟨rfl, hh2⟩ := hh
  refine ook_iff.mpr ⟨by rw [fs364], Mw.mono hh2 fun y sh2 R2 M2 hk => ?_⟩
  obtain ⟨rfl, rfl, hj⟩ := hk
  rw [if_pos rfl]
  refine b_law_955 ?_
  rw [e6]
  exact nx _ _ hj
theorem law_c3 {X : Int × (Int → Int)} {d : Nat} {Q : RES} {R M : MEM} {J : MEM → MEM → Prop} {v3 : Int} (h0 : 0 ≤ v3) (h1 : v3 + 6 ≤ X.1) (h2 : X.1 ≤ 100000) (H : PR d 108 192 [vi (X.2 (iadd v3 1))] R M J) (nx : ∀ R M, J R M → GoX X (d + 1) 305 Q 10 [ve 0, vr 0, vr 364, vi (v3 + 6)] [] SHX R M 0 0) : GoX X (d + 1) 305 Q 103 [ve 0, vr 0, vr 364, vi v3] [] SHX R M 0 0 := by
  have e1 : iadd v3 1 = v3 + 1 := iadd_of (by omega) (by omega)
  have e6 : iadd v3 6 = v3 + 6 := iadd_of (by omega) (by omega)
  refine b_law_103 ⟨rfl, by omega, by omega, ook_iff.mpr ⟨by rw [fs0], Mw.mono H fun x sh1 R1 M1 hh => ?_⟩⟩
  obtain ⟨rfl, hh2⟩ := hh
  refine ⟨rfl, by omega, by omega, ook_iff.mpr ⟨by rw [fs364], Mw.mono hh2 fun y sh2 R2 M2 hk => ?_⟩⟩
  obtain ⟨rfl, rfl, hj⟩ := hk
  rw [if_pos rfl]
  refine b_law_955 ?_
  rw [e6]
  exact nx _ _ hj
theorem law_c4 {X : Int × (Int → Int)} {d : Nat} {Q : RES} {R M : MEM} {J : MEM → MEM → Prop} {v3 : Int} (h0 : 0 ≤ v3) (h1 : v3 + 6 ≤ X.1) (h2 : X.1 ≤ 100000) (H : PR d 109 213 [vi (X.2 (iadd v3 1)), vi (X.2 (iadd v3 2))] R M J) (nx : ∀ R M, J R M → GoX X (d + 1) 305 Q 10 [ve 0, vr 0, vr 364, vi (v3 + 6)] [] SHX R M 0 0) : GoX X (d + 1) 305 Q 120 [ve 0, vr 0, vr 364, vi v3] [] SHX R M 0 0 := by
  have e1 : iadd v3 1 = v3 + 1 := iadd_of (by omega) (by omega)
  have e2 : iadd v3 2 = v3 + 2 := iadd_of (by omega) (by omega)
  have e6 : iadd v3 6 = v3 + 6 := iadd_of (by omega) (by omega)
  refine b_law_120 ⟨rfl, by omega, by omega, rfl, by omega, by omega, ook_iff.mpr ⟨by rw [fs0], Mw.mono H fun x sh1 R1 M1 hh => ?_⟩⟩
  obtain ⟨rfl, hh2⟩ := hh
  refine ⟨rfl, by omega, by omega, rfl, by omega, by omega, ook_iff.mpr ⟨by rw [fs364], Mw.mono hh2 fun y sh2 R2 M2 hk => ?_⟩⟩
  obtain ⟨rfl, rfl, hj⟩ := hk
  rw [if_pos rfl]
  refine b_law_955 ?_
  rw [e6]
  exact nx _ _ hj
theorem law_c5 {X : Int × (Int → Int)} {d : Nat} {Q : RES} {R M : MEM} {J : MEM → MEM → Prop} {v3 : Int} (h0 : 0 ≤ v3) (h1 : v3 + 6 ≤ X.1) (h2 : X.1 ≤ 100000) (H : PR d 110 214 [vi (X.2 (iadd v3 1)), vi (X.2 (iadd v3 2))] R M J) (nx : ∀ R M, J R M → GoX X (d + 1) 305 Q 10 [ve 0, vr 0, vr 364, vi (v3 + 6)] [] SHX R M 0 0) : GoX X (d + 1) 305 Q 147 [ve 0, vr 0, vr 364, vi v3] [] SHX R M 0 0 := by
  have e1 : iadd v3 1 = v3 + 1 := iadd_of (by omega) (by omega)
  have e2 : iadd v3 2 = v3 + 2 := iadd_of (by omega) (by omega)
  have e6 : iadd v3 6 = v3 + 6 := iadd_of (by omega) (by omega)
  refine b_law_147 ⟨rfl, by omega, by omega, rfl, by omega, by omega, ook_iff.mpr ⟨by rw [fs0], Mw.mono H fun x sh1 R1 M1 hh => ?_⟩⟩
  obtain ⟨rfl, hh2⟩ := hh
  refine ⟨rfl, by omega, by omega, rfl, by omega, by omega, ook_iff.mpr ⟨by rw [fs364], Mw.mono hh2 fun y sh2 R2 M2 hk => ?_⟩⟩
  obtain ⟨rfl, rfl, hj⟩ := hk
  rw [if_pos rfl]
  refine b_law_955 ?_
  rw [e6]
  exact nx _ _ hj
theorem law_c6 {X : Int × (Int → Int)} {d : Nat} {Q : RES} {R M : MEM} {J : MEM → MEM → Prop} {v3 : Int} (h0 : 0 ≤ v3) (h1 : v3 + 6 ≤ X.1) (h2 : X.1 ≤ 100000) (H : PR d 111 215 [vi (X.2 (iadd v3 1)), vi (X.2 (iadd v3 2))] R M J) (nx : ∀ R M, J R M → GoX X (d + 1) 305 Q 10 [ve 0, vr 0, vr 364, vi (v3 + 6)] [] SHX R M 0 0) : GoX X (d + 1) 305 Q 174 [ve 0, vr 0, vr 364, vi v3] [] SHX R M 0 0 := by
  have e1 : iadd v3 1 = v3 + 1 := iadd_of (by omega) (by omega)
  have e2 : iadd v3 2 = v3 + 2 := iadd_of (by omega) (by omega)
  have e6 : iadd v3 6 = v3 + 6 := iadd_of (by omega) (by omega)
  refine b_law_174 ⟨rfl, by omega, by omega, rfl, by omega, by omega, ook_iff.mpr ⟨by rw [fs0], Mw.mono H fun x sh1 R1 M1 hh => ?_⟩⟩
  obtain ⟨rfl, hh2⟩ := hh
  refine ⟨rfl, by omega, by omega, rfl, by omega, by omega, ook_iff.mpr ⟨by rw [fs364], Mw.mono hh2 fun y sh2 R2 M2 hk => ?_⟩⟩
  obtain ⟨rfl, rfl, hj⟩ := hk
  rw [if_pos rfl]
  refine b_law_955 ?_
  rw [e6]
  exact nx _ _ hj
theorem law_c7 {X : Int × (Int → Int)} {d : Nat} {Q : RES} {R M : MEM} {J : MEM → MEM → Prop} {v3 : Int} (h0 : 0 ≤ v3) (h1 : v3 + 6 ≤ X.1) (h2 : X.1 ≤ 100000) (H : PR d 112 216 [vi (X.2 (iadd v3 1))] R M J) (nx : ∀ R M, J R M → GoX X (d + 1) 305 Q 10 [ve 0, vr 0, vr 364, vi (v3 + 6)] [] SHX R M 0 0) : GoX X (d + 1) 305 Q 201 [ve 0, vr 0, vr 364, vi v3] [] SHX R M 0 0 := by
  have e1 : iadd v3 1 = v3 + 1 := iadd_of (by omega) (by omega)
  have e6 : iadd v3 6 = v3 + 6 := iadd_of (by omega) (by omega)
  refine b_law_201 ⟨rfl, by omega, by omega, ook_iff.mpr ⟨by rw [fs0], Mw.mono H fun x sh1 R1 M1 hh => ?_⟩⟩
  obtain ⟨rfl, hh2⟩ := hh
  refine ⟨rfl, by omega, by omega, ook_iff.mpr ⟨by rw [fs364], Mw.mono hh2 fun y sh2 R2 M2 hk => ?_⟩⟩
  obtain ⟨rfl, rfl, hj⟩ := hk
  rw [if_pos rfl]
  refine b_law_955 ?_
  rw [e6]
  exact nx _ _ hj
theorem law_c8 {X : Int × (Int → Int)} {d : Nat} {Q : RES} {R M : MEM} {J : MEM → MEM → Prop} {v3 : Int} (h0 : 0 ≤ v3) (h1 : v3 + 6 ≤ X.1) (h2 : X.1 ≤ 100000) (H : PR d 113 219 [vi (X.2 (iadd v3 1)), vi (X.2 (iadd v3 2))] R M J) (nx : ∀ R M, J R M → GoX X (d + 1) 305 Q 10 [ve 0, vr 0, vr 364, vi (v3 + 6)] [] SHX R M 0 0) : GoX X (d + 1) 305 Q 218 [ve 0, vr 0, vr 364, vi v3] [] SHX R M 0 0 := by
  have e1 : iadd v3 1 = v3 + 1 := iadd_of (by omega) (by omega)
  have e2 : iadd v3 2 = v3 + 2 := iadd_of (by omega) (by omega)
  have e6 : iadd v3 6 = v3 + 6 := iadd_of (by omega) (by omega)
  refine b_law_218 ⟨rfl, by omega, by omega, rfl, by omega, by omega, ook_iff.mpr ⟨by rw [fs0], Mw.mono H fun x sh1 R1 M1 hh => ?_⟩⟩
  obtain ⟨rfl, hh2⟩ := hh
  refine ⟨rfl, by omega, by omega, rfl, by omega, by omega, ook_iff.mpr ⟨by rw [fs364], Mw.mono hh2 fun y sh2 R2 M2 hk => ?_⟩⟩
  obtain ⟨rfl, rfl, hj⟩ := hk
  rw [if_pos rfl]
  refine b_law_955 ?_
  rw [e6]
  exact nx _ _ hj
theorem law_c9 {X : Int × (Int → Int)} {d : Nat} {Q : RES} {R M : MEM} {J : MEM → MEM → Prop} {v3 : Int} (h0 : 0 ≤ v3) (h1 : v3 + 6 ≤ X.1) (h2 : X.1 ≤ 100000) (H : PR d 114 220 [vi (X.2 (iadd v3 1))] R M J) (nx : ∀ R M, J R M → GoX X (d + 1) 305 Q 10 [ve 0, vr 0, vr 364, vi (v3 + 6)] [] SHX R M 0 0) : GoX X (d + 1) 305 Q 245 [ve 0, vr 0, vr 364, vi v3] [] SHX R M 0 0 := by
  have e1 : iadd v3 1 = v3 + 1 := iadd_of (by omega) (by omega)
  have e6 : iadd v3 6 = v3 + 6 := iadd_of (by omega) (by omega)
  refine b_law_245 ⟨rfl, by omega, by omega, ook_iff.mpr ⟨by rw [fs0], Mw.mono H fun x sh1 R1 M1 hh => ?_⟩⟩
  obtain ⟨rfl, hh2⟩ := hh
  refine ⟨rfl, by omega, by omega, ook_iff.mpr ⟨by rw [fs364], Mw.mono hh2 fun y sh2 R2 M2 hk => ?_⟩⟩
  obtain ⟨rfl, rfl, hj⟩ := hk
  rw [if_pos rfl]
  refine b_law_955 ?_
  rw [e6]
  exact nx _ _ hj
theorem law_c10 {X : Int × (Int → Int)} {d : Nat} {Q : RES} {R M : MEM} {J : MEM → MEM → Prop} {v3 : Int} (h0 : 0 ≤ v3) (h1 : v3 + 6 ≤ X.1) (h2 : X.1 ≤ 100000) (H : PR d 115 221 [] R M J) (nx : ∀ R M, J R M → GoX X (d + 1) 305 Q 10 [ve 0, vr 0, vr 364, vi (v3 + 6)] [] SHX R M 0 0) : GoX X (d + 1) 305 Q 262 [ve 0, vr 0, vr 364, vi v3] [] SHX R M 0 0 := by
  have e6 : iadd v3 6 = v3 + 6 := iadd_of (by omega) (by omega)
  refine b_law_262 (ook_iff.mpr ⟨by rw [fs0], Mw.mono H fun x sh1 R1 M1 hh => ?_⟩)
  obtain ⟨rfl, hh2⟩ := hh
  refine ook_iff.mpr ⟨by rw [fs364], Mw.mono hh2 fun y sh2 R2 M2 hk => ?_⟩
  obtain ⟨rfl, rfl, hj⟩ := hk
  rw [if_pos rfl]
  refine b_law_955 ?_
  rw [e6]
  exact nx _ _ hj
theorem law_c11 {X : Int × (Int → Int)} {d : Nat} {Q : RES} {R M : MEM} {J : MEM → MEM → Prop} {v3 : Int} (h0 : 0 ≤ v3) (h1 : v3 + 6 ≤ X.1) (h2 : X.1 ≤ 100000) (H : PR d 116 222 [] R M J) (nx : ∀ R M, J R M → GoX X (d + 1) 305 Q 10 [ve 0, vr 0, vr 364, vi (v3 + 6)] [] SHX R M 0 0) : GoX X (d + 1) 305 Q 269 [ve 0, vr 0, vr 364, vi v3] [] SHX R M 0 0 := by
  have e6 : iadd v3 6 = v3 + 6 := iadd_of (by omega) (by omega)
  refine b_law_269 (ook_iff.mpr ⟨by rw [fs0], Mw.mono H fun x sh1 R1 M1 hh => ?_⟩)
  obtain ⟨rfl, hh2⟩ := hh
  intro _
  refine ook_iff.mpr ⟨by rw [fs364], Mw.mono hh2 fun y sh2 R2 M2 hk => ?_⟩
  obtain ⟨rfl, rfl, hj⟩ := hk
  intro _
  rw [if_pos rfl]
  refine b_law_955 ?_
  rw [e6]
  exact nx _ _ hj
theorem law_c12 {X : Int × (Int → Int)} {d : Nat} {Q : RES} {R M : MEM} {J : MEM → MEM → Prop} {v3 : Int} (h0 : 0 ≤ v3) (h1 : v3 + 6 ≤ X.1) (h2 : X.1 ≤ 100000) (H : PR d 117 223 [] R M J) (nx : ∀ R M, J R M → GoX X (d + 1) 305 Q 10 [ve 0, vr 0, vr 364, vi (v3 + 6)] [] SHX R M 0 0) : GoX X (d + 1) 305 Q 276 [ve 0, vr 0, vr 364, vi v3] [] SHX R M 0 0 := by
  have e6 : iadd v3 6 = v3 + 6 := iadd_of (by omega) (by omega)
  refine b_law_276 (ook_iff.mpr ⟨by rw [fs0], Mw.mono H fun x sh1 R1 M1 hh => ?_⟩)
  obtain ⟨rfl, hh2⟩ := hh
  intro _
  refine ook_iff.mpr ⟨by rw [fs364], Mw.mono hh2 fun y sh2 R2 M2 hk => ?_⟩
  obtain ⟨rfl, rfl, hj⟩ := hk
  intro _
  rw [if_pos rfl]
  refine b_law_955 ?_
  rw [e6]
  exact nx _ _ hj
theorem law_c13 {X : Int × (Int → Int)} {d : Nat} {Q : RES} {R M : MEM} {J : MEM → MEM → Prop} {v3 : Int} (h0 : 0 ≤ v3) (h1 : v3 + 6 ≤ X.1) (h2 : X.1 ≤ 100000) (H : PR d 118 225 [vi (X.2 (iadd v3 1)), vi (X.2 (iadd v3 2))] R M J) (nx : ∀ R M, J R M → GoX X (d + 1) 305 Q 10 [ve 0, vr 0, vr 364, vi (v3 + 6)] [] SHX R M 0 0) : GoX X (d + 1) 305 Q 283 [ve 0, vr 0, vr 364, vi v3] [] SHX R M 0 0 := by
  have e1 : iadd v3 1 = v3 + 1 := iadd_of (by omega) (by omega)
  have e2 : iadd v3 2 = v3 + 2 := iadd_of (by omega) (by omega)
  have e6 : iadd v3 6 = v3 + 6 := iadd_of (by omega) (by omega)
  refine b_law_283 ⟨rfl, by omega, by omega, rfl, by omega, by omega, ook_iff.mpr ⟨by rw [fs0], Mw.mono H fun x sh1 R1 M1 hh => ?_⟩⟩
  obtain ⟨rfl, hh2⟩ := hh
  refine ⟨rfl, by omega, by omega, rfl, by omega, by omega, ook_iff.mpr ⟨by rw [fs364], Mw.mono hh2 fun y sh2 R2 M2 hk => ?_⟩⟩
  obtain ⟨rfl, rfl, hj⟩ := hk
  rw [if_pos rfl]
  refine b_law_955 ?_
  rw [e6]
  exact nx _ _ hj
theorem law_c14 {X : Int × (Int → Int)} {d : Nat} {Q : RES} {R M : MEM} {J : MEM → MEM → Prop} {v3 : Int} (h0 : 0 ≤ v3) (h1 : v3 + 6 ≤ X.1) (h2 : X.1 ≤ 100000) (H : PR d 119 229 [vi (X.2 (iadd v3 1)), vi (X.2 (iadd v3 2))] R M J) (nx : ∀ R M, J R M → GoX X (d + 1) 305 Q 10 [ve 0, vr 0, vr 364, vi (v3 + 6)] [] SHX R M 0 0) : GoX X (d + 1) 305 Q 310 [ve 0, vr 0, vr 364, vi v3] [] SHX R M 0 0 := by
  have e1 : iadd v3 1 = v3 + 1 := iadd_of (by omega) (by omega)
  have e2 : iadd v3 2 = v3 + 2 := iadd_of (by omega) (by omega)
  have e6 : iadd v3 6 = v3 + 6 := iadd_of (by omega) (by omega)
  refine b_law_310 ⟨rfl, by omega, by omega, rfl, by omega, by omega, ook_iff.mpr ⟨by rw [fs0], Mw.mono H fun x sh1 R1 M1 hh => ?_⟩⟩
  obtain ⟨rfl, hh2⟩ := hh
  refine ⟨rfl, by omega, by omega, rfl, by omega, by omega, ook_iff.mpr ⟨by rw [fs364], Mw.mono hh2 fun y sh2 R2 M2 hk => ?_⟩⟩
  obtain ⟨rfl, rfl, hj⟩ := hk
  rw [if_pos rfl]
  refine b_law_955 ?_
  rw [e6]
  exact nx _ _ hj
theorem law_c15 {X : Int × (Int → Int)} {d : Nat} {Q : RES} {R M : MEM} {J : MEM → MEM → Prop} {v3 : Int} (h0 : 0 ≤ v3) (h1 : v3 + 6 ≤ X.1) (h2 : X.1 ≤ 100000) (H : PR d 120 231 [] R M J) (nx : ∀ R M, J R M → GoX X (d + 1) 305 Q 10 [ve 0, vr 0, vr 364, vi (v3 + 6)] [] SHX R M 0 0) : GoX X (d + 1) 305 Q 337 [ve 0, vr 0, vr 364, vi v3] [] SHX R M 0 0 := by
  have e6 : iadd v3 6 = v3 + 6 := iadd_of (by omega) (by omega)
  refine b_law_337 (ook_iff.mpr ⟨by rw [fs0], Mw.mono H fun x sh1 R1 M1 hh => ?_⟩)
  obtain ⟨rfl, hh2⟩ := hh
  refine ook_iff.mpr ⟨by rw [fs364], Mw.mono hh2 fun y sh2 R2 M2 hk => ?_⟩
  obtain ⟨rfl, rfl, hj⟩ := hk
  rw [if_pos rfl]
  refine b_law_955 ?_
  rw [e6]
  exact nx _ _ hj
theorem law_c16 {X : Int × (Int → Int)} {d : Nat} {Q : RES} {R M : MEM} {J : MEM → MEM → Prop} {v3 : Int} (h0 : 0 ≤ v3) (h1 : v3 + 6 ≤ X.1) (h2 : X.1 ≤ 100000) (H : PR d 121 237 [vi (X.2 (iadd v3 1))] R M J) (nx : ∀ R M, J R M → GoX X (d + 1) 305 Q 10 [ve 0, vr 0, vr 364, vi (v3 + 6)] [] SHX R M 0 0) : GoX X (d + 1) 305 Q 344 [ve 0, vr 0, vr 364, vi v3] [] SHX R M 0 0 := by
  have e1 : iadd v3 1 = v3 + 1 := iadd_of (by omega) (by omega)
  have e6 : iadd v3 6 = v3 + 6 := iadd_of (by omega) (by omega)
  refine b_law_344 ⟨rfl, by omega, by omega, ook_iff.mpr ⟨by rw [fs0], Mw.mono H fun x sh1 R1 M1 hh => ?_⟩⟩
  obtain ⟨rfl, hh2⟩ := hh
  refine ⟨rfl, by omega, by omega, ook_iff.mpr ⟨by rw [fs364], Mw.mono hh2 fun y sh2 R2 M2 hk => ?_⟩⟩
  obtain ⟨rfl, rfl, hj⟩ := hk
  rw [if_pos rfl]
  refine b_law_955 ?_
  rw [e6]
  exact nx _ _ hj
theorem law_c17 {X : Int × (Int → Int)} {d : Nat} {Q : RES} {R M : MEM} {J : MEM → MEM → Prop} {v3 : Int} (h0 : 0 ≤ v3) (h1 : v3 + 6 ≤ X.1) (h2 : X.1 ≤ 100000) (H : PR d 122 240 [vi (X.2 (iadd v3 1)), vi (X.2 (iadd v3 2)), vi (X.2 (iadd v3 3))] R M J) (nx : ∀ R M, J R M → GoX X (d + 1) 305 Q 10 [ve 0, vr 0, vr 364, vi (v3 + 6)] [] SHX R M 0 0) : GoX X (d + 1) 305 Q 361 [ve 0, vr 0, vr 364, vi v3] [] SHX R M 0 0 := by
  have e1 : iadd v3 1 = v3 + 1 := iadd_of (by omega) (by omega)
  have e2 : iadd v3 2 = v3 + 2 := iadd_of (by omega) (by omega)
  have e3 : iadd v3 3 = v3 + 3 := iadd_of (by omega) (by omega)
  have e6 : iadd v3 6 = v3 + 6 := iadd_of (by omega) (by omega)
  refine b_law_361 ⟨rfl, by omega, by omega, rfl, by omega, by omega, rfl, by omega, by omega, ook_iff.mpr ⟨by rw [fs0], Mw.mono H fun x sh1 R1 M1 hh => ?_⟩⟩
  obtain ⟨rfl, hh2⟩ := hh
  refine ⟨rfl, by omega, by omega, rfl, by omega, by omega, rfl, by omega, by omega, ook_iff.mpr ⟨by rw [fs364], Mw.mono hh2 fun y sh2 R2 M2 hk => ?_⟩⟩
  obtain ⟨rfl, rfl, hj⟩ := hk
  rw [if_pos rfl]
  refine b_law_955 ?_
  rw [e6]
  exact nx _ _ hj
theorem law_c18 {X : Int × (Int → Int)} {d : Nat} {Q : RES} {R M : MEM} {J : MEM → MEM → Prop} {v3 : Int} (h0 : 0 ≤ v3) (h1 : v3 + 6 ≤ X.1) (h2 : X.1 ≤ 100000) (H : PR d 123 241 [vi (X.2 (iadd v3 1)), vi (X.2 (iadd v3 2)), vi (X.2 (iadd v3 3))] R M J) (nx : ∀ R M, J R M → GoX X (d + 1) 305 Q 10 [ve 0, vr 0, vr 364, vi (v3 + 6)] [] SHX R M 0 0) : GoX X (d + 1) 305 Q 398 [ve 0, vr 0, vr 364, vi v3] [] SHX R M 0 0 := by
  have e1 : iadd v3 1 = v3 + 1 := iadd_of (by omega) (by omega)
  have e2 : iadd v3 2 = v3 + 2 := iadd_of (by omega) (by omega)
  have e3 : iadd v3 3 = v3 + 3 := iadd_of (by omega) (by omega)
  have e6 : iadd v3 6 = v3 + 6 := iadd_of (by omega) (by omega)
  refine b_law_398 ⟨rfl, by omega, by omega, rfl, by omega, by omega, rfl, by omega, by omega, ook_iff.mpr ⟨by rw [fs0], Mw.mono H fun x sh1 R1 M1 hh => ?_⟩⟩
  obtain ⟨rfl, hh2⟩ := hh
  refine ⟨rfl, by omega, by omega, rfl, by omega, by omega, rfl, by omega, by omega, ook_iff.mpr ⟨by rw [fs364], Mw.mono hh2 fun y sh2 R2 M2 hk => ?_⟩⟩
  obtain ⟨rfl, rfl, hj⟩ := hk
  rw [if_pos rfl]
  refine b_law_955 ?_
  rw [e6]
  exact nx _ _ hj
theorem law_c19 {X : Int × (Int → Int)} {d : Nat} {Q : RES} {R M : MEM} {J : MEM → MEM → Prop} {v3 : Int} (h0 : 0 ≤ v3) (h1 : v3 + 6 ≤ X.1) (h2 : X.1 ≤ 100000) (H : PR d 124 246 [vi (X.2 (iadd v3 1)), vi (X.2 (iadd v3 2)), vi (X.2 (iadd v3 3))] R M J) (nx : ∀ R M, J R M → GoX X (d + 1) 305 Q 10 [ve 0, vr 0, vr 364, vi (v3 + 6)] [] SHX R M 0 0) : GoX X (d + 1) 305 Q 435 [ve 0, vr 0, vr 364, vi v3] [] SHX R M 0 0 := by
  have e1 : iadd v3 1 = v3 + 1 := iadd_of (by omega) (by omega)
  have e2 : iadd v3 2 = v3 + 2 := iadd_of (by omega) (by omega)
  have e3 : iadd v3 3 = v3 + 3 := iadd_of (by omega) (by omega)
  have e6 : iadd v3 6 = v3 + 6 := iadd_of (by omega) (by omega)
  refine b_law_435 ⟨rfl, by omega, by omega, rfl, by omega, by omega, rfl, by omega, by omega, ook_iff.mpr ⟨by rw [fs0], Mw.mono H fun x sh1 R1 M1 hh => ?_⟩⟩
  obtain ⟨rfl, hh2⟩ := hh
  refine ⟨rfl, by omega, by omega, rfl, by omega, by omega, rfl, by omega, by omega, ook_iff.mpr ⟨by rw [fs364], Mw.mono hh2 fun y sh2 R2 M2 hk => ?_⟩⟩
  obtain ⟨rfl, rfl, hj⟩ := hk
  rw [if_pos rfl]
  refine b_law_955 ?_
  rw [e6]
  exact nx _ _ hj
theorem law_c20 {X : Int × (Int → Int)} {d : Nat} {Q : RES} {R M : MEM} {J : MEM → MEM → Prop} {v3 : Int} (h0 : 0 ≤ v3) (h1 : v3 + 6 ≤ X.1) (h2 : X.1 ≤ 100000) (H : PR d 125 248 [vi (X.2 (iadd v3 1)), vi (X.2 (iadd v3 2)), vi (X.2 (iadd v3 3)), vi (X.2 (iadd v3 4))] R M J) (nx : ∀ R M, J R M → GoX X (d + 1) 305 Q 10 [ve 0, vr 0, vr 364, vi (v3 + 6)] [] SHX R M 0 0) : GoX X (d + 1) 305 Q 472 [ve 0, vr 0, vr 364, vi v3] [] SHX R M 0 0 := by
  have e1 : iadd v3 1 = v3 + 1 := iadd_of (by omega) (by omega)
  have e2 : iadd v3 2 = v3 + 2 := iadd_of (by omega) (by omega)
  have e3 : iadd v3 3 = v3 + 3 := iadd_of (by omega) (by omega)
  have e4 : iadd v3 4 = v3 + 4 := iadd_of (by omega) (by omega)
  have e6 : iadd v3 6 = v3 + 6 := iadd_of (by omega) (by omega)
  refine b_law_472 ⟨rfl, by omega, by omega, rfl, by omega, by omega, rfl, by omega, by omega, rfl, by omega, by omega, ook_iff.mpr ⟨by rw [fs0], Mw.mono H fun x sh1 R1 M1 hh => ?_⟩⟩
  obtain ⟨rfl, hh2⟩ := hh
  refine ⟨rfl, by omega, by omega, rfl, by omega, by omega, rfl, by omega, by omega, rfl, by omega, by omega, ook_iff.mpr ⟨by rw [fs364], Mw.mono hh2 fun y sh2 R2 M2 hk => ?_⟩⟩
  obtain ⟨rfl, rfl, hj⟩ := hk
  rw [if_pos rfl]
  refine b_law_955 ?_
  rw [e6]
  exact nx _ _ hj
theorem law_c21 {X : Int × (Int → Int)} {d : Nat} {Q : RES} {R M : MEM} {J : MEM → MEM → Prop} {v3 : Int} (h0 : 0 ≤ v3) (h1 : v3 + 6 ≤ X.1) (h2 : X.1 ≤ 100000) (H : PR d 126 249 [vi (X.2 (iadd v3 1)), vi (X.2 (iadd v3 2))] R M J) (nx : ∀ R M, J R M → GoX X (d + 1) 305 Q 10 [ve 0, vr 0, vr 364, vi (v3 + 6)] [] SHX R M 0 0) : GoX X (d + 1) 305 Q 519 [ve 0, vr 0, vr 364, vi v3] [] SHX R M 0 0 := by
  have e1 : iadd v3 1 = v3 + 1 := iadd_of (by omega) (by omega)
  have e2 : iadd v3 2 = v3 + 2 := iadd_of (by omega) (by omega)
  have e6 : iadd v3 6 = v3 + 6 := iadd_of (by omega) (by omega)
  refine b_law_519 ⟨rfl, by omega, by omega, rfl, by omega, by omega, ook_iff.mpr ⟨by rw [fs0], Mw.mono H fun x sh1 R1 M1 hh => ?_⟩⟩
  obtain ⟨rfl, hh2⟩ := hh
  refine ⟨rfl, by omega, by omega, rfl, by omega, by omega, ook_iff.mpr ⟨by rw [fs364], Mw.mono hh2 fun y sh2 R2 M2 hk => ?_⟩⟩
  obtain ⟨rfl, rfl, hj⟩ := hk
  rw [if_pos rfl]
  refine b_law_955 ?_
  rw [e6]
  exact nx _ _ hj
theorem law_c22 {X : Int × (Int → Int)} {d : Nat} {Q : RES} {R M : MEM} {J : MEM → MEM → Prop} {v3 : Int} (h0 : 0 ≤ v3) (h1 : v3 + 6 ≤ X.1) (h2 : X.1 ≤ 100000) (H : PR d 127 250 [vi (X.2 (iadd v3 1)), vi (X.2 (iadd v3 2)), vi (X.2 (iadd v3 3)), vi (X.2 (iadd v3 4)), vi (X.2 (iadd v3 5))] R M J) (nx : ∀ R M, J R M → GoX X (d + 1) 305 Q 10 [ve 0, vr 0, vr 364, vi (v3 + 6)] [] SHX R M 0 0) : GoX X (d + 1) 305 Q 546 [ve 0, vr 0, vr 364, vi v3] [] SHX R M 0 0 := by
  have e1 : iadd v3 1 = v3 + 1 := iadd_of (by omega) (by omega)
  have e2 : iadd v3 2 = v3 + 2 := iadd_of (by omega) (by omega)
  have e3 : iadd v3 3 = v3 + 3 := iadd_of (by omega) (by omega)
  have e4 : iadd v3 4 = v3 + 4 := iadd_of (by omega) (by omega)
  have e5 : iadd v3 5 = v3 + 5 := iadd_of (by omega) (by omega)
  have e6 : iadd v3 6 = v3 + 6 := iadd_of (by omega) (by omega)
  refine b_law_546 ⟨rfl, by omega, by omega, rfl, by omega, by omega, rfl, by omega, by omega, rfl, by omega, by omega, rfl, by omega, by omega, ook_iff.mpr ⟨by rw [fs0], Mw.mono H fun x sh1 R1 M1 hh => ?_⟩⟩
  obtain ⟨rfl, hh2⟩ := hh
  refine ⟨rfl, by omega, by omega, rfl, by omega, by omega, rfl, by omega, by omega, rfl, by omega, by omega, rfl, by omega, by omega, ook_iff.mpr ⟨by rw [fs364], Mw.mono hh2 fun y sh2 R2 M2 hk => ?_⟩⟩
  obtain ⟨rfl, rfl, hj⟩ := hk
  rw [if_pos rfl]
  refine b_law_955 ?_
  rw [e6]
  exact nx _ _ hj
theorem law_c23 {X : Int × (Int → Int)} {d : Nat} {Q : RES} {R M : MEM} {J : MEM → MEM → Prop} {v3 : Int} (h0 : 0 ≤ v3) (h1 : v3 + 6 ≤ X.1) (h2 : X.1 ≤ 100000) (H : PR d 128 252 [vi (X.2 (iadd v3 1)), vi (X.2 (iadd v3 2)), vi (X.2 (iadd v3 3))] R M J) (nx : ∀ R M, J R M → GoX X (d + 1) 305 Q 10 [ve 0, vr 0, vr 364, vi (v3 + 6)] [] SHX R M 0 0) : GoX X (d + 1) 305 Q 603 [ve 0, vr 0, vr 364, vi v3] [] SHX R M 0 0 := by
  have e1 : iadd v3 1 = v3 + 1 := iadd_of (by omega) (by omega)
  have e2 : iadd v3 2 = v3 + 2 := iadd_of (by omega) (by omega)
  have e3 : iadd v3 3 = v3 + 3 := iadd_of (by omega) (by omega)
  have e6 : iadd v3 6 = v3 + 6 := iadd_of (by omega) (by omega)
  refine b_law_603 ⟨rfl, by omega, by omega, rfl, by omega, by omega, rfl, by omega, by omega, ook_iff.mpr ⟨by rw [fs0], Mw.mono H fun x sh1 R1 M1 hh => ?_⟩⟩
  obtain ⟨rfl, hh2⟩ := hh
  refine ⟨rfl, by omega, by omega, rfl, by omega, by omega, rfl, by omega, by omega, ook_iff.mpr ⟨by rw [fs364], Mw.mono hh2 fun y sh2 R2 M2 hk => ?_⟩⟩
  obtain ⟨rfl, rfl, hj⟩ := hk
  rw [if_pos rfl]
  refine b_law_955 ?_
  rw [e6]
  exact nx _ _ hj
theorem law_c24 {X : Int × (Int → Int)} {d : Nat} {Q : RES} {R M : MEM} {J : MEM → MEM → Prop} {v3 : Int} (h0 : 0 ≤ v3) (h1 : v3 + 6 ≤ X.1) (h2 : X.1 ≤ 100000) (H : PR d 129 253 [vi (X.2 (iadd v3 1)), vi (X.2 (iadd v3 2)), vi (X.2 (iadd v3 3))] R M J) (nx : ∀ R M, J R M → GoX X (d + 1) 305 Q 10 [ve 0, vr 0, vr 364, vi (v3 + 6)] [] SHX R M 0 0) : GoX X (d + 1) 305 Q 640 [ve 0, vr 0, vr 364, vi v3] [] SHX R M 0 0 := by
  have e1 : iadd v3 1 = v3 + 1 := iadd_of (by omega) (by omega)
  have e2 : iadd v3 2 = v3 + 2 := iadd_of (by omega) (by omega)
  have e3 : iadd v3 3 = v3 + 3 := iadd_of (by omega) (by omega)
  have e6 : iadd v3 6 = v3 + 6 := iadd_of (by omega) (by omega)
  refine b_law_640 ⟨rfl, by omega, by omega, rfl, by omega, by omega, rfl, by omega, by omega, ook_iff.mpr ⟨by rw [fs0], Mw.mono H fun x sh1 R1 M1 hh => ?_⟩⟩
  obtain ⟨rfl, hh2⟩ := hh
  refine ⟨rfl, by omega, by omega, rfl, by omega, by omega, rfl, by omega, by omega, ook_iff.mpr ⟨by rw [fs364], Mw.mono hh2 fun y sh2 R2 M2 hk => ?_⟩⟩
  obtain ⟨rfl, rfl, hj⟩ := hk
  rw [if_pos rfl]
  refine b_law_955 ?_
  rw [e6]
  exact nx _ _ hj
theorem law_c25 {X : Int × (Int → Int)} {d : Nat} {Q : RES} {R M : MEM} {J : MEM → MEM → Prop} {v3 : Int} (h0 : 0 ≤ v3) (h1 : v3 + 6 ≤ X.1) (h2 : X.1 ≤ 100000) (H : PR d 130 254 [vi (X.2 (iadd v3 1)), vi (X.2 (iadd v3 2))] R M J) (nx : ∀ R M, J R M → GoX X (d + 1) 305 Q 10 [ve 0, vr 0, vr 364, vi (v3 + 6)] [] SHX R M 0 0) : GoX X (d + 1) 305 Q 677 [ve 0, vr 0, vr 364, vi v3] [] SHX R M 0 0 := by
  have e1 : iadd v3 1 = v3 + 1 := iadd_of (by omega) (by omega)
  have e2 : iadd v3 2 = v3 + 2 := iadd_of (by omega) (by omega)
  have e6 : iadd v3 6 = v3 + 6 := iadd_of (by omega) (by omega)
  refine b_law_677 ⟨rfl, by omega, by omega, rfl, by omega, by omega, ook_iff.mpr ⟨by rw [fs0], Mw.mono H fun x sh1 R1 M1 hh => ?_⟩⟩
  obtain ⟨rfl, hh2⟩ := hh
  refine ⟨rfl, by omega, by omega, rfl, by omega, by omega, ook_iff.mpr ⟨by rw [fs364], Mw.mono hh2 fun y sh2 R2 M2 hk => ?_⟩⟩
  obtain ⟨rfl, rfl, hj⟩ := hk
  rw [if_pos rfl]
  refine b_law_955 ?_
  rw [e6]
  exact nx _ _ hj
theorem law_c26 {X : Int × (Int → Int)} {d : Nat} {Q : RES} {R M : MEM} {J : MEM → MEM → Prop} {v3 : Int} (h0 : 0 ≤ v3) (h1 : v3 + 6 ≤ X.1) (h2 : X.1 ≤ 100000) (H : PR d 131 257 [] R M J) (nx : ∀ R M, J R M → GoX X (d + 1) 305 Q 10 [ve 0, vr 0, vr 364, vi (v3 + 6)] [] SHX R M 0 0) : GoX X (d + 1) 305 Q 704 [ve 0, vr 0, vr 364, vi v3] [] SHX R M 0 0 := by
  have e6 : iadd v3 6 = v3 + 6 := iadd_of (by omega) (by omega)
  refine b_law_704 (ook_iff.mpr ⟨by rw [fs0], Mw.mono H fun x sh1 R1 M1 hh => ?_⟩)
  obtain ⟨rfl, hh2⟩ := hh
  refine ook_iff.mpr ⟨by rw [fs364], Mw.mono hh2 fun y sh2 R2 M2 hk => ?_⟩
  obtain ⟨rfl, rfl, hj⟩ := hk
  rw [if_pos rfl]
  refine b_law_955 ?_
  rw [e6]
  exact nx _ _ hj
theorem law_c27 {X : Int × (Int → Int)} {d : Nat} {Q : RES} {R M : MEM} {J : MEM → MEM → Prop} {v3 : Int} (h0 : 0 ≤ v3) (h1 : v3 + 6 ≤ X.1) (h2 : X.1 ≤ 100000) (H : PR d 132 258 [vi (X.2 (iadd v3 1)), vi (X.2 (iadd v3 2))] R M J) (nx : ∀ R M, J R M → GoX X (d + 1) 305 Q 10 [ve 0, vr 0, vr 364, vi (v3 + 6)] [] SHX R M 0 0) : GoX X (d + 1) 305 Q 711 [ve 0, vr 0, vr 364, vi v3] [] SHX R M 0 0 := by
  have e1 : iadd v3 1 = v3 + 1 := iadd_of (by omega) (by omega)
  have e2 : iadd v3 2 = v3 + 2 := iadd_of (by omega) (by omega)
  have e6 : iadd v3 6 = v3 + 6 := iadd_of (by omega) (by omega)
  refine b_law_711 ⟨rfl, by omega, by omega, rfl, by omega, by omega, ook_iff.mpr ⟨by rw [fs0], Mw.mono H fun x sh1 R1 M1 hh => ?_⟩⟩
  obtain ⟨rfl, hh2⟩ := hh
  refine ⟨rfl, by omega, by omega, rfl, by omega, by omega, ook_iff.mpr ⟨by rw [fs364], Mw.mono hh2 fun y sh2 R2 M2 hk => ?_⟩⟩
  obtain ⟨rfl, rfl, hj⟩ := hk
  rw [if_pos rfl]
  refine b_law_955 ?_
  rw [e6]
  exact nx _ _ hj
theorem law_c28 {X : Int × (Int → Int)} {d : Nat} {Q : RES} {R M : MEM} {J : MEM → MEM → Prop} {v3 : Int} (h0 : 0 ≤ v3) (h1 : v3 + 6 ≤ X.1) (h2 : X.1 ≤ 100000) (H : PR d 133 259 [] R M J) (nx : ∀ R M, J R M → GoX X (d + 1) 305 Q 10 [ve 0, vr 0, vr 364, vi (v3 + 6)] [] SHX R M 0 0) : GoX X (d + 1) 305 Q 738 [ve 0, vr 0, vr 364, vi v3] [] SHX R M 0 0 := by
  have e6 : iadd v3 6 = v3 + 6 := iadd_of (by omega) (by omega)
  refine b_law_738 (ook_iff.mpr ⟨by rw [fs0], Mw.mono H fun x sh1 R1 M1 hh => ?_⟩)
  obtain ⟨rfl, hh2⟩ := hh
  refine ook_iff.mpr ⟨by rw [fs364], Mw.mono hh2 fun y sh2 R2 M2 hk => ?_⟩
  obtain ⟨rfl, rfl, hj⟩ := hk
  rw [if_pos rfl]
  refine b_law_955 ?_
  rw [e6]
  exact nx _ _ hj
theorem law_c29 {X : Int × (Int → Int)} {d : Nat} {Q : RES} {R M : MEM} {J : MEM → MEM → Prop} {v3 : Int} (h0 : 0 ≤ v3) (h1 : v3 + 6 ≤ X.1) (h2 : X.1 ≤ 100000) (H : PR d 134 262 [] R M J) (nx : ∀ R M, J R M → GoX X (d + 1) 305 Q 10 [ve 0, vr 0, vr 364, vi (v3 + 6)] [] SHX R M 0 0) : GoX X (d + 1) 305 Q 745 [ve 0, vr 0, vr 364, vi v3] [] SHX R M 0 0 := by
  have e6 : iadd v3 6 = v3 + 6 := iadd_of (by omega) (by omega)
  refine b_law_745 (ook_iff.mpr ⟨by rw [fs0], Mw.mono H fun x sh1 R1 M1 hh => ?_⟩)
  obtain ⟨rfl, hh2⟩ := hh
  refine ook_iff.mpr ⟨by rw [fs364], Mw.mono hh2 fun y sh2 R2 M2 hk => ?_⟩
  obtain ⟨rfl, rfl, hj⟩ := hk
  rw [if_pos rfl]
  refine b_law_955 ?_
  rw [e6]
  exact nx _ _ hj
theorem law_c30 {X : Int × (Int → Int)} {d : Nat} {Q : RES} {R M : MEM} {J : MEM → MEM → Prop} {v3 : Int} (h0 : 0 ≤ v3) (h1 : v3 + 6 ≤ X.1) (h2 : X.1 ≤ 100000) (H : PR d 135 224 [vi (X.2 (iadd v3 1))] R M J) (nx : ∀ R M, J R M → GoX X (d + 1) 305 Q 10 [ve 0, vr 0, vr 364, vi (v3 + 6)] [] SHX R M 0 0) : GoX X (d + 1) 305 Q 752 [ve 0, vr 0, vr 364, vi v3] [] SHX R M 0 0 := by
  have e1 : iadd v3 1 = v3 + 1 := iadd_of (by omega) (by omega)
  have e6 : iadd v3 6 = v3 + 6 := iadd_of (by omega) (by omega)
  refine b_law_752 ⟨rfl, by omega, by omega, ook_iff.mpr ⟨by rw [fs0], Mw.mono H fun x sh1 R1 M1 hh => ?_⟩⟩
  obtain ⟨rfl, hh2⟩ := hh
  refine ⟨rfl, by omega, by omega, ook_iff.mpr ⟨by rw [fs364], Mw.mono hh2 fun y sh2 R2 M2 hk => ?_⟩⟩
  obtain ⟨rfl, rfl, hj⟩ := hk
  rw [if_pos rfl]
  refine b_law_955 ?_
  rw [e6]
  exact nx _ _ hj
theorem law_c31 {X : Int × (Int → Int)} {d : Nat} {Q : RES} {R M : MEM} {J : MEM → MEM → Prop} {v3 : Int} (h0 : 0 ≤ v3) (h1 : v3 + 6 ≤ X.1) (h2 : X.1 ≤ 100000) (H : PR d 136 263 [vi (X.2 (iadd v3 1)), vi (X.2 (iadd v3 2)), vi (X.2 (iadd v3 3))] R M J) (nx : ∀ R M, J R M → GoX X (d + 1) 305 Q 10 [ve 0, vr 0, vr 364, vi (v3 + 6)] [] SHX R M 0 0) : GoX X (d + 1) 305 Q 769 [ve 0, vr 0, vr 364, vi v3] [] SHX R M 0 0 := by
  have e1 : iadd v3 1 = v3 + 1 := iadd_of (by omega) (by omega)
  have e2 : iadd v3 2 = v3 + 2 := iadd_of (by omega) (by omega)
  have e3 : iadd v3 3 = v3 + 3 := iadd_of (by omega) (by omega)
  have e6 : iadd v3 6 = v3 + 6 := iadd_of (by omega) (by omega)
  refine b_law_769 ⟨rfl, by omega, by omega, rfl, by omega, by omega, rfl, by omega, by omega, ook_iff.mpr ⟨by rw [fs0], Mw.mono H fun x sh1 R1 M1 hh => ?_⟩⟩
  obtain ⟨rfl, hh2⟩ := hh
  refine ⟨rfl, by omega, by omega, rfl, by omega, by omega, rfl, by omega, by omega, ook_iff.mpr ⟨by rw [fs364], Mw.mono hh2 fun y sh2 R2 M2 hk => ?_⟩⟩
  obtain ⟨rfl, rfl, hj⟩ := hk
  rw [if_pos rfl]
  refine b_law_955 ?_
  rw [e6]
  exact nx _ _ hj
theorem law_c32 {X : Int × (Int → Int)} {d : Nat} {Q : RES} {R M : MEM} {J : MEM → MEM → Prop} {v3 : Int} (h0 : 0 ≤ v3) (h1 : v3 + 6 ≤ X.1) (h2 : X.1 ≤ 100000) (H : PR d 137 264 [vi (X.2 (iadd v3 1))] R M J) (nx : ∀ R M, J R M → GoX X (d + 1) 305 Q 10 [ve 0, vr 0, vr 364, vi (v3 + 6)] [] SHX R M 0 0) : GoX X (d + 1) 305 Q 806 [ve 0, vr 0, vr 364, vi v3] [] SHX R M 0 0 := by
  have e1 : iadd v3 1 = v3 + 1 := iadd_of (by omega) (by omega)
  have e6 : iadd v3 6 = v3 + 6 := iadd_of (by omega) (by omega)
  refine b_law_806 ⟨rfl, by omega, by omega, ook_iff.mpr ⟨by rw [fs0], Mw.mono H fun x sh1 R1 M1 hh => ?_⟩⟩
  obtain ⟨rfl, hh2⟩ := hh
  intro _
  refine ⟨rfl, by omega, by omega, ook_iff.mpr ⟨by rw [fs364], Mw.mono hh2 fun y sh2 R2 M2 hk => ?_⟩⟩
  obtain ⟨rfl, rfl, hj⟩ := hk
  intro _
  rw [if_pos rfl]
  refine b_law_955 ?_
  rw [e6]
  exact nx _ _ hj
theorem law_c33 {X : Int × (Int → Int)} {d : Nat} {Q : RES} {R M : MEM} {J : MEM → MEM → Prop} {v3 : Int} (h0 : 0 ≤ v3) (h1 : v3 + 6 ≤ X.1) (h2 : X.1 ≤ 100000) (H : PR d 138 265 [vi (X.2 (iadd v3 1))] R M J) (nx : ∀ R M, J R M → GoX X (d + 1) 305 Q 10 [ve 0, vr 0, vr 364, vi (v3 + 6)] [] SHX R M 0 0) : GoX X (d + 1) 305 Q 823 [ve 0, vr 0, vr 364, vi v3] [] SHX R M 0 0 := by
  have e1 : iadd v3 1 = v3 + 1 := iadd_of (by omega) (by omega)
  have e6 : iadd v3 6 = v3 + 6 := iadd_of (by omega) (by omega)
  refine b_law_823 ⟨rfl, by omega, by omega, ook_iff.mpr ⟨by rw [fs0], Mw.mono H fun x sh1 R1 M1 hh => ?_⟩⟩
  obtain ⟨rfl, hh2⟩ := hh
  refine ⟨rfl, by omega, by omega, ook_iff.mpr ⟨by rw [fs364], Mw.mono hh2 fun y sh2 R2 M2 hk => ?_⟩⟩
  obtain ⟨rfl, rfl, hj⟩ := hk
  rw [if_pos rfl]
  refine b_law_955 ?_
  rw [e6]
  exact nx _ _ hj
theorem law_c34 {X : Int × (Int → Int)} {d : Nat} {Q : RES} {R M : MEM} {J : MEM → MEM → Prop} {v3 : Int} (h0 : 0 ≤ v3) (h1 : v3 + 6 ≤ X.1) (h2 : X.1 ≤ 100000) (H : PR d 139 270 [vi (X.2 (iadd v3 1)), vi (X.2 (iadd v3 2))] R M J) (nx : ∀ R M, J R M → GoX X (d + 1) 305 Q 10 [ve 0, vr 0, vr 364, vi (v3 + 6)] [] SHX R M 0 0) : GoX X (d + 1) 305 Q 840 [ve 0, vr 0, vr 364, vi v3] [] SHX R M 0 0 := by
  have e1 : iadd v3 1 = v3 + 1 := iadd_of (by omega) (by omega)
  have e2 : iadd v3 2 = v3 + 2 := iadd_of (by omega) (by omega)
  have e6 : iadd v3 6 = v3 + 6 := iadd_of (by omega) (by omega)
  refine b_law_840 ⟨rfl, by omega, by omega, rfl, by omega, by omega, ook_iff.mpr ⟨by rw [fs0], Mw.mono H fun x sh1 R1 M1 hh => ?_⟩⟩
  obtain ⟨rfl, hh2⟩ := hh
  refine ⟨rfl, by omega, by omega, rfl, by omega, by omega, ook_iff.mpr ⟨by rw [fs364], Mw.mono hh2 fun y sh2 R2 M2 hk => ?_⟩⟩
  obtain ⟨rfl, rfl, hj⟩ := hk
  rw [if_pos rfl]
  refine b_law_955 ?_
  rw [e6]
  exact nx _ _ hj
theorem law_c35 {X : Int × (Int → Int)} {d : Nat} {Q : RES} {R M : MEM} {J : MEM → MEM → Prop} {v3 : Int} (h0 : 0 ≤ v3) (h1 : v3 + 6 ≤ X.1) (h2 : X.1 ≤ 100000) (H : PR d 140 271 [vi (X.2 (iadd v3 1)), vi (X.2 (iadd v3 2)), vi (X.2 (iadd v3 3))] R M J) (nx : ∀ R M, J R M → GoX X (d + 1) 305 Q 10 [ve 0, vr 0, vr 364, vi (v3 + 6)] [] SHX R M 0 0) : GoX X (d + 1) 305 Q 867 [ve 0, vr 0, vr 364, vi v3] [] SHX R M 0 0 := by
  have e1 : iadd v3 1 = v3 + 1 := iadd_of (by omega) (by omega)
  have e2 : iadd v3 2 = v3 + 2 := iadd_of (by omega) (by omega)
  have e3 : iadd v3 3 = v3 + 3 := iadd_of (by omega) (by omega)
  have e6 : iadd v3 6 = v3 + 6 := iadd_of (by omega) (by omega)
  refine b_law_867 ⟨rfl, by omega, by omega, rfl, by omega, by omega, rfl, by omega, by omega, ook_iff.mpr ⟨by rw [fs0], Mw.mono H fun x sh1 R1 M1 hh => ?_⟩⟩
  obtain ⟨rfl, hh2⟩ := hh
  refine ⟨rfl, by omega, by omega, rfl, by omega, by omega, rfl, by omega, by omega, ook_iff.mpr ⟨by rw [fs364], Mw.mono hh2 fun y sh2 R2 M2 hk => ?_⟩⟩
  obtain ⟨rfl, rfl, hj⟩ := hk
  rw [if_pos rfl]
  refine b_law_955 ?_
  rw [e6]
  exact nx _ _ hj
theorem law_c36 {X : Int × (Int → Int)} {d : Nat} {Q : RES} {R M : MEM} {J : MEM → MEM → Prop} {v3 : Int} (h0 : 0 ≤ v3) (h1 : v3 + 6 ≤ X.1) (h2 : X.1 ≤ 100000) (H : PR d 141 272 [vi (X.2 (iadd v3 1))] R M J) (nx : ∀ R M, J R M → GoX X (d + 1) 305 Q 10 [ve 0, vr 0, vr 364, vi (v3 + 6)] [] SHX R M 0 0) : GoX X (d + 1) 305 Q 904 [ve 0, vr 0, vr 364, vi v3] [] SHX R M 0 0 := by
  have e1 : iadd v3 1 = v3 + 1 := iadd_of (by omega) (by omega)
  have e6 : iadd v3 6 = v3 + 6 := iadd_of (by omega) (by omega)
  refine b_law_904 ⟨rfl, by omega, by omega, ook_iff.mpr ⟨by rw [fs0], Mw.mono H fun x sh1 R1 M1 hh => ?_⟩⟩
  obtain ⟨rfl, hh2⟩ := hh
  refine ⟨rfl, by omega, by omega, ook_iff.mpr ⟨by rw [fs364], Mw.mono hh2 fun y sh2 R2 M2 hk => ?_⟩⟩
  obtain ⟨rfl, rfl, hj⟩ := hk
  rw [if_pos rfl]
  refine b_law_955 ?_
  rw [e6]
  exact nx _ _ hj
theorem law_c37 {X : Int × (Int → Int)} {d : Nat} {Q : RES} {R M : MEM} {J : MEM → MEM → Prop} {v3 : Int} (h0 : 0 ≤ v3) (h1 : v3 + 6 ≤ X.1) (h2 : X.1 ≤ 100000) (H : PR d 142 273 [vi (X.2 (iadd v3 1))] R M J) (nx : ∀ R M, J R M → GoX X (d + 1) 305 Q 10 [ve 0, vr 0, vr 364, vi (v3 + 6)] [] SHX R M 0 0) : GoX X (d + 1) 305 Q 921 [ve 0, vr 0, vr 364, vi v3] [] SHX R M 0 0 := by
  have e1 : iadd v3 1 = v3 + 1 := iadd_of (by omega) (by omega)
  have e6 : iadd v3 6 = v3 + 6 := iadd_of (by omega) (by omega)
  refine b_law_921 ⟨rfl, by omega, by omega, ook_iff.mpr ⟨by rw [fs0], Mw.mono H fun x sh1 R1 M1 hh => ?_⟩⟩
  obtain ⟨rfl, hh2⟩ := hh
  refine ⟨rfl, by omega, by omega, ook_iff.mpr ⟨by rw [fs364], Mw.mono hh2 fun y sh2 R2 M2 hk => ?_⟩⟩
  obtain ⟨rfl, rfl, hj⟩ := hk
  rw [if_pos rfl]
  refine b_law_955 ?_
  rw [e6]
  exact nx _ _ hj
theorem law_c38 {X : Int × (Int → Int)} {d : Nat} {Q : RES} {R M : MEM} {J : MEM → MEM → Prop} {v3 : Int} (h0 : 0 ≤ v3) (h1 : v3 + 6 ≤ X.1) (h2 : X.1 ≤ 100000) (H : PR d 143 274 [vi (X.2 (iadd v3 1))] R M J) (nx : ∀ R M, J R M → GoX X (d + 1) 305 Q 10 [ve 0, vr 0, vr 364, vi (v3 + 6)] [] SHX R M 0 0) : GoX X (d + 1) 305 Q 938 [ve 0, vr 0, vr 364, vi v3] [] SHX R M 0 0 := by
  have e1 : iadd v3 1 = v3 + 1 := iadd_of (by omega) (by omega)
  have e6 : iadd v3 6 = v3 + 6 := iadd_of (by omega) (by omega)
  refine b_law_938 ⟨rfl, by omega, by omega, ook_iff.mpr ⟨by rw [fs0], Mw.mono H fun x sh1 R1 M1 hh => ?_⟩⟩
  obtain ⟨rfl, hh2⟩ := hh
  refine ⟨rfl, by omega, by omega, ook_iff.mpr ⟨by rw [fs364], Mw.mono hh2 fun y sh2 R2 M2 hk => ?_⟩⟩
  obtain ⟨rfl, rfl, hj⟩ := hk
  rw [if_pos rfl]
  refine b_law_955 ?_
  rw [e6]
  exact nx _ _ hj
def argX (X : Int × (Int → Int)) (v3 : Int) : Nat → List AV
  | 0 => []
  | 1 => [vi (X.2 (iadd v3 1))]
  | 2 => [vi (X.2 (iadd v3 1)), vi (X.2 (iadd v3 2))]
  | 3 => [vi (X.2 (iadd v3 1)), vi (X.2 (iadd v3 2)), vi (X.2 (iadd v3 3))]
  | 4 => [vi (X.2 (iadd v3 1)), vi (X.2 (iadd v3 2)), vi (X.2 (iadd v3 3)), vi (X.2 (iadd v3 4))]
  | _ => [vi (X.2 (iadd v3 1)), vi (X.2 (iadd v3 2)), vi (X.2 (iadd v3 3)), vi (X.2 (iadd v3 4)), vi (X.2 (iadd v3 5))]
/-- the calls: of the class, of the reference, so many numbers -/
def opT : List (Nat × Nat × Nat) := [(105, 275, 5), (106, 276, 1), (107, 168, 0), (108, 192, 1), (109, 213, 2), (110, 214, 2), (111, 215, 2), (112, 216, 1), (113, 219, 2), (114, 220, 1), (115, 221, 0), (116, 222, 0), (117, 223, 0), (118, 225, 2), (119, 229, 2), (120, 231, 0), (121, 237, 1), (122, 240, 3), (123, 241, 3), (124, 246, 3), (125, 248, 4), (126, 249, 2), (127, 250, 5), (128, 252, 3), (129, 253, 3), (130, 254, 2), (131, 257, 0), (132, 258, 2), (133, 259, 0), (134, 262, 0), (135, 224, 1), (136, 263, 3), (137, 264, 1), (138, 265, 1), (139, 270, 2), (140, 271, 3), (141, 272, 1), (142, 273, 1), (143, 274, 1)]
theorem law_loop {X : Int × (Int → Int)} {d : Nat} {Q : RES} {Inv : Nat → MEM → MEM → Prop} (hX0 : 0 ≤ X.1) (hX : X.1 ≤ 100000) (hQ : ∀ R M, Q 1 SHX R M) (hid : ∀ k R M, Inv k R M → Inv (k + 1) R M) (hs : ∀ (k : Nat) (v3 : Int), v3 = 6 * (k : Int) → v3 + 6 ≤ X.1 → ∀ q ∈ opT, ∀ R M, Inv k R M → PR d q.1 q.2.1 (argX X v3 q.2.2) R M (Inv (k + 1))) : ∀ (n k : Nat) (R M : MEM) (v3 : Int), v3 = 6 * (k : Int) → X.1 < v3 + 6 * (n : Int) → Inv k R M → GoX X (d + 1) 305 Q 10 [ve 0, vr 0, vr 364, vi v3] [] SHX R M 0 0
  | 0, k, R, M, v3, hv, hn, hi => by
    refine b_law_10 ⟨rfl, hX0, ?_⟩
    rw [isub_of (by omega) (by omega), if_pos (by omega)]
    exact hQ _ _
  | n + 1, k, R, M, v3, hv, hn, hi => by
    refine b_law_10 ⟨rfl, hX0, ?_⟩
    rw [isub_of (by omega) (by omega)]
    by_cases hx : X.1 - 6 < v3
    · rw [if_pos hx]
      exact hQ _ _
    rw [if_neg hx]
    refine ⟨rfl, by omega, by omega, ?_⟩
    have h0 : 0 ≤ v3 := by omega
    have h1 : v3 + 6 ≤ X.1 := by omega
    have nx : ∀ R M, Inv (k + 1) R M → GoX X (d + 1) 305 Q 10 [ve 0, vr 0, vr 364, vi (v3 + 6)] [] SHX R M 0 0 := fun R M hj => law_loop hX0 hX hQ hid hs n (k + 1) R M (v3 + 6) (by omega) (by omega) hj
    by_cases k0 : iand (X.2 v3) 63 = 0
    · rw [if_pos k0]
      exact law_c0 h0 h1 hX (hs k v3 hv h1 (105, 275, 5) (by decide) R M hi) nx
    rw [if_neg k0]
    by_cases k1 : iand (X.2 v3) 63 = 1
    · rw [if_pos k1]
      exact law_c1 h0 h1 hX (hs k v3 hv h1 (106, 276, 1) (by decide) R M hi) nx
    rw [if_neg k1]
    by_cases k2 : iand (X.2 v3) 63 = 2
    · rw [if_pos k2]
      exact law_c2 h0 h1 hX (hs k v3 hv h1 (107, 168, 0) (by decide) R M hi) nx
    rw [if_neg k2]
    by_cases k3 : iand (X.2 v3) 63 = 3
    · rw [if_pos k3]
      exact law_c3 h0 h1 hX (hs k v3 hv h1 (108, 192, 1) (by decide) R M hi) nx
    rw [if_neg k3]
    by_cases k4 : iand (X.2 v3) 63 = 4
    · rw [if_pos k4]
      exact law_c4 h0 h1 hX (hs k v3 hv h1 (109, 213, 2) (by decide) R M hi) nx
    rw [if_neg k4]
    by_cases k5 : iand (X.2 v3) 63 = 5
    · rw [if_pos k5]
      exact law_c5 h0 h1 hX (hs k v3 hv h1 (110, 214, 2) (by decide) R M hi) nx
    rw [if_neg k5]
    by_cases k6 : iand (X.2 v3) 63 = 6
    · rw [if_pos k6]
      exact law_c6 h0 h1 hX (hs k v3 hv h1 (111, 215, 2) (by decide) R M hi) nx
    rw [if_neg k6]
    by_cases k7 : iand (X.2 v3) 63 = 7
    · rw [if_pos k7]
      exact law_c7 h0 h1 hX (hs k v3 hv h1 (112, 216, 1) (by decide) R M hi) nx
    rw [if_neg k7]
    by_cases k8 : iand (X.2 v3) 63 = 8
    · rw [if_pos k8]
      exact law_c8 h0 h1 hX (hs k v3 hv h1 (113, 219, 2) (by decide) R M hi) nx
    rw [if_neg k8]
    by_cases k9 : iand (X.2 v3) 63 = 9
    · rw [if_pos k9]
      exact law_c9 h0 h1 hX (hs k v3 hv h1 (114, 220, 1) (by decide) R M hi) nx
    rw [if_neg k9]
    by_cases k10 : iand (X.2 v3) 63 = 10
    · rw [if_pos k10]
      exact law_c10 h0 h1 hX (hs k v3 hv h1 (115, 221, 0) (by decide) R M hi) nx
    rw [if_neg k10]
    by_cases k11 : iand (X.2 v3) 63 = 11
    · rw [if_pos k11]
      exact law_c11 h0 h1 hX (hs k v3 hv h1 (116, 222, 0) (by decide) R M hi) nx
    rw [if_neg k11]
    by_cases k12 : iand (X.2 v3) 63 = 12
    · rw [if_pos k12]
      exact law_c12 h0 h1 hX (hs k v3 hv h1 (117, 223, 0) (by decide) R M hi) nx
    rw [if_neg k12]
    by_cases k13 : iand (X.2 v3) 63 = 13
    · rw [if_pos k13]
      exact law_c13 h0 h1 hX (hs k v3 hv h1 (118, 225, 2) (by decide) R M hi) nx
    rw [if_neg k13]
    by_cases k14 : iand (X.2 v3) 63 = 14
    · rw [if_pos k14]
      exact law_c14 h0 h1 hX (hs k v3 hv h1 (119, 229, 2) (by decide) R M hi) nx
    rw [if_neg k14]
    by_cases k15 : iand (X.2 v3) 63 = 15
    · rw [if_pos k15]
      exact law_c15 h0 h1 hX (hs k v3 hv h1 (120, 231, 0) (by decide) R M hi) nx
    rw [if_neg k15]
    by_cases k16 : iand (X.2 v3) 63 = 16
    · rw [if_pos k16]
      exact law_c16 h0 h1 hX (hs k v3 hv h1 (121, 237, 1) (by decide) R M hi) nx
    rw [if_neg k16]
    by_cases k17 : iand (X.2 v3) 63 = 17
    · rw [if_pos k17]
      exact law_c17 h0 h1 hX (hs k v3 hv h1 (122, 240, 3) (by decide) R M hi) nx
    rw [if_neg k17]
    by_cases k18 : iand (X.2 v3) 63 = 18
    · rw [if_pos k18]
      exact law_c18 h0 h1 hX (hs k v3 hv h1 (123, 241, 3) (by decide) R M hi) nx
    rw [if_neg k18]
    by_cases k19 : iand (X.2 v3) 63 = 19
    · rw [if_pos k19]
      exact law_c19 h0 h1 hX (hs k v3 hv h1 (124, 246, 3) (by decide) R M hi) nx
    rw [if_neg k19]
    by_cases k20 : iand (X.2 v3) 63 = 20
    · rw [if_pos k20]
      exact law_c20 h0 h1 hX (hs k v3 hv h1 (125, 248, 4) (by decide) R M hi) nx
    rw [if_neg k20]
    by_cases k21 : iand (X.2 v3) 63 = 21
    · rw [if_pos k21]
      exact law_c21 h0 h1 hX (hs k v3 hv h1 (126, 249, 2) (by decide) R M hi) nx
    rw [if_neg k21]
    by_cases k22 : iand (X.2 v3) 63 = 22
    · rw [if_pos k22]
      exact law_c22 h0 h1 hX (hs k v3 hv h1 (127, 250, 5) (by decide) R M hi) nx
    rw [if_neg k22]
    by_cases k23 : iand (X.2 v3) 63 = 23
    · rw [if_pos k23]
      exact law_c23 h0 h1 hX (hs k v3 hv h1 (128, 252, 3) (by decide) R M hi) nx
    rw [if_neg k23]
    by_cases k24 : iand (X.2 v3) 63 = 24
    · rw [if_pos k24]
      exact law_c24 h0 h1 hX (hs k v3 hv h1 (129, 253, 3) (by decide) R M hi) nx
    rw [if_neg k24]
    by_cases k25 : iand (X.2 v3) 63 = 25
    · rw [if_pos k25]
      exact law_c25 h0 h1 hX (hs k v3 hv h1 (130, 254, 2) (by decide) R M hi) nx
    rw [if_neg k25]
    by_cases k26 : iand (X.2 v3) 63 = 26
    · rw [if_pos k26]
      exact law_c26 h0 h1 hX (hs k v3 hv h1 (131, 257, 0) (by decide) R M hi) nx
    rw [if_neg k26]
    by_cases k27 : iand (X.2 v3) 63 = 27
    · rw [if_pos k27]
      exact law_c27 h0 h1 hX (hs k v3 hv h1 (132, 258, 2) (by decide) R M hi) nx
    rw [if_neg k27]
    by_cases k28 : iand (X.2 v3) 63 = 28
    · rw [if_pos k28]
      exact law_c28 h0 h1 hX (hs k v3 hv h1 (133, 259, 0) (by decide) R M hi) nx
    rw [if_neg k28]
    by_cases k29 : iand (X.2 v3) 63 = 29
    · rw [if_pos k29]
      exact law_c29 h0 h1 hX (hs k v3 hv h1 (134, 262, 0) (by decide) R M hi) nx
    rw [if_neg k29]
    by_cases k30 : iand (X.2 v3) 63 = 30
    · rw [if_pos k30]
      exact law_c30 h0 h1 hX (hs k v3 hv h1 (135, 224, 1) (by decide) R M hi) nx
    rw [if_neg k30]
    by_cases k31 : iand (X.2 v3) 63 = 31
    · rw [if_pos k31]
      exact law_c31 h0 h1 hX (hs k v3 hv h1 (136, 263, 3) (by decide) R M hi) nx
    rw [if_neg k31]
    by_cases k32 : iand (X.2 v3) 63 = 32
    · rw [if_pos k32]
      exact law_c32 h0 h1 hX (hs k v3 hv h1 (137, 264, 1) (by decide) R M hi) nx
    rw [if_neg k32]
    by_cases k33 : iand (X.2 v3) 63 = 33
    · rw [if_pos k33]
      exact law_c33 h0 h1 hX (hs k v3 hv h1 (138, 265, 1) (by decide) R M hi) nx
    rw [if_neg k33]
    by_cases k34 : iand (X.2 v3) 63 = 34
    · rw [if_pos k34]
      exact law_c34 h0 h1 hX (hs k v3 hv h1 (139, 270, 2) (by decide) R M hi) nx
    rw [if_neg k34]
    by_cases k35 : iand (X.2 v3) 63 = 35
    · rw [if_pos k35]
      exact law_c35 h0 h1 hX (hs k v3 hv h1 (140, 271, 3) (by decide) R M hi) nx
    rw [if_neg k35]
    by_cases k36 : iand (X.2 v3) 63 = 36
    · rw [if_pos k36]
      exact law_c36 h0 h1 hX (hs k v3 hv h1 (141, 272, 1) (by decide) R M hi) nx
    rw [if_neg k36]
    by_cases k37 : iand (X.2 v3) 63 = 37
    · rw [if_pos k37]
      exact law_c37 h0 h1 hX (hs k v3 hv h1 (142, 273, 1) (by decide) R M hi) nx
    rw [if_neg k37]
    by_cases k38 : iand (X.2 v3) 63 = 38
    · rw [if_pos k38]
      exact law_c38 h0 h1 hX (hs k v3 hv h1 (143, 274, 1) (by decide) R M hi) nx
    rw [if_neg k38]
    refine b_law_955 ?_
    rw [iadd_of (by omega) (by omega)]
    exact nx _ _ (hid _ _ _ hi)
