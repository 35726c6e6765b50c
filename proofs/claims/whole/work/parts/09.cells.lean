/-! instructions that touch cells -/
theorem el_obj {B : Nat} {cA : Nat → ClassId} {k n : Nat} {Ra Ma : Int → Int} (h : k < 100) : el B cA k n Ra Ma = .inr (k, fvs B k Ra Ma) := by
  unfold el
  split <;> first | omega | rfl
theorem fvs_get {B k j : Nat} {Ra Ma : Int → Int} (h : j < nF k) : (fvs B k Ra Ma)[j]? = some (fv B (ftag k j) (Ra j) (Ma j)) := by
  unfold fvs
  rw [List.getElem?_map, List.getElem?_range h]
  rfl
theorem fvs_len {B k : Nat} {Ra Ma : Int → Int} : (fvs B k Ra Ma).length = nF k := by simp [fvs]
theorem fvs_set {B k j : Nat} {Ra Ma Ra' Ma' : Int → Int} {v : Value} (hv : v = fv B (ftag k j) (Ra' j) (Ma' j)) (hR : ∀ i : Nat, i ≠ j → Ra' i = Ra i) (hM : ∀ i : Nat, i ≠ j → Ma' i = Ma i) : (fvs B k Ra Ma).set j v = fvs B k Ra' Ma' := by
  apply List.ext_getElem?
  intro i
  by_cases hl : i < nF k
  · by_cases hi : i = j
    · subst hi
      rw [List.getElem?_set_self (by rw [fvs_len]; exact hl), fvs_get hl, hv]
    · rw [List.getElem?_set_ne (Ne.symm hi), fvs_get hl, fvs_get hl, hR i hi, hM i hi]
  · rw [List.getElem?_eq_none (by rw [List.length_set, fvs_len]; omega), List.getElem?_eq_none (by rw [fvs_len]; omega)]
theorem HR.upd {B : Nat} {cA : Nat → ClassId} {D : va_G} {s : State} {H H1 : Heap} {locs : List Loc} {sh : SHP} {R M R' M' : MEM} {n i : Nat} (hH : HR B cA D s H locs sh R M) (hn : n < sh.length) (he : va_at D vwCl (B + n, el B cA (sk sh n).1 (sk sh n).2 (R' n) (M' n)) H1) (z : H1.size = H.size) (oq : ∀ q : Nat, q ≠ B + n → H1[q]? = H[q]?) (hR : ∀ q : Nat, q ≠ n → R' q = R q) (hM : ∀ q : Nat, q ≠ n → M' q = M q) (hrn : RN sh R' M') : HR B cA D s H1 (locs ++ [⟨B + n, i⟩]) sh R' M' := by
  obtain ⟨h1, h2, h3, -⟩ := hH
  refine ⟨?_, h2.put z oq (Nat.le_add_right B n), by rw [z, h3], hrn⟩
  have := h1.set wo_D (wo_get (B := B) (cA := cA) (R := R) (M := M) hn) he oq
  rwa [wo_set hn rfl hR hM] at this
theorem RN.st {sh : SHP} {R M : MEM} {n j : Nat} {x : Int} (h : RN sh R M) (hx : ftag (sk sh n).1 j ≠ 2 → rngv (ftag (sk sh n).1 j) x) : RN sh R (stm M n j x) := by
  intro a i ha
  have h0 := h a i ha
  split at h0
  · exact h0
  · rename_i h2
    unfold stm
    split
    · rename_i h4
      have e1 : a = n := by omega
      have e2 : i = j := by omega
      subst e1
      subst e2
      exact hx h2
    · exact h0
theorem RN.str {sh : SHP} {R M : MEM} {n j : Nat} {x : Int} (h : RN sh R M) (hx : -1 ≤ x) : RN sh (stm R n j x) M := by
  intro a i ha
  have h0 := h a i ha
  split at h0
  · rename_i h2
    rw [h2] at h0 ⊢
    unfold stm
    split
    · exact hx
    · exact h0
  · exact h0
theorem st_ne {M : MEM} {a i v : Int} {q : Int} (h : q ≠ a) : stm M a i v q = M q := by
  funext j
  unfold stm
  rw [if_neg (fun z => h z.1)]
theorem st_at {M : MEM} {a i v : Int} (j : Int) : stm M a i v a j = if j = i then v else M a j := by
  unfold stm
  by_cases h : j = i <;> simp [h]
theorem bnar {x : Int} (h : x = 0 ∨ x = 1) : narrow .boolean (.int (Int32.ofInt x)) = .int (Int32.ofInt x) := by
  rcases h with rfl | rfl <;> rfl
theorem w8_nar (x : Int) : narrow .byte (.int (Int32.ofInt x)) = .int (Int32.ofInt (w8 x)) := by
  unfold w8
  rw [oi32]
  rfl
section
variable {p : Program} {l : Launch} {e : Env} {Rm : Room} {s : State} {mm : MethodId} {args : Array Value} {below : List Frame} {meth : Method} {c : Code} {Qw : State → Prop}
variable {B : Nat} {cA : Nat → ClassId} {ex : Nat → Nat} {D : va_G} {nL mc ms : Nat} {cc : ByteArray} {pc : Nat} {k : NXT} {ls st : List AV} {sh : SHP} {R M : MEM} {cb sb : Nat}
theorem sd_iaload0 (hx : p.tables.exec = Jvm.exec) (hb : c.code = cc) (hK : va_K D vwCl (TYS cA) s) (hdg : decode cc pc = .ok (.iaload, 1)) (hk : ∀ ls st sh R M cb sb, k ls st sh R M cb sb → WG p l e Rm s mm args below meth c Qw B cA ex D nL mc ms (pc + 1) ls st sh R M cb sb) (h0 : pI st fun j t => pR t fun a t => aok sh 100 a j (k ls (vi (M a j) :: t) sh R M cb sb)) : WG p l e Rm s mm args below meth c Qw B cA ex D nL mc ms pc ls st sh R M cb sb := by
  obtain ⟨j, t, rfl, h⟩ := pI_inv h0
  obtain ⟨a, t2, rfl, h⟩ := pR_inv h
  obtain ⟨hk0, hj0, hj1, h⟩ := aok_inv h
  obtain ⟨n, rfl, hn, hsk⟩ := shk_inv (sh := sh) (a := a) (by rw [hk0]; decide)
  rw [hsk] at hk0 hj1
  intro H locs cells slots lsA hH hL hS h1 h2
  obtain ⟨hP, hSx, hz, hrn⟩ := hH
  have hg := wo_get (B := B) (cA := cA) (R := R) (M := M) hn
  rw [hk0] at hg
  have hjr : rngv 0 j := hS.hd
  have hvp := in32 hjr hj0 hj1
  have hcl := clamp32 hjr hj0
  obtain ⟨jn, rfl⟩ := Int.eq_ofNat_of_zero_le hj0
  have hr0 := hrn n jn hn
  rw [hk0] at hr0
  have hh := hk _ _ _ _ _ _ _ h H locs cells slots lsA ⟨hP, hSx, hz, hrn⟩ hL (SQ.cons (hr0) hS.tl.tl) h1 h2
  rw [map_cv_cons] at hh
  refine va_iald (pc := pc) hx hb hK hP n 0 hg rfl hvp hdg ?_
  rw [hcl]
  exact hh
theorem sd_laload (hx : p.tables.exec = Jvm.exec) (hb : c.code = cc) (hK : va_K D vwCl (TYS cA) s) (hdg : decode cc pc = .ok (.laload, 1)) (hk : ∀ ls st sh R M cb sb, k ls st sh R M cb sb → WG p l e Rm s mm args below meth c Qw B cA ex D nL mc ms (pc + 1) ls st sh R M cb sb) (h0 : pI st fun j t => pR t fun a t => aok sh 101 a j (k ls (vl (M a j) :: t) sh R M cb sb)) : WG p l e Rm s mm args below meth c Qw B cA ex D nL mc ms pc ls st sh R M cb sb := by
  obtain ⟨j, t, rfl, h⟩ := pI_inv h0
  obtain ⟨a, t2, rfl, h⟩ := pR_inv h
  obtain ⟨hk0, hj0, hj1, h⟩ := aok_inv h
  obtain ⟨n, rfl, hn, hsk⟩ := shk_inv (sh := sh) (a := a) (by rw [hk0]; decide)
  rw [hsk] at hk0 hj1
  intro H locs cells slots lsA hH hL hS h1 h2
  obtain ⟨hP, hSx, hz, hrn⟩ := hH
  have hg := wo_get (B := B) (cA := cA) (R := R) (M := M) hn
  rw [hk0] at hg
  have hjr : rngv 0 j := hS.hd
  have hvp := in32 hjr hj0 hj1
  have hcl := clamp32 hjr hj0
  obtain ⟨jn, rfl⟩ := Int.eq_ofNat_of_zero_le hj0
  have hr0 := hrn n jn hn
  rw [hk0] at hr0
  have hh := hk _ _ _ _ _ _ _ h H locs cells slots lsA ⟨hP, hSx, hz, hrn⟩ hL (SQ.cons (hr0) hS.tl.tl) h1 h2
  rw [map_cv_cons] at hh
  refine va_lald (pc := pc) hx hb hK hP n 1 hg rfl hvp hdg ?_
  rw [hcl]
  exact hh
theorem sd_baloadB (hx : p.tables.exec = Jvm.exec) (hb : c.code = cc) (hK : va_K D vwCl (TYS cA) s) (hdg : decode cc pc = .ok (.baload, 1)) (hk : ∀ ls st sh R M cb sb, k ls st sh R M cb sb → WG p l e Rm s mm args below meth c Qw B cA ex D nL mc ms (pc + 1) ls st sh R M cb sb) (h0 : pI st fun j t => pR t fun a t => aok sh 102 a j (k ls (vi (M a j) :: t) sh R M cb sb)) : WG p l e Rm s mm args below meth c Qw B cA ex D nL mc ms pc ls st sh R M cb sb := by
  obtain ⟨j, t, rfl, h⟩ := pI_inv h0
  obtain ⟨a, t2, rfl, h⟩ := pR_inv h
  obtain ⟨hk0, hj0, hj1, h⟩ := aok_inv h
  obtain ⟨n, rfl, hn, hsk⟩ := shk_inv (sh := sh) (a := a) (by rw [hk0]; decide)
  rw [hsk] at hk0 hj1
  intro H locs cells slots lsA hH hL hS h1 h2
  obtain ⟨hP, hSx, hz, hrn⟩ := hH
  have hg := wo_get (B := B) (cA := cA) (R := R) (M := M) hn
  rw [hk0] at hg
  have hjr : rngv 0 j := hS.hd
  have hvp := in32 hjr hj0 hj1
  have hcl := clamp32 hjr hj0
  obtain ⟨jn, rfl⟩ := Int.eq_ofNat_of_zero_le hj0
  have hr0 := hrn n jn hn
  rw [hk0] at hr0
  have hh := hk _ _ _ _ _ _ _ h H locs cells slots lsA ⟨hP, hSx, hz, hrn⟩ hL (SQ.cons (hr0) hS.tl.tl) h1 h2
  rw [map_cv_cons] at hh
  refine va_bald (pc := pc) hx hb hK hP n 2 hg rfl hvp hdg ?_
  rw [hcl]
  exact hh
theorem sd_baloadZ (hx : p.tables.exec = Jvm.exec) (hb : c.code = cc) (hK : va_K D vwCl (TYS cA) s) (hdg : decode cc pc = .ok (.baload, 1)) (hk : ∀ ls st sh R M cb sb, k ls st sh R M cb sb → WG p l e Rm s mm args below meth c Qw B cA ex D nL mc ms (pc + 1) ls st sh R M cb sb) (h0 : pI st fun j t => pR t fun a t => aok sh 103 a j (k ls (vi (M a j) :: t) sh R M cb sb)) : WG p l e Rm s mm args below meth c Qw B cA ex D nL mc ms pc ls st sh R M cb sb := by
  obtain ⟨j, t, rfl, h⟩ := pI_inv h0
  obtain ⟨a, t2, rfl, h⟩ := pR_inv h
  obtain ⟨hk0, hj0, hj1, h⟩ := aok_inv h
  obtain ⟨n, rfl, hn, hsk⟩ := shk_inv (sh := sh) (a := a) (by rw [hk0]; decide)
  rw [hsk] at hk0 hj1
  intro H locs cells slots lsA hH hL hS h1 h2
  obtain ⟨hP, hSx, hz, hrn⟩ := hH
  have hg := wo_get (B := B) (cA := cA) (R := R) (M := M) hn
  rw [hk0] at hg
  have hjr : rngv 0 j := hS.hd
  have hvp := in32 hjr hj0 hj1
  have hcl := clamp32 hjr hj0
  obtain ⟨jn, rfl⟩ := Int.eq_ofNat_of_zero_le hj0
  have hr0 := hrn n jn hn
  rw [hk0] at hr0
  have hh := hk _ _ _ _ _ _ _ h H locs cells slots lsA ⟨hP, hSx, hz, hrn⟩ hL (SQ.cons (hr0) hS.tl.tl) h1 h2
  rw [map_cv_cons] at hh
  refine va_zald (pc := pc) hx hb hK hP n 3 hg rfl hvp hdg ?_
  rw [hcl]
  exact hh
theorem sd_aaload4 (hx : p.tables.exec = Jvm.exec) (hb : c.code = cc) (hK : va_K D vwCl (TYS cA) s) (hdg : decode cc pc = .ok (.aaload, 1)) (hk : ∀ ls st sh R M cb sb, k ls st sh R M cb sb → WG p l e Rm s mm args below meth c Qw B cA ex D nL mc ms (pc + 1) ls st sh R M cb sb) (h0 : pI st fun j t => pR t fun a t => aok sh 104 a j (k ls (vr (R a j) :: t) sh R M cb sb)) : WG p l e Rm s mm args below meth c Qw B cA ex D nL mc ms pc ls st sh R M cb sb := by
  obtain ⟨j, t, rfl, h⟩ := pI_inv h0
  obtain ⟨a, t2, rfl, h⟩ := pR_inv h
  obtain ⟨hk0, hj0, hj1, h⟩ := aok_inv h
  obtain ⟨n, rfl, hn, hsk⟩ := shk_inv (sh := sh) (a := a) (by rw [hk0]; decide)
  rw [hsk] at hk0 hj1
  intro H locs cells slots lsA hH hL hS h1 h2
  obtain ⟨hP, hSx, hz, hrn⟩ := hH
  have hg := wo_get (B := B) (cA := cA) (R := R) (M := M) hn
  rw [hk0] at hg
  have hjr : rngv 0 j := hS.hd
  have hvp := in32 hjr hj0 hj1
  have hcl := clamp32 hjr hj0
  obtain ⟨jn, rfl⟩ := Int.eq_ofNat_of_zero_le hj0
  have hr0 := hrn n jn hn
  rw [hk0] at hr0
  have hh := hk _ _ _ _ _ _ _ h H locs cells slots lsA ⟨hP, hSx, hz, hrn⟩ hL (SQ.cons hr0 hS.tl.tl) h1 h2
  rw [map_cv_cons, show cv B ex (vr (R n jn)) = rv B (R n jn) from rfl, rv_ro] at hh
  refine va_aldq (pc := pc) hx hb hK hP n 4 hg rfl hvp hdg ?_
  rw [hcl]
  exact hh
theorem sd_aaload5 (hx : p.tables.exec = Jvm.exec) (hb : c.code = cc) (hK : va_K D vwCl (TYS cA) s) (hdg : decode cc pc = .ok (.aaload, 1)) (hk : ∀ ls st sh R M cb sb, k ls st sh R M cb sb → WG p l e Rm s mm args below meth c Qw B cA ex D nL mc ms (pc + 1) ls st sh R M cb sb) (h0 : pI st fun j t => pR t fun a t => aok sh 105 a j (k ls (vr (R a j) :: t) sh R M cb sb)) : WG p l e Rm s mm args below meth c Qw B cA ex D nL mc ms pc ls st sh R M cb sb := by
  obtain ⟨j, t, rfl, h⟩ := pI_inv h0
  obtain ⟨a, t2, rfl, h⟩ := pR_inv h
  obtain ⟨hk0, hj0, hj1, h⟩ := aok_inv h
  obtain ⟨n, rfl, hn, hsk⟩ := shk_inv (sh := sh) (a := a) (by rw [hk0]; decide)
  rw [hsk] at hk0 hj1
  intro H locs cells slots lsA hH hL hS h1 h2
  obtain ⟨hP, hSx, hz, hrn⟩ := hH
  have hg := wo_get (B := B) (cA := cA) (R := R) (M := M) hn
  rw [hk0] at hg
  have hjr : rngv 0 j := hS.hd
  have hvp := in32 hjr hj0 hj1
  have hcl := clamp32 hjr hj0
  obtain ⟨jn, rfl⟩ := Int.eq_ofNat_of_zero_le hj0
  have hr0 := hrn n jn hn
  rw [hk0] at hr0
  have hh := hk _ _ _ _ _ _ _ h H locs cells slots lsA ⟨hP, hSx, hz, hrn⟩ hL (SQ.cons hr0 hS.tl.tl) h1 h2
  rw [map_cv_cons, show cv B ex (vr (R n jn)) = rv B (R n jn) from rfl, rv_ro] at hh
  have hlt : (Int32.ofInt (jn : Int)).toNatClampNeg < (sk sh n).2 := Nat.not_le.mp fun q => hvp (Or.inr q)
  refine W.aald (v := va_rf (ro B (R n jn))) (ty := .array .int) hx hb (hP n _ hg) ((hK.2 5 _ rfl).1 (sk sh n).2 (fun j => va_rf (ro B (R n j)))) rfl (fun q => by cases q) (by show ¬ (_ ∨ (arrV _ _ _).slots.size ≤ _); rw [arrV_size]; exact hvp) (by show (arrV _ _ _).slots[_]? = _; rw [arrV_read _ _ hlt, hcl]; rfl) rfl rfl hdg hh
theorem sd_iastore (hx : p.tables.exec = Jvm.exec) (hb : c.code = cc) (hK : va_K D vwCl (TYS cA) s) (hdg : decode cc pc = .ok (.iastore, 1)) (hk : ∀ ls st sh R M cb sb, k ls st sh R M cb sb → WG p l e Rm s mm args below meth c Qw B cA ex D nL mc ms (pc + 1) ls st sh R M cb sb) (h0 : pI st fun v t => pI t fun j t => pR t fun a t => aok sh 100 a j (k ls t sh R (stm M a j v) cb sb)) : WG p l e Rm s mm args below meth c Qw B cA ex D nL mc ms pc ls st sh R M cb sb := by
  obtain ⟨v, t, rfl, h⟩ := pI_inv h0
  obtain ⟨j, t, rfl, h⟩ := pI_inv h
  obtain ⟨a, t, rfl, h⟩ := pR_inv h
  obtain ⟨hk0, hj0, hj1, h⟩ := aok_inv h
  obtain ⟨n, rfl, hn, hsk⟩ := shk_inv (sh := sh) (a := a) (by rw [hk0]; decide)
  rw [hsk] at hk0 hj1
  intro H locs cells slots lsA hH hL hS h1 h2
  have hP := hH.1
  have hg := wo_get (B := B) (cA := cA) (R := R) (M := M) hn
  rw [hk0] at hg
  have hjr : rngv 0 j := hS.tl.hd
  have hvp := in32 hjr hj0 hj1
  have hcl := clamp32 hjr hj0
  obtain ⟨jn, rfl⟩ := Int.eq_ofNat_of_zero_le hj0
  rw [Int.toNat_natCast] at hcl
  refine W.iast hx hb (hP n _ hg) ((hK.2 0 _ rfl).1 (sk sh n).2 (fun j => .int (Int32.ofInt (M n j)))) (fun q => by cases q) (by show ¬ (_ ∨ (arrV _ _ _).slots.size ≤ _); rw [arrV_size]; exact hvp) rfl rfl hdg fun H1 e1 z oq => ?_
  refine hk _ _ _ _ _ _ _ h H1 _ cells slots lsA (hH.upd hn ?_ z oq (fun _ _ => rfl) (fun q hq => st_ne (by omega)) (hH.2.2.2.st (fun _ => ?_))) hL hS.tl.tl.tl h1 h2
  · rw [hk0]
    show H1[B + n]? = some (vp_cell _ _)
    rw [e1]
    rw [vp_cell_i, vp_cell_i, arrV_store, hcl]
    refine congrArg some (congrArg (arrV _ _) ?_)
    funext q
    rw [st_at]
    unfold updV
    by_cases hq : q = jn
    · subst hq
      rw [if_pos rfl, if_pos rfl]
      try first | rfl | exact rfl
    · rw [if_neg hq, if_neg (by omega)]
  · rw [hk0]
    exact hS.hd
theorem sd_lastore (hx : p.tables.exec = Jvm.exec) (hb : c.code = cc) (hK : va_K D vwCl (TYS cA) s) (hdg : decode cc pc = .ok (.lastore, 1)) (hk : ∀ ls st sh R M cb sb, k ls st sh R M cb sb → WG p l e Rm s mm args below meth c Qw B cA ex D nL mc ms (pc + 1) ls st sh R M cb sb) (h0 : pL st fun v t => pI t fun j t => pR t fun a t => aok sh 101 a j (k ls t sh R (stm M a j v) cb sb)) : WG p l e Rm s mm args below meth c Qw B cA ex D nL mc ms pc ls st sh R M cb sb := by
  obtain ⟨v, t, rfl, h⟩ := pL_inv h0
  obtain ⟨j, t, rfl, h⟩ := pI_inv h
  obtain ⟨a, t, rfl, h⟩ := pR_inv h
  obtain ⟨hk0, hj0, hj1, h⟩ := aok_inv h
  obtain ⟨n, rfl, hn, hsk⟩ := shk_inv (sh := sh) (a := a) (by rw [hk0]; decide)
  rw [hsk] at hk0 hj1
  intro H locs cells slots lsA hH hL hS h1 h2
  have hP := hH.1
  have hg := wo_get (B := B) (cA := cA) (R := R) (M := M) hn
  rw [hk0] at hg
  have hjr : rngv 0 j := hS.tl.hd
  have hvp := in32 hjr hj0 hj1
  have hcl := clamp32 hjr hj0
  obtain ⟨jn, rfl⟩ := Int.eq_ofNat_of_zero_le hj0
  rw [Int.toNat_natCast] at hcl
  refine W.last hx hb (hP n _ hg) ((hK.2 1 _ rfl).1 (sk sh n).2 (fun j => .long (Int64.ofInt (M n j)))) (fun q => by cases q) (by show ¬ (_ ∨ (arrV _ _ _).slots.size ≤ _); rw [arrV_size]; exact hvp) rfl rfl hdg fun H1 e1 z oq => ?_
  refine hk _ _ _ _ _ _ _ h H1 _ cells slots lsA (hH.upd hn ?_ z oq (fun _ _ => rfl) (fun q hq => st_ne (by omega)) (hH.2.2.2.st (fun _ => ?_))) hL hS.tl.tl.tl h1 h2
  · rw [hk0]
    show H1[B + n]? = some (vp_cell _ _)
    rw [e1]
    rw [vp_cell_l, vp_cell_l, arrV_store, hcl]
    refine congrArg some (congrArg (arrV _ _) ?_)
    funext q
    rw [st_at]
    unfold updV
    by_cases hq : q = jn
    · subst hq
      rw [if_pos rfl, if_pos rfl]
      try first | rfl | exact rfl
    · rw [if_neg hq, if_neg (by omega)]
  · rw [hk0]
    exact hS.hd
theorem sd_bastoreB (hx : p.tables.exec = Jvm.exec) (hb : c.code = cc) (hK : va_K D vwCl (TYS cA) s) (hdg : decode cc pc = .ok (.bastore, 1)) (hk : ∀ ls st sh R M cb sb, k ls st sh R M cb sb → WG p l e Rm s mm args below meth c Qw B cA ex D nL mc ms (pc + 1) ls st sh R M cb sb) (h0 : pI st fun v t => pI t fun j t => pR t fun a t => aok sh 102 a j (k ls t sh R (stm M a j (w8 v)) cb sb)) : WG p l e Rm s mm args below meth c Qw B cA ex D nL mc ms pc ls st sh R M cb sb := by
  obtain ⟨v, t, rfl, h⟩ := pI_inv h0
  obtain ⟨j, t, rfl, h⟩ := pI_inv h
  obtain ⟨a, t, rfl, h⟩ := pR_inv h
  obtain ⟨hk0, hj0, hj1, h⟩ := aok_inv h
  obtain ⟨n, rfl, hn, hsk⟩ := shk_inv (sh := sh) (a := a) (by rw [hk0]; decide)
  rw [hsk] at hk0 hj1
  intro H locs cells slots lsA hH hL hS h1 h2
  have hP := hH.1
  have hg := wo_get (B := B) (cA := cA) (R := R) (M := M) hn
  rw [hk0] at hg
  have hjr : rngv 0 j := hS.tl.hd
  have hvp := in32 hjr hj0 hj1
  have hcl := clamp32 hjr hj0
  obtain ⟨jn, rfl⟩ := Int.eq_ofNat_of_zero_le hj0
  rw [Int.toNat_natCast] at hcl
  refine W.bast hx hb (hP n _ hg) ((hK.2 2 _ rfl).1 (sk sh n).2 (fun j => .int (Int32.ofInt (M n j)))) (fun q => by cases q) (by show ¬ (_ ∨ (arrV _ _ _).slots.size ≤ _); rw [arrV_size]; exact hvp) rfl rfl hdg fun H1 e1 z oq => ?_
  refine hk _ _ _ _ _ _ _ h H1 _ cells slots lsA (hH.upd hn ?_ z oq (fun _ _ => rfl) (fun q hq => st_ne (by omega)) (hH.2.2.2.st (fun _ => ?_))) hL hS.tl.tl.tl h1 h2
  · rw [hk0]
    show H1[B + n]? = some (vp_cell _ _)
    rw [e1]
    rw [vp_cell_i, vp_cell_i, arrV_store, hcl]
    refine congrArg some (congrArg (arrV _ _) ?_)
    funext q
    rw [st_at]
    unfold updV
    by_cases hq : q = jn
    · subst hq
      rw [if_pos rfl, if_pos rfl]
      try first | rfl | exact w8_nar v
    · rw [if_neg hq, if_neg (by omega)]
  · rw [hk0]
    exact i32_rng _
theorem sd_bastoreZ (hx : p.tables.exec = Jvm.exec) (hb : c.code = cc) (hK : va_K D vwCl (TYS cA) s) (hdg : decode cc pc = .ok (.bastore, 1)) (hk : ∀ ls st sh R M cb sb, k ls st sh R M cb sb → WG p l e Rm s mm args below meth c Qw B cA ex D nL mc ms (pc + 1) ls st sh R M cb sb) (h0 : pI st fun v t => pI t fun j t => pR t fun a t => aok sh 103 a j (bq v (k ls t sh R (stm M a j v) cb sb))) : WG p l e Rm s mm args below meth c Qw B cA ex D nL mc ms pc ls st sh R M cb sb := by
  obtain ⟨v, t, rfl, h⟩ := pI_inv h0
  obtain ⟨j, t, rfl, h⟩ := pI_inv h
  obtain ⟨a, t, rfl, h⟩ := pR_inv h
  obtain ⟨hk0, hj0, hj1, h⟩ := aok_inv h
  obtain ⟨hv1, h⟩ := bq_inv h
  obtain ⟨n, rfl, hn, hsk⟩ := shk_inv (sh := sh) (a := a) (by rw [hk0]; decide)
  rw [hsk] at hk0 hj1
  intro H locs cells slots lsA hH hL hS h1 h2
  have hP := hH.1
  have hg := wo_get (B := B) (cA := cA) (R := R) (M := M) hn
  rw [hk0] at hg
  have hjr : rngv 0 j := hS.tl.hd
  have hvp := in32 hjr hj0 hj1
  have hcl := clamp32 hjr hj0
  obtain ⟨jn, rfl⟩ := Int.eq_ofNat_of_zero_le hj0
  rw [Int.toNat_natCast] at hcl
  refine W.zast hx hb (hP n _ hg) ((hK.2 3 _ rfl).1 (sk sh n).2 (fun j => .int (Int32.ofInt (M n j)))) (fun q => by cases q) (by show ¬ (_ ∨ (arrV _ _ _).slots.size ≤ _); rw [arrV_size]; exact hvp) rfl rfl hdg fun H1 e1 z oq => ?_
  refine hk _ _ _ _ _ _ _ h H1 _ cells slots lsA (hH.upd hn ?_ z oq (fun _ _ => rfl) (fun q hq => st_ne (by omega)) (hH.2.2.2.st (fun _ => ?_))) hL hS.tl.tl.tl h1 h2
  · rw [hk0]
    show H1[B + n]? = some (vp_cell _ _)
    rw [e1]
    rw [vp_cell_i, vp_cell_i, arrV_store, hcl]
    refine congrArg some (congrArg (arrV _ _) ?_)
    funext q
    rw [st_at]
    unfold updV
    by_cases hq : q = jn
    · subst hq
      rw [if_pos rfl, if_pos rfl]
      try first | rfl | exact bnar hv1
    · rw [if_neg hq, if_neg (by omega)]
  · rw [hk0]
    exact hS.hd
theorem sd_alen (hx : p.tables.exec = Jvm.exec) (hb : c.code = cc) (hK : va_K D vwCl (TYS cA) s) {a : Int} {t : List AV} (hst : st = (2, a) :: t) (hdg : decode cc pc = .ok (.arraylength, 1)) (hk : ∀ ls st sh R M cb sb, k ls st sh R M cb sb → WG p l e Rm s mm args below meth c Qw B cA ex D nL mc ms (pc + 1) ls st sh R M cb sb) (h0 : bud (Nat.ble 100 (shk sh a).1 && Nat.ble (shk sh a).1 105 && Nat.ble (shk sh a).2 100000) (k ls (vi (Int.ofNat (shk sh a).2) :: t) sh R M cb sb)) : WG p l e Rm s mm args below meth c Qw B cA ex D nL mc ms pc ls st sh R M cb sb := by
  obtain ⟨hb1, h⟩ := bud_inv h0
  subst hst
  rw [Bool.and_eq_true, Bool.and_eq_true] at hb1
  have b1 := Nat.le_of_ble_eq_true hb1.1.1
  have b2 := Nat.le_of_ble_eq_true hb1.1.2
  have b3 := Nat.le_of_ble_eq_true hb1.2
  obtain ⟨n, rfl, hn, hsk⟩ := shk_inv (sh := sh) (a := a) (by omega)
  rw [hsk] at b1 b2 b3 h
  have hlen : (sk sh n).2 < 2147483648 := by omega
  intro H locs cells slots lsA hH hL hS h1 h2
  have hg := wo_get (B := B) (cA := cA) (R := R) (M := M) hn
  have hh := hk _ _ _ _ _ _ _ h H locs cells slots lsA hH hL (SQ.cons (show rngv 0 (((sk sh n).2 : Nat) : Int) from ⟨by omega, by omega⟩) hS.tl) h1 h2
  generalize hkd : (sk sh n).1 = kd at hg b1 b2
  have hcase : kd = 100 ∨ kd = 101 ∨ kd = 102 ∨ kd = 103 ∨ kd = 104 ∨ kd = 105 := by omega
  rcases hcase with rfl | rfl | rfl | rfl | rfl | rfl
  · exact va_alen hx hb hK hH.1 n 0 hg (ty := .int) rfl rfl hdg hh
  · exact va_alen hx hb hK hH.1 n 1 hg (ty := .long) rfl rfl hdg hh
  · exact va_alen hx hb hK hH.1 n 2 hg (ty := .byte) rfl rfl hdg hh
  · exact va_alen hx hb hK hH.1 n 3 hg (ty := .boolean) rfl rfl hdg hh
  · exact va_alen hx hb hK hH.1 n 4 hg (ty := .object "GeeseSums$Sky") rfl rfl hdg hh
  · exact va_alen hx hb hK hH.1 n 5 hg (ty := .array .int) rfl rfl hdg hh
theorem sd_getR (hx : p.tables.exec = Jvm.exec) (hb : c.code = cc) (hK : va_K D vwCl (TYS cA) s) (hts : ∀ w ∈ TBg, w.before args s = true) {own C : String} {T : u_T} {N ci slot index : Nat} (hci : ci < 100) (hcl : vwCl[ci]? = some (C, T, N)) (hin : ∀ w ∈ u_ws C T N, w ∈ TBg) (hsl : slot < N) (hnF : nF ci = N) (hown : s.vm.findClass own = some mm.cls) (hlink : (Cond.fieldLink own index (T slot).1 (T slot).2.1 (T slot).2.2.1).before args s = true) (htg : ftag ci slot = 2) (hdg : decode cc pc = .ok (.getfield index, 3)) (hk : ∀ ls st sh R M cb sb, k ls st sh R M cb sb → WG p l e Rm s mm args below meth c Qw B cA ex D nL mc ms (pc + 3) ls st sh R M cb sb) (h0 : pR st fun a t => ook sh ci a (k ls (vr (R a (slot : Nat)) :: t) sh R M cb sb)) : WG p l e Rm s mm args below meth c Qw B cA ex D nL mc ms pc ls st sh R M cb sb := by
  obtain ⟨a, t, rfl, h⟩ := pR_inv h0
  obtain ⟨hk0, h⟩ := ook_inv h
  obtain ⟨n, rfl, hn, hsk⟩ := shk_inv (sh := sh) (a := a) (by rw [hk0]; omega)
  rw [hsk] at hk0
  intro H locs cells slots lsA hH hL hS h1 h2
  have hg := wo_get (B := B) (cA := cA) (R := R) (M := M) hn
  rw [hk0, el_obj hci] at hg
  have hr0 := hH.2.2.2 n slot hn
  rw [hk0, htg] at hr0
  have hh := hk _ _ _ _ _ _ _ h H locs cells slots lsA hH hL (SQ.cons hr0 hS.tl) h1 h2
  exact va_get hx hb hts hin hown hK hH.1 n hg hcl slot hsl hlink (fun _ z => z) (by rw [fvs_get (by rw [hnF]; exact hsl), htg]; rfl) hdg hh
theorem sd_getL (hx : p.tables.exec = Jvm.exec) (hb : c.code = cc) (hK : va_K D vwCl (TYS cA) s) (hts : ∀ w ∈ TBg, w.before args s = true) {own C : String} {T : u_T} {N ci slot index : Nat} (hci : ci < 100) (hcl : vwCl[ci]? = some (C, T, N)) (hin : ∀ w ∈ u_ws C T N, w ∈ TBg) (hsl : slot < N) (hnF : nF ci = N) (hown : s.vm.findClass own = some mm.cls) (hlink : (Cond.fieldLink own index (T slot).1 (T slot).2.1 (T slot).2.2.1).before args s = true) (htg : ftag ci slot = 1) (hdg : decode cc pc = .ok (.getfield index, 3)) (hk : ∀ ls st sh R M cb sb, k ls st sh R M cb sb → WG p l e Rm s mm args below meth c Qw B cA ex D nL mc ms (pc + 3) ls st sh R M cb sb) (h0 : pR st fun a t => ook sh ci a (k ls (vl (M a (slot : Nat)) :: t) sh R M cb sb)) : WG p l e Rm s mm args below meth c Qw B cA ex D nL mc ms pc ls st sh R M cb sb := by
  obtain ⟨a, t, rfl, h⟩ := pR_inv h0
  obtain ⟨hk0, h⟩ := ook_inv h
  obtain ⟨n, rfl, hn, hsk⟩ := shk_inv (sh := sh) (a := a) (by rw [hk0]; omega)
  rw [hsk] at hk0
  intro H locs cells slots lsA hH hL hS h1 h2
  have hg := wo_get (B := B) (cA := cA) (R := R) (M := M) hn
  rw [hk0, el_obj hci] at hg
  have hr0 := hH.2.2.2 n slot hn
  rw [hk0, htg] at hr0
  have hh := hk _ _ _ _ _ _ _ h H locs cells slots lsA hH hL (SQ.cons hr0 hS.tl) h1 h2
  exact va_get hx hb hts hin hown hK hH.1 n hg hcl slot hsl hlink (fun _ z => z) (by rw [fvs_get (by rw [hnF]; exact hsl), htg]; rfl) hdg hh
theorem sd_getI (hx : p.tables.exec = Jvm.exec) (hb : c.code = cc) (hK : va_K D vwCl (TYS cA) s) (hts : ∀ w ∈ TBg, w.before args s = true) {own C : String} {T : u_T} {N ci slot index : Nat} (hci : ci < 100) (hcl : vwCl[ci]? = some (C, T, N)) (hin : ∀ w ∈ u_ws C T N, w ∈ TBg) (hsl : slot < N) (hnF : nF ci = N) (hown : s.vm.findClass own = some mm.cls) (hlink : (Cond.fieldLink own index (T slot).1 (T slot).2.1 (T slot).2.2.1).before args s = true) (htg : ftag ci slot = 0) (hdg : decode cc pc = .ok (.getfield index, 3)) (hk : ∀ ls st sh R M cb sb, k ls st sh R M cb sb → WG p l e Rm s mm args below meth c Qw B cA ex D nL mc ms (pc + 3) ls st sh R M cb sb) (h0 : pR st fun a t => ook sh ci a (k ls (vi (M a (slot : Nat)) :: t) sh R M cb sb)) : WG p l e Rm s mm args below meth c Qw B cA ex D nL mc ms pc ls st sh R M cb sb := by
  obtain ⟨a, t, rfl, h⟩ := pR_inv h0
  obtain ⟨hk0, h⟩ := ook_inv h
  obtain ⟨n, rfl, hn, hsk⟩ := shk_inv (sh := sh) (a := a) (by rw [hk0]; omega)
  rw [hsk] at hk0
  intro H locs cells slots lsA hH hL hS h1 h2
  have hg := wo_get (B := B) (cA := cA) (R := R) (M := M) hn
  rw [hk0, el_obj hci] at hg
  have hr0 := hH.2.2.2 n slot hn
  rw [hk0, htg] at hr0
  have hh := hk _ _ _ _ _ _ _ h H locs cells slots lsA hH hL (SQ.cons hr0 hS.tl) h1 h2
  exact va_get hx hb hts hin hown hK hH.1 n hg hcl slot hsl hlink (fun _ z => z) (by rw [fvs_get (by rw [hnF]; exact hsl), htg]; rfl) hdg hh
/-- a store into a field: what it needs of the value, and what of the new numbers -/
theorem sd_put0 (hx : p.tables.exec = Jvm.exec) (hb : c.code = cc) (hK : va_K D vwCl (TYS cA) s) (hts : ∀ w ∈ TBg, w.before args s = true) {own C : String} {T : u_T} {N ci slot index : Nat} (hci : ci < 100) (hcl : vwCl[ci]? = some (C, T, N)) (hin : ∀ w ∈ u_ws C T N, w ∈ TBg) (hsl : slot < N) (hnF : nF ci = N) (hown : s.vm.findClass own = some mm.cls) (hlink : (Cond.fieldLink own index (T slot).1 (T slot).2.1 (T slot).2.2.1).before args s = true) (ty0 : Nat → FieldType) (hty : ∀ k, k < N → parseFieldDescriptor (T k).2.2.1 = some (ty0 k)) (hnm : ∀ a, a < N → ∀ b, b < N → a ≠ b → (T a).2.1 ≠ (T b).2.1) (hfin : (T slot).2.2.2 = false ∨ ((T slot).2.2.2 = true ∧ meth.name = "<init>" ∧ (T slot).1 = own)) (hdg : decode cc pc = .ok (.putfield index, 3)) {n : Nat} (hn : n < sh.length) (hk0 : (sk sh n).1 = ci) {v : Value} (hnar : narrow (ty0 slot) v = v) (hfit : fits (ty0 slot) v = true) {R' M' : MEM} (hv : v = fv B (ftag ci slot) (R' n slot) (M' n slot)) (hR : ∀ q : Nat, q ≠ n → R' q = R q) (hM : ∀ q : Nat, q ≠ n → M' q = M q) (hRn : ∀ i : Nat, i ≠ slot → R' n i = R n i) (hMn : ∀ i : Nat, i ≠ slot → M' n i = M n i) (hrn : RN sh R M → RN sh R' M') {H : Heap} {locs : List Loc} {cells slots : Nat} {lsA : Array Slot} {rest : List Value} (hH : HR B cA D s H locs sh R M)
    (kk : ∀ (H1 : Heap) (locs1 : List Loc), HR B cA D s H1 locs1 sh R' M' → W p l e Rm s mm args below meth c H1 locs1 cells slots Qw (F0 mm (pc + 3) lsA rest)) : W p l e Rm s mm args below meth c H locs cells slots Qw (F0 mm pc lsA (v :: .ref (B + n) :: rest)) := by
  have hg := wo_get (B := B) (cA := cA) (R := R) (M := M) hn
  rw [hk0, el_obj hci] at hg
  have hap := va_apart (own := own) hts hin ty0 hty hnm hK hcl
  obtain ⟨r, g1, cell, q1, q2, q3, q4⟩ := hH.1 n _ hg
  have hr : r = (C, T, N) := Option.some.inj (g1.symm.trans hcl)
  subst hr
  obtain ⟨hS, hfc, kC, hkC, hkind⟩ := hK.1 ci _ hcl
  obtain ⟨cf, kf, fi, f, hi, hfs⟩ := hS slot hsl
  have hst := (u_facts hfc hkC (u_lays hts hin hsl) hi).1
  have fin : ∀ H' : Heap, H'[B + n]? = some (cell.setSlot f.slot v) → H'.size = H.size → (∀ q : Nat, q ≠ B + n → H'[q]? = H[q]?) → W p l e Rm s mm args below meth c H' (locs ++ [⟨B + n, f.slot⟩]) cells slots Qw (F0 mm (pc + 3) lsA rest) := by
    intro H' e1 e2 e3
    refine kk H' _ (hH.upd hn ?_ e2 e3 hR hM (hrn hH.2.2.2))
    rw [hk0, el_obj hci]
    rw [hfs] at e1
    refine ⟨_, hcl, t_OB.to (V := updV (vp_V (fvs B ci (R n) (M n))) slot v) ⟨_, e1, q2, q3, t_set q4 hap hsl v⟩ (fun j _ => ?_)⟩
    rw [vp_updV_set (by rw [fvs_len, hnF]; exact hsl), fvs_set hv hRn hMn]
  rcases hfin with hf | ⟨hf, hmi, hdecl⟩
  · have hlay := hts _ (hin _ (u_in_lay hsl))
    unfold u_lay at hlay
    rw [if_neg (by rw [hf]; decide)] at hlay
    have h6 := u_store hfc hkC hkind hlay hi (hty slot hsl) hnar hfit
    exact W.putK hx hb (f := f) ⟨hown, hlink, ⟨_, _, _, hi⟩, hst⟩ (by rw [q2]; exact h6) q1 q3 (by rw [hfs]; exact k2_hasslot (q4 slot hsl)) rfl rfl hdg fin
  · have hlay := hts _ (hin _ (u_in_lay hsl))
    unfold u_lay at hlay
    rw [if_pos hf] at hlay
    have hcf : mm.cls = cf := by
      obtain ⟨_, _, c', _, _, _, -, -, hf', -, -, -, hown2, -⟩ := Cond.laysFinal_spec hlay
      have e1 : c' = cf := by have := hi.symm.trans hf'; simp at this; exact this.1.symm
      rw [hdecl] at hown2
      rw [← e1]; exact Option.some.inj (hown.symm.trans hown2)
    have h6 := u_fits hfc hkC hkind (Or.inr hlay) hi (hty slot hsl) hnar hfit
    exact W.putFinK hx hb hown hlink hi hst hcf hmi (by rw [q2]; exact h6) q1 q3 (by rw [hfs]; exact k2_hasslot (q4 slot hsl)) rfl rfl hdg fin
theorem sd_putI (hx : p.tables.exec = Jvm.exec) (hb : c.code = cc) (hK : va_K D vwCl (TYS cA) s) (hts : ∀ w ∈ TBg, w.before args s = true) {own C : String} {T : u_T} {N ci slot index : Nat} (hci : ci < 100) (hcl : vwCl[ci]? = some (C, T, N)) (hin : ∀ w ∈ u_ws C T N, w ∈ TBg) (hsl : slot < N) (hnF : nF ci = N) (hown : s.vm.findClass own = some mm.cls) (hlink : (Cond.fieldLink own index (T slot).1 (T slot).2.1 (T slot).2.2.1).before args s = true) (ty0 : Nat → FieldType) (hty : ∀ k, k < N → parseFieldDescriptor (T k).2.2.1 = some (ty0 k)) (hnm : ∀ a, a < N → ∀ b, b < N → a ≠ b → (T a).2.1 ≠ (T b).2.1) (hfin : (T slot).2.2.2 = false ∨ ((T slot).2.2.2 = true ∧ meth.name = "<init>" ∧ (T slot).1 = own)) (hty1 : ty0 slot = .int) (htg : ftag ci slot = 0) (hdg : decode cc pc = .ok (.putfield index, 3)) (hk : ∀ ls st sh R M cb sb, k ls st sh R M cb sb → WG p l e Rm s mm args below meth c Qw B cA ex D nL mc ms (pc + 3) ls st sh R M cb sb) (h0 : pI st fun v t => pR t fun a t => ook sh ci a (k ls t sh R (stm M a (slot : Nat) v) cb sb)) : WG p l e Rm s mm args below meth c Qw B cA ex D nL mc ms pc ls st sh R M cb sb := by
  obtain ⟨v, t, rfl, h⟩ := pI_inv h0
  obtain ⟨a, t, rfl, h⟩ := pR_inv h
  obtain ⟨hk0, h⟩ := ook_inv h
  obtain ⟨n, rfl, hn, hsk⟩ := shk_inv (sh := sh) (a := a) (by rw [hk0]; omega)
  rw [hsk] at hk0
  intro H locs cells slots lsA hH hL hS h1 h2
  refine sd_put0 (R' := R) (M' := (stm M n (slot : Nat) v)) hx hb hK hts hci hcl hin hsl hnF hown hlink ty0 hty hnm hfin hdg hn hk0 ?_ ?_ ?_ (fun _ _ => rfl) (fun q hq => st_ne (by omega)) (fun _ _ => rfl) (fun i hi => by rw [st_at, if_neg (by omega)]) (fun z => z.st (fun _ => by rw [hk0, htg]; exact hS.hd)) hH (fun H1 locs1 hH1 => hk _ _ _ _ _ _ _ h H1 locs1 cells slots lsA hH1 hL hS.tl.tl h1 h2)
  · rw [hty1]
    exact rfl
  · rw [hty1]
    exact rfl
  · rw [htg, st_at, if_pos rfl]
    rfl
theorem sd_putZ (hx : p.tables.exec = Jvm.exec) (hb : c.code = cc) (hK : va_K D vwCl (TYS cA) s) (hts : ∀ w ∈ TBg, w.before args s = true) {own C : String} {T : u_T} {N ci slot index : Nat} (hci : ci < 100) (hcl : vwCl[ci]? = some (C, T, N)) (hin : ∀ w ∈ u_ws C T N, w ∈ TBg) (hsl : slot < N) (hnF : nF ci = N) (hown : s.vm.findClass own = some mm.cls) (hlink : (Cond.fieldLink own index (T slot).1 (T slot).2.1 (T slot).2.2.1).before args s = true) (ty0 : Nat → FieldType) (hty : ∀ k, k < N → parseFieldDescriptor (T k).2.2.1 = some (ty0 k)) (hnm : ∀ a, a < N → ∀ b, b < N → a ≠ b → (T a).2.1 ≠ (T b).2.1) (hfin : (T slot).2.2.2 = false ∨ ((T slot).2.2.2 = true ∧ meth.name = "<init>" ∧ (T slot).1 = own)) (hty1 : ty0 slot = .boolean) (htg : ftag ci slot = 0) (hdg : decode cc pc = .ok (.putfield index, 3)) (hk : ∀ ls st sh R M cb sb, k ls st sh R M cb sb → WG p l e Rm s mm args below meth c Qw B cA ex D nL mc ms (pc + 3) ls st sh R M cb sb) (h0 : pI st fun v t => pR t fun a t => ook sh ci a (bq v (k ls t sh R (stm M a (slot : Nat) v) cb sb))) : WG p l e Rm s mm args below meth c Qw B cA ex D nL mc ms pc ls st sh R M cb sb := by
  obtain ⟨v, t, rfl, h⟩ := pI_inv h0
  obtain ⟨a, t, rfl, h⟩ := pR_inv h
  obtain ⟨hk0, h⟩ := ook_inv h
  obtain ⟨hv1, h⟩ := bq_inv h
  obtain ⟨n, rfl, hn, hsk⟩ := shk_inv (sh := sh) (a := a) (by rw [hk0]; omega)
  rw [hsk] at hk0
  intro H locs cells slots lsA hH hL hS h1 h2
  refine sd_put0 (R' := R) (M' := (stm M n (slot : Nat) v)) hx hb hK hts hci hcl hin hsl hnF hown hlink ty0 hty hnm hfin hdg hn hk0 ?_ ?_ ?_ (fun _ _ => rfl) (fun q hq => st_ne (by omega)) (fun _ _ => rfl) (fun i hi => by rw [st_at, if_neg (by omega)]) (fun z => z.st (fun _ => by rw [hk0, htg]; exact hS.hd)) hH (fun H1 locs1 hH1 => hk _ _ _ _ _ _ _ h H1 locs1 cells slots lsA hH1 hL hS.tl.tl h1 h2)
  · rw [hty1]
    exact bnar hv1
  · rw [hty1]
    exact by rcases hv1 with rfl | rfl <;> rfl
  · rw [htg, st_at, if_pos rfl]
    rfl
theorem sd_putL (hx : p.tables.exec = Jvm.exec) (hb : c.code = cc) (hK : va_K D vwCl (TYS cA) s) (hts : ∀ w ∈ TBg, w.before args s = true) {own C : String} {T : u_T} {N ci slot index : Nat} (hci : ci < 100) (hcl : vwCl[ci]? = some (C, T, N)) (hin : ∀ w ∈ u_ws C T N, w ∈ TBg) (hsl : slot < N) (hnF : nF ci = N) (hown : s.vm.findClass own = some mm.cls) (hlink : (Cond.fieldLink own index (T slot).1 (T slot).2.1 (T slot).2.2.1).before args s = true) (ty0 : Nat → FieldType) (hty : ∀ k, k < N → parseFieldDescriptor (T k).2.2.1 = some (ty0 k)) (hnm : ∀ a, a < N → ∀ b, b < N → a ≠ b → (T a).2.1 ≠ (T b).2.1) (hfin : (T slot).2.2.2 = false ∨ ((T slot).2.2.2 = true ∧ meth.name = "<init>" ∧ (T slot).1 = own)) (hty1 : ty0 slot = .long) (htg : ftag ci slot = 1) (hdg : decode cc pc = .ok (.putfield index, 3)) (hk : ∀ ls st sh R M cb sb, k ls st sh R M cb sb → WG p l e Rm s mm args below meth c Qw B cA ex D nL mc ms (pc + 3) ls st sh R M cb sb) (h0 : pL st fun v t => pR t fun a t => ook sh ci a (k ls t sh R (stm M a (slot : Nat) v) cb sb)) : WG p l e Rm s mm args below meth c Qw B cA ex D nL mc ms pc ls st sh R M cb sb := by
  obtain ⟨v, t, rfl, h⟩ := pL_inv h0
  obtain ⟨a, t, rfl, h⟩ := pR_inv h
  obtain ⟨hk0, h⟩ := ook_inv h
  obtain ⟨n, rfl, hn, hsk⟩ := shk_inv (sh := sh) (a := a) (by rw [hk0]; omega)
  rw [hsk] at hk0
  intro H locs cells slots lsA hH hL hS h1 h2
  refine sd_put0 (R' := R) (M' := (stm M n (slot : Nat) v)) hx hb hK hts hci hcl hin hsl hnF hown hlink ty0 hty hnm hfin hdg hn hk0 ?_ ?_ ?_ (fun _ _ => rfl) (fun q hq => st_ne (by omega)) (fun _ _ => rfl) (fun i hi => by rw [st_at, if_neg (by omega)]) (fun z => z.st (fun _ => by rw [hk0, htg]; exact hS.hd)) hH (fun H1 locs1 hH1 => hk _ _ _ _ _ _ _ h H1 locs1 cells slots lsA hH1 hL hS.tl.tl h1 h2)
  · rw [hty1]
    exact rfl
  · rw [hty1]
    exact rfl
  · rw [htg, st_at, if_pos rfl]
    rfl
theorem sd_putR (hx : p.tables.exec = Jvm.exec) (hb : c.code = cc) (hK : va_K D vwCl (TYS cA) s) (hts : ∀ w ∈ TBg, w.before args s = true) {own C : String} {T : u_T} {N ci slot index : Nat} (hci : ci < 100) (hcl : vwCl[ci]? = some (C, T, N)) (hin : ∀ w ∈ u_ws C T N, w ∈ TBg) (hsl : slot < N) (hnF : nF ci = N) (hown : s.vm.findClass own = some mm.cls) (hlink : (Cond.fieldLink own index (T slot).1 (T slot).2.1 (T slot).2.2.1).before args s = true) (ty0 : Nat → FieldType) (hty : ∀ k, k < N → parseFieldDescriptor (T k).2.2.1 = some (ty0 k)) (hnm : ∀ a, a < N → ∀ b, b < N → a ≠ b → (T a).2.1 ≠ (T b).2.1) (hfin : (T slot).2.2.2 = false ∨ ((T slot).2.2.2 = true ∧ meth.name = "<init>" ∧ (T slot).1 = own)) (hty1 : ((∃ nm, ty0 slot = .object nm) ∨ ∃ et, ty0 slot = .array et)) (htg : ftag ci slot = 2) (hdg : decode cc pc = .ok (.putfield index, 3)) (hk : ∀ ls st sh R M cb sb, k ls st sh R M cb sb → WG p l e Rm s mm args below meth c Qw B cA ex D nL mc ms (pc + 3) ls st sh R M cb sb) (h0 : pR st fun v t => pR t fun a t => ook sh ci a (k ls t sh (stm R a (slot : Nat) v) M cb sb)) : WG p l e Rm s mm args below meth c Qw B cA ex D nL mc ms pc ls st sh R M cb sb := by
  obtain ⟨v, t, rfl, h⟩ := pR_inv h0
  obtain ⟨a, t, rfl, h⟩ := pR_inv h
  obtain ⟨hk0, h⟩ := ook_inv h
  obtain ⟨n, rfl, hn, hsk⟩ := shk_inv (sh := sh) (a := a) (by rw [hk0]; omega)
  rw [hsk] at hk0
  intro H locs cells slots lsA hH hL hS h1 h2
  have hvv : cv B ex (2, v) = rv B v := rfl
  refine sd_put0 (R' := (stm R n (slot : Nat) v)) (M' := M) hx hb hK hts hci hcl hin hsl hnF hown hlink ty0 hty hnm hfin hdg hn hk0 ?_ ?_ ?_ (fun q hq => st_ne (by omega)) (fun _ _ => rfl) (fun i hi => by rw [st_at, if_neg (by omega)]) (fun _ _ => rfl) (fun z => z.str hS.hd) hH (fun H1 locs1 hH1 => hk _ _ _ _ _ _ _ h H1 locs1 cells slots lsA hH1 hL hS.tl.tl h1 h2)
  · rw [hvv]
    unfold rv
    rcases hty1 with ⟨nm, e1⟩ | ⟨et, e1⟩ <;> rw [e1] <;> split <;> rfl
  · rw [hvv]
    unfold rv
    rcases hty1 with ⟨nm, e1⟩ | ⟨et, e1⟩ <;> rw [e1] <;> split <;> rfl
  · rw [htg, st_at, if_pos rfl]
    rfl
end
