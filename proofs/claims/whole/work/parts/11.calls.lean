/-! methods, calls, a row's link, a walk -/
def mY (m : Nat) : MethodName := (mt m).1
def mC (m : Nat) : ByteArray := (mt m).2.1
def mL (m : Nat) : Nat := (mt m).2.2.1
def mR (m : Nat) : Option FieldType := (mt m).2.2.2.1
def mO (m : Nat) : String := (mt m).2.2.2.2.1
def mK (m : Nat) : List INS := (mt m).2.2.2.2.2
def rvl (B : Nat) (ret : Option FieldType) (x : Int) : Option Value := match ret with
  | none => none
  | some .long => some (.long (Int64.ofInt x))
  | some (.object _) => some (rv B x)
  | some (.array _) => some (rv B x)
  | some _ => some (.int (Int32.ofInt x))
def rok (ret : Option FieldType) (x : Int) : Prop := match ret with
  | none => True
  | some .long => rngv 1 x
  | some (.object _) => rngv 2 x
  | some (.array _) => rngv 2 x
  | some .boolean => x = 0 ∨ x = 1
  | some _ => rngv 0 x
def retI (ret : Option FieldType) : Jvm.ClassFile.Instr := match ret with
  | none => .return_
  | some .long => .lreturn
  | some (.object _) => .areturn
  | some (.array _) => .areturn
  | some _ => .ireturn
def rtB (rt : Nat) (ret : Option FieldType) : Bool := match ret with
  | none => Nat.beq rt 9
  | some .long => Nat.beq rt 1
  | some (.object _) => Nat.beq rt 2
  | some (.array _) => Nat.beq rt 2
  | some .boolean => Nat.beq rt 5
  | some .int => Nat.beq rt 0
  | some _ => false
def PreM (B : Nat) (cA : Nat → ClassId) (D : va_G) (ex adV : Nat → Nat) (as : List AV) (sh : SHP) (R M : MEM) : Array Value → State → Prop := va_Pc (as.map (cv B ex)) (fun U => va_P D vwCl (wo B cA sh R M) U.heap ∧ U.heap.size = B + sh.length ∧ RN sh R M ∧ va_K D vwCl (TYS cA) U ∧ EX B ex adV U U.heap ∧ SQ as)
def PostM (B : Nat) (cA : Nat → ClassId) (D : va_G) (ret : Option FieldType) (Q : RES) : Array Value → State → Outcome → State → Prop := fun _ u oc t => (∃ (x : Int) (sh : SHP) (R M : MEM), oc = .returned (rvl B ret x) ∧ Q x sh R M ∧ rok ret x ∧ va_P D vwCl (wo B cA sh R M) t.heap ∧ t.heap.size = B + sh.length ∧ RN sh R M) ∧ va_F (Bq B) u t
def wsM (m : Nat) : List Cond := Cond.code (mY m) (mC m) (mL m) (mR m) :: TBg
def roomM (d mc ms : Nat) : Room := { frames := d + 6, cells := mc, slots := ms, locals := 60 * (d + 6) }
/-- METHOD m, with d calls still to come beneath it at most, making mc cells of ms slots at most: from these arguments and these numbers it comes to an end, and then Q -/
def Mw (d : Nat) : CLL := fun m as sh R M mc ms Q => ∀ (l : Launch) (B : Nat) (cA : Nat → ClassId) (ex adV : Nat → Nat) (D : va_G), Met l (mY m) (wsM m) (roomM d mc ms) (PreM B cA D ex adV as sh R M) (PostM B cA D (mR m) Q) mc ms (Bq B)
def Cd (d : Nat) : CLL := match d with
  | 0 => fun _ _ _ _ _ _ _ _ => False
  | d + 1 => Mw d
theorem nfw : nativeFrameWords "java/lang/System" "arraycopy" 5 = 7 := by decide +kernel
theorem PreM_blind {B : Nat} {cA : Nat → ClassId} {D : va_G} {ex adV : Nat → Nat} {as : List AV} {sh : SHP} {R M : MEM} : FrameBlind (PreM B cA D ex adV as sh R M) := fun a U g mk h => ⟨h.1, h.2.1, h.2.2.1, h.2.2.2.1, va_K.moved (u := U) (U := U.calling g mk a) (Vm.Alike.refl U.vm) h.2.2.2.2.1, EX.same (u := U) rfl h.2.2.2.2.2.1, h.2.2.2.2.2.2⟩
theorem TBg_good {w : Cond} (h : w ∈ TBg) : (w.onTables && w.keeps) = true ∨ ∃ ty, w = .arrayClass ty := good_of_word (List.mem_filter.mp h).2
def wdq (q : Nat) (w : Cond) : Bool := decide (lw_tbl[q]? = some w) && goodWord w
theorem wdq_mem {q : Nat} {w : Cond} (h : wdq q w = true) : w ∈ TBg := by
  unfold wdq at h
  rw [Bool.and_eq_true, decide_eq_true_eq] at h
  exact List.mem_filter.mpr ⟨List.mem_of_getElem? h.1, h.2⟩
theorem popn_inv : ∀ (n : Nat) (acc s : List AV) (f : List AV → List AV → Prop), popn n acc s f → ∃ (as t : List AV), s = as.reverse ++ t ∧ as.length = n ∧ f (as ++ acc) t
  | 0, acc, s, f, h => ⟨[], s, rfl, rfl, h⟩
  | n + 1, acc, v :: s, f, h => by
    obtain ⟨as, t, h1, h2, h3⟩ := popn_inv n (v :: acc) s f h
    exact ⟨as ++ [v], t, by rw [h1]; simp, by simp [h2], by simpa using h3⟩
  | _ + 1, _, [], _, h => h.elim
/-- the link of a call, by the places of its words -/
def callB (own : String) (index : Nat) (r : List Nat) : Bool := decide (pick r 1 < 277) && decide (mL (pick r 1) ≤ 40) && rtB (pick r 3) (mR (pick r 1)) && decide ((mY (pick r 1)).cls ≠ "java/lang/invoke/MethodHandle") && decide ((mY (pick r 1)).cls ≠ "java/lang/invoke/VarHandle") && decide ((parseMethodDescriptor (mY (pick r 1)).desc).map (fun d => d.parameters.length) = some (pick r 2)) && wdq (pick r 7) (.methodLink own index (mY (pick r 1))) && wdq (pick r 10) (.initialized (mY (pick r 1)).cls) && wdq (pick r 11) (.code (mY (pick r 1)) (mC (pick r 1)) (mL (pick r 1)) (mR (pick r 1)))
def cvB (r : List Nat) : Bool := (match vwCl[pick r 6]? with
  | some q => decide (q.1 = (mY (pick r 1)).cls)
  | none => false) && decide (pick r 6 < 100) && wdq (pick r 8) (.instanceMethod (mY (pick r 1))) && wdq (pick r 9) (.selects (mY (pick r 1)).cls (mY (pick r 1)) (mY (pick r 1)))
def ciB (r : List Nat) : Bool := decide (pick r 6 < 100) && wdq (pick r 8) (.instanceMethod (mY (pick r 1))) && decide ((mY (pick r 1)).name = "<init>") && decide (mR (pick r 1) = none)
section
variable {p : Program} {l : Launch} {e : Env} {Rm : Room} {s : State} {mm : MethodId} {args : Array Value} {below : List Frame} {meth : Method} {c : Code} {Qw : State → Prop}
variable {B : Nat} {cA : Nat → ClassId} {ex adV : Nat → Nat} {D : va_G} {nL mc ms : Nat} {cc : ByteArray} {pc : Nat} {k : NXT} {ls st : List AV} {sh : SHP} {R M : MEM} {cb sb : Nat}
set_option maxRecDepth 10000 in
theorem callB_of_row {d : Nat} {own : String} {index : Nat} {r : List Nat} (hts : ∀ w ∈ TBg, w.before args s = true) (hfr : d + 7 ≤ Rm.frames) (hlo : 60 * (d + 7) ≤ Rm.locals) (h : callB own index r = true) : CallB Rm s args own index (mY (pick r 1)) (mC (pick r 1)) (mL (pick r 1)) (mR (pick r 1)) (wsM (pick r 1)) (roomM d (pick r 4) (pick r 5)) (pick r 4) (pick r 5) (pick r 2) := by
  unfold callB at h
  simp only [Bool.and_eq_true, decide_eq_true_eq] at h
  obtain ⟨⟨⟨⟨⟨⟨⟨⟨h0, h1⟩, h2⟩, h3⟩, h4⟩, h5⟩, h6⟩, h7⟩, h8⟩ := h
  refine callB_of (ws' := TBg) (pick r 2) hts ?_ (by unfold wsM; rfl) (by unfold roomM; rfl) (by unfold roomM; rfl) (hts _ (wdq_mem h7)) (hts _ (wdq_mem h6)) ⟨h3, h4, h5⟩ ⟨by show d + 6 + 1 ≤ _; omega, by show 8 + (mL (pick r 1) + 11) + 60 * (d + 6) ≤ _; omega⟩
  intro w hw
  rcases List.mem_cons.mp hw with rfl | hw
  · exact ⟨wdq_mem h8, TBg_good (wdq_mem h8)⟩
  · exact ⟨hw, TBg_good hw⟩
theorem call_go {st0 : List Value} {mc' ms' : Nat} {ret : Option FieldType} {Q : RES} {a : Array Value} {rest : List Value} {H : Heap} {locs : List Loc} {cells slots : Nat} {lsA : Array Slot} (hr : va_Run p l e Rm s mm args below meth c H locs cells slots mc' ms' (F0 mm pc lsA st0) rest (PostM B cA D ret Q a) (Bq B)) (hBs : B ≤ s.heap.size) (hS : va_S (Bq B) s.heap H locs)
    (kk : ∀ (x : Int) (sh : SHP) (R M : MEM) (H1 : Heap) (locs1 : List Loc), Q x sh R M → rok ret x → HR B cA D s H1 locs1 sh R M → W p l e Rm s mm args below meth c H1 locs1 (cells + mc') (slots + ms') Qw (F0 mm (pc + 3) lsA ((rvl B ret x).toList ++ rest))) : W p l e Rm s mm args below meth c H locs cells slots Qw (F0 mm pc lsA st0) := by
  intro T hT X
  obtain ⟨v, st₀, t, T', L, h0, X', hL, e1, e2, ⟨⟨x, sh, R, M, hv, hq, hrk, hp, hz, hn⟩, hz2, hk2⟩, stp⟩ := hr T hT X
  cases hv
  rw [h0] at hz2 hk2
  obtain ⟨t2, a1, b1⟩ := kk x sh R M T'.heap (locs ++ L) hq hrk ⟨by rw [e1]; exact hp, ⟨Nat.le_trans hS.1 (by rw [e1]; exact hz2), fun q h1 h2 => by rw [e1, hk2 q (Nat.lt_of_lt_of_le h1 hS.1) h2]; exact hS.2.1 q h1 h2, fun q hq => by
      rcases List.mem_append.mp hq with h | h
      · exact hS.2.2 q h
      · exact hL q h⟩, by rw [e1]; exact hz, hn⟩ T' rfl X'
  exact ⟨t2, stp t2 a1, b1⟩
/-- what a call's answer is on the caller's stack -/
theorem rtk_go {rt : Nat} {ret : Option FieldType} {t : List AV} {kq : List AV → SHP → MEM → MEM → Prop} {x : Int} (hrt : rtB rt ret = true) (hr : rok ret x) (h : rtk rt t kq x sh R M) (hS : SQ t) : ∃ t', kq t' sh R M ∧ SQ t' ∧ t'.map (cv B ex) = (rvl B ret x).toList ++ t.map (cv B ex) := by
  unfold rtB at hrt
  split at hrt
  · cases Nat.eq_of_beq_eq_true hrt
    exact ⟨t, h, hS, rfl⟩
  · cases Nat.eq_of_beq_eq_true hrt
    exact ⟨(1, x) :: t, h, SQ.cons hr hS, rfl⟩
  · cases Nat.eq_of_beq_eq_true hrt
    exact ⟨(2, x) :: t, h, SQ.cons hr hS, rfl⟩
  · cases Nat.eq_of_beq_eq_true hrt
    exact ⟨(2, x) :: t, h, SQ.cons hr hS, rfl⟩
  · cases Nat.eq_of_beq_eq_true hrt
    exact ⟨(0, x) :: t, h hr, SQ.cons (by rcases hr with rfl | rfl <;> exact ⟨by omega, by omega⟩) hS, rfl⟩
  · cases Nat.eq_of_beq_eq_true hrt
    exact ⟨(0, x) :: t, h, SQ.cons hr hS, rfl⟩
  · cases hrt
theorem map_rev (B : Nat) (ex : Nat → Nat) (as t : List AV) : (as.reverse ++ t).map (cv B ex) = (as.map (cv B ex)).reverse ++ t.map (cv B ex) := by simp
theorem SQ.app {as t : List AV} (h : SQ (as.reverse ++ t)) : SQ as ∧ SQ t := ⟨fun v hv => h v (List.mem_append_left _ (List.mem_reverse.mpr hv)), fun v hv => h v (List.mem_append_right _ hv)⟩
theorem sd_callS (hx : p.tables.exec = Jvm.exec) (hb : c.code = cc) (hK : va_K D vwCl (TYS cA) s) (hts : ∀ w ∈ TBg, w.before args s = true) {own : String} (hown : s.vm.findClass own = some mm.cls) (hRc : mc ≤ Rm.cells) (hRs : ms ≤ Rm.slots) (hEX : EX B ex adV s s.heap) (hBs : B ≤ s.heap.size) {d : Nat} (hfr : d + 6 ≤ Rm.frames) (hlo : 60 * (d + 6) ≤ Rm.locals) (hml : c.maxLocals = nL) {index : Nat} {r : List Nat} (hcb : callB own index r = true) (w2 : (Cond.static (mY (pick r 1))).before args s = true) (hdg : decode cc pc = .ok (.invokestatic index, 3)) (hk : ∀ ls st sh R M cb sb, k ls st sh R M cb sb → WG p l e Rm s mm args below meth c Qw B cA ex D nL mc ms (pc + 3) ls st sh R M cb sb) (h0 : popn (pick r 2) [] st fun as t => bud (Nat.ble (pick r 4) cb && Nat.ble (pick r 5) sb && Nat.ble (cats t) 8) (Cd d (pick r 1) as sh R M (pick r 4) (pick r 5) (rtk (pick r 3) t fun t sh R M => k ls t sh R M (cb - pick r 4) (sb - pick r 5)))) : WG p l e Rm s mm args below meth c Qw B cA ex D nL mc ms pc ls st sh R M cb sb := by
  obtain ⟨as, t, rfl, hlen, h⟩ := popn_inv _ _ _ _ h0
  obtain ⟨hb1, h3⟩ := bud_inv h
  rw [Bool.and_eq_true, Bool.and_eq_true] at hb1
  have b0 := Nat.le_of_ble_eq_true hb1.1.1
  have b1 := Nat.le_of_ble_eq_true hb1.1.2
  have b2 := Nat.le_of_ble_eq_true hb1.2
  rw [List.append_nil] at h3
  unfold Cd at h3
  cases d with
  | zero => exact h3.elim
  | succ d =>
  have hcB := callB_of_row (d := d) hts (by omega) (by omega) hcb
  have hrt : rtB (pick r 3) (mR (pick r 1)) = true := by
    unfold callB at hcb
    simp only [Bool.and_eq_true] at hcb
    exact hcb.1.1.1.1.1.1.2
  intro H locs cells slots lsA hH hL hS h1 h2
  obtain ⟨hSa, hSt⟩ := hS.app
  have hcs := cats_sum B ex t
  have hM := h3 l B cA ex adV D
  rw [map_rev]
  refine call_go (va_runS (As := as.map (cv B ex)) (rest := t.map (cv B ex)) ⟨hx, hb, hml, hown, hts⟩ hM ⟨hcB, w2⟩ ⟨PreM_blind, fun U hU hW => ⟨rfl, by rw [hU]; exact hH.1, by rw [hU]; exact hH.2.2.1, hH.2.2.2, va_K.moved hW.alike hK, by rw [hU]; exact (hEX.warm hW).kept hH.2.1.2.1, hSa⟩⟩ rfl (by rw [List.length_map]; exact hlen) hL.1.1 rfl (lv_room (Nat.le_trans hcs b2)) hdg ⟨by omega, by omega⟩) hBs hH.2.1 (fun x sh' R' M' H1 locs1 hq hrk hH1 => ?_)
  obtain ⟨t', g1, g2, g3⟩ := rtk_go (B := B) (ex := ex) hrt hrk hq hSt
  have hh := hk _ _ _ _ _ _ _ g1 H1 locs1 (cells + pick r 4) (slots + pick r 5) lsA hH1 hL g2 (by omega) (by omega)
  rw [g3] at hh
  exact hh
theorem sd_callV (hx : p.tables.exec = Jvm.exec) (hb : c.code = cc) (hK : va_K D vwCl (TYS cA) s) (hts : ∀ w ∈ TBg, w.before args s = true) {own : String} (hown : s.vm.findClass own = some mm.cls) (hRc : mc ≤ Rm.cells) (hRs : ms ≤ Rm.slots) (hEX : EX B ex adV s s.heap) (hBs : B ≤ s.heap.size) {d : Nat} (hfr : d + 6 ≤ Rm.frames) (hlo : 60 * (d + 6) ≤ Rm.locals) (hml : c.maxLocals = nL) {index : Nat} {r : List Nat} (hcb : callB own index r = true) (hcv : cvB r = true) (hdg : decode cc pc = .ok (.invokevirtual index, 3)) (hk : ∀ ls st sh R M cb sb, k ls st sh R M cb sb → WG p l e Rm s mm args below meth c Qw B cA ex D nL mc ms (pc + 3) ls st sh R M cb sb) (h0 : popn (pick r 2) [] st fun as t => pR t fun a t => ook sh (pick r 6) a (bud (Nat.ble (pick r 4) cb && Nat.ble (pick r 5) sb && Nat.ble (cats t) 8) (Cd d (pick r 1) ((2, a) :: as) sh R M (pick r 4) (pick r 5) (rtk (pick r 3) t fun t sh R M => k ls t sh R M (cb - pick r 4) (sb - pick r 5))))) : WG p l e Rm s mm args below meth c Qw B cA ex D nL mc ms pc ls st sh R M cb sb := by
  obtain ⟨as, t, rfl, hlen, h⟩ := popn_inv _ _ _ _ h0
  obtain ⟨a, t, rfl, h⟩ := pR_inv h
  obtain ⟨hk0, h⟩ := ook_inv h
  obtain ⟨hb1, h3⟩ := bud_inv h
  rw [Bool.and_eq_true, Bool.and_eq_true] at hb1
  have b0 := Nat.le_of_ble_eq_true hb1.1.1
  have b1 := Nat.le_of_ble_eq_true hb1.1.2
  have b2 := Nat.le_of_ble_eq_true hb1.2
  rw [List.append_nil] at h3
  unfold Cd at h3
  cases d with
  | zero => exact h3.elim
  | succ d =>
  have hcB := callB_of_row (d := d) hts (by omega) (by omega) hcb
  have hrt : rtB (pick r 3) (mR (pick r 1)) = true := by
    unfold callB at hcb
    simp only [Bool.and_eq_true] at hcb
    exact hcb.1.1.1.1.1.1.2
  unfold cvB at hcv
  simp only [Bool.and_eq_true, decide_eq_true_eq] at hcv
  obtain ⟨⟨⟨hv1, hv2⟩, hv3⟩, hv4⟩ := hcv
  cases hcl : vwCl[pick r 6]? with
  | none => rw [hcl] at hv1; cases hv1
  | some q =>
  rw [hcl] at hv1
  simp only [decide_eq_true_eq] at hv1
  obtain ⟨n, rfl, hn, hsk⟩ := shk_inv (sh := sh) (a := a) (by rw [hk0]; omega)
  rw [hsk] at hk0
  intro H locs cells slots lsA hH hL hS h1 h2
  have hg := wo_get (B := B) (cA := cA) (R := R) (M := M) hn
  rw [hk0, el_obj hv2] at hg
  obtain ⟨hSa, hSt0⟩ := hS.app
  have hSt := hSt0.tl
  have hcs := cats_sum B ex t
  have hM := h3 l B cA ex adV D
  rw [map_rev, map_cv_cons]
  have e0 : cv B ex (2, (n : Int)) = .ref (B + n) := by
    show rv B (n : Int) = _
    unfold rv
    rw [if_neg (by omega), Int.toNat_natCast]
  rw [e0]
  have hPre : ∀ U : State, U.heap = H → s.WarmedH U.vm → PreM B cA D ex adV ((2, (n : Int)) :: as) sh R M (Value.ref (B + n) :: as.map (cv B ex)).toArray U := fun U hU hW => ⟨by rw [map_cv_cons, e0], by rw [hU]; exact hH.1, by rw [hU]; exact hH.2.2.1, hH.2.2.2, va_K.moved hW.alike hK, by rw [hU]; exact (hEX.warm hW).kept hH.2.1.2.1, SQ.cons hSt0.hd hSa⟩
  have hrc := va_recv hK hH.1 hcl hg
  rw [hv1] at hrc
  refine call_go (va_runV (C := (mY (pick r 1)).cls) (As := as.map (cv B ex)) (rest := t.map (cv B ex)) ⟨hx, hb, hml, hown, hts⟩ hM ⟨hcB, hts _ (wdq_mem hv3), hts _ (wdq_mem hv4)⟩ ⟨PreM_blind, hrc, hPre⟩ rfl (by rw [List.length_map]; exact hlen) hL.1.1 rfl (lv_room (Nat.le_trans hcs b2)) hdg ⟨by omega, by omega⟩) hBs hH.2.1 (fun x sh' R' M' H1 locs1 hq hrk hH1 => ?_)
  obtain ⟨t', g1, g2, g3⟩ := rtk_go (B := B) (ex := ex) hrt hrk hq hSt
  have hh := hk _ _ _ _ _ _ _ g1 H1 locs1 (cells + pick r 4) (slots + pick r 5) lsA hH1 hL g2 (by omega) (by omega)
  rw [g3] at hh
  exact hh
theorem sd_callI (hx : p.tables.exec = Jvm.exec) (hb : c.code = cc) (hK : va_K D vwCl (TYS cA) s) (hts : ∀ w ∈ TBg, w.before args s = true) {own : String} (hown : s.vm.findClass own = some mm.cls) (hRc : mc ≤ Rm.cells) (hRs : ms ≤ Rm.slots) (hEX : EX B ex adV s s.heap) (hBs : B ≤ s.heap.size) {d : Nat} (hfr : d + 6 ≤ Rm.frames) (hlo : 60 * (d + 6) ≤ Rm.locals) (hml : c.maxLocals = nL) {index : Nat} {r : List Nat} (hcb : callB own index r = true) (hcv : ciB r = true) (hdg : decode cc pc = .ok (.invokespecial index, 3)) (hk : ∀ ls st sh R M cb sb, k ls st sh R M cb sb → WG p l e Rm s mm args below meth c Qw B cA ex D nL mc ms (pc + 3) ls st sh R M cb sb) (h0 : popn (pick r 2) [] st fun as t => pR t fun a t => ook sh (pick r 6) a (bud (Nat.ble (pick r 4) cb && Nat.ble (pick r 5) sb && Nat.ble (cats t) 8) (Cd d (pick r 1) ((2, a) :: as) sh R M (pick r 4) (pick r 5) (rtk (pick r 3) t fun t sh R M => k ls t sh R M (cb - pick r 4) (sb - pick r 5))))) : WG p l e Rm s mm args below meth c Qw B cA ex D nL mc ms pc ls st sh R M cb sb := by
  obtain ⟨as, t, rfl, hlen, h⟩ := popn_inv _ _ _ _ h0
  obtain ⟨a, t, rfl, h⟩ := pR_inv h
  obtain ⟨hk0, h⟩ := ook_inv h
  obtain ⟨hb1, h3⟩ := bud_inv h
  rw [Bool.and_eq_true, Bool.and_eq_true] at hb1
  have b0 := Nat.le_of_ble_eq_true hb1.1.1
  have b1 := Nat.le_of_ble_eq_true hb1.1.2
  have b2 := Nat.le_of_ble_eq_true hb1.2
  rw [List.append_nil] at h3
  unfold Cd at h3
  cases d with
  | zero => exact h3.elim
  | succ d =>
  have hcB := callB_of_row (d := d) hts (by omega) (by omega) hcb
  have hrt : rtB (pick r 3) (mR (pick r 1)) = true := by
    unfold callB at hcb
    simp only [Bool.and_eq_true] at hcb
    exact hcb.1.1.1.1.1.1.2
  unfold ciB at hcv
  simp only [Bool.and_eq_true, decide_eq_true_eq] at hcv
  obtain ⟨⟨⟨hv2, hv3⟩, hv4⟩, hv5⟩ := hcv
  obtain ⟨n, rfl, hn, hsk⟩ := shk_inv (sh := sh) (a := a) (by rw [hk0]; omega)
  rw [hsk] at hk0
  intro H locs cells slots lsA hH hL hS h1 h2
  have hg := wo_get (B := B) (cA := cA) (R := R) (M := M) hn
  rw [hk0, el_obj hv2] at hg
  obtain ⟨hSa, hSt0⟩ := hS.app
  have hSt := hSt0.tl
  have hcs := cats_sum B ex t
  have hM := h3 l B cA ex adV D
  rw [map_rev, map_cv_cons]
  have e0 : cv B ex (2, (n : Int)) = .ref (B + n) := by
    show rv B (n : Int) = _
    unfold rv
    rw [if_neg (by omega), Int.toNat_natCast]
  rw [e0]
  have hPre : ∀ U : State, U.heap = H → s.WarmedH U.vm → PreM B cA D ex adV ((2, (n : Int)) :: as) sh R M (Value.ref (B + n) :: as.map (cv B ex)).toArray U := fun U hU hW => ⟨by rw [map_cv_cons, e0], by rw [hU]; exact hH.1, by rw [hU]; exact hH.2.2.1, hH.2.2.2, va_K.moved hW.alike hK, by rw [hU]; exact (hEX.warm hW).kept hH.2.1.2.1, SQ.cons hSt0.hd hSa⟩
  rw [hv5] at hcB
  refine call_go (va_runI (As := as.map (cv B ex)) (rest := t.map (cv B ex)) ⟨hx, hb, hml, hown, hts⟩ hM ⟨hcB, hv4, hts _ (wdq_mem hv3)⟩ ⟨PreM_blind, hPre⟩ rfl (by rw [List.length_map]; exact hlen) hL.1.1 rfl (lv_room (Nat.le_trans hcs b2)) hdg ⟨by omega, by omega⟩) hBs hH.2.1 (fun x sh' R' M' H1 locs1 hq hrk hH1 => ?_)
  obtain ⟨t', g1, g2, g3⟩ := rtk_go (B := B) (ex := ex) hrt hrk hq hSt
  have hh := hk _ _ _ _ _ _ _ g1 H1 locs1 (cells + pick r 4) (slots + pick r 5) lsA hH1 hL g2 (by omega) (by omega)
  rw [g3] at hh
  exact hh
theorem sd_copy (hx : p.tables.exec = Jvm.exec) (hb : c.code = cc) (hK : va_K D vwCl (TYS cA) s) (hts : ∀ w ∈ TBg, w.before args s = true) {own : String} (hown : s.vm.findClass own = some mm.cls) (hfr : 6 ≤ Rm.frames) (hlo : 360 ≤ Rm.locals) {index : Nat} (hlink : (Cond.methodLink own index arraycopyName).before args s = true) (hnat : (Cond.native arraycopyName).before args s = true) (hstat : (Cond.static arraycopyName).before args s = true) (hini : (Cond.initialized "java/lang/System").before args s = true) (hml : c.maxLocals = nL) (hdg : decode cc pc = .ok (.invokestatic index, 3)) (hk : ∀ ls st sh R M cb sb, k ls st sh R M cb sb → WG p l e Rm s mm args below meth c Qw B cA ex D nL mc ms (pc + 3) ls st sh R M cb sb) (h00 : bud (Nat.ble (cats st) 13) (pI st fun n s => pI s fun dp s => pR s fun b s => pI s fun sp s => pR s fun a s => aok sh 100 a sp (aok sh 100 b dp (0 ≤ n ∧ sp + n ≤ Int.ofNat (shk sh a).2 ∧ dp + n ≤ Int.ofNat (shk sh b).2 ∧ k ls s sh R (cpm M a sp b dp n) cb sb)))) : WG p l e Rm s mm args below meth c Qw B cA ex D nL mc ms pc ls st sh R M cb sb := by
  obtain ⟨hb1, h0⟩ := bud_inv h00
  have b1 := Nat.le_of_ble_eq_true hb1
  obtain ⟨n, t1, rfl, y1⟩ := pI_inv h0
  obtain ⟨dp, t2, rfl, y2⟩ := pI_inv y1
  obtain ⟨b, t3, rfl, y3⟩ := pR_inv y2
  obtain ⟨sp, t4, rfl, y4⟩ := pI_inv y3
  obtain ⟨a, t, rfl, y5⟩ := pR_inv y4
  obtain ⟨ka, sp0, sp1, y6⟩ := aok_inv y5
  obtain ⟨kb, dp0, dp1, y7⟩ := aok_inv y6
  obtain ⟨n0, n1, n2, h⟩ := y7
  obtain ⟨na, rfl, hna, hska⟩ := shk_inv (sh := sh) (a := a) (by rw [ka]; decide)
  obtain ⟨nb, rfl, hnb, hskb⟩ := shk_inv (sh := sh) (a := b) (by rw [kb]; decide)
  rw [hska] at ka sp1 n1
  rw [hskb] at kb dp1 n2
  intro H locs cells slots lsA hH hL hS h1 h2
  have hP := hH.1
  have hga := wo_get (B := B) (cA := cA) (R := R) (M := M) hna
  have hgb := wo_get (B := B) (cA := cA) (R := R) (M := M) hnb
  rw [ka] at hga
  rw [kb] at hgb
  have hnr : rngv 0 n := hS.hd
  have hdr : rngv 0 dp := hS.tl.hd
  have hsr : rngv 0 sp := hS.tl.tl.tl.hd
  have cn := clamp32 hnr n0
  have cdp := clamp32 hdr dp0
  have csp := clamp32 hsr sp0
  obtain ⟨nn, rfl⟩ := Int.eq_ofNat_of_zero_le n0
  obtain ⟨dn, rfl⟩ := Int.eq_ofNat_of_zero_le dp0
  obtain ⟨sn, rfl⟩ := Int.eq_ofNat_of_zero_le sp0
  rw [Int.toNat_natCast] at cn cdp csp
  have i1 : sn + nn ≤ (sk sh na).2 := by have : ((sn : Int) + (nn : Int)) ≤ ((sk sh na).2 : Int) := n1; omega
  have i2 : dn + nn ≤ (sk sh nb).2 := by have : ((dn : Int) + (nn : Int)) ≤ ((sk sh nb).2 : Int) := n2; omega
  have en : (Int32.ofInt (nn : Int)).toInt = (nn : Int) := ti32 hnr
  have ed : (Int32.ofInt (dn : Int)).toInt = (dn : Int) := ti32 hdr
  have es : (Int32.ofInt (sn : Int)).toInt = (sn : Int) := ti32 hsr
  have hcs := cats_sum B ex t
  have hc2 : cats t ≤ 13 := by
    unfold cats at b1; unfold cats at b1; unfold cats at b1; unfold cats at b1; unfold cats at b1; omega
  have e0 : ∀ q : Nat, cv B ex (2, (q : Int)) = .ref (B + q) := fun q => by
    show rv B (q : Int) = _
    unfold rv
    rw [if_neg (by omega), Int.toNat_natCast]
  simp only [map_cv_cons, e0]
  intro T hT X
  have hc0 : H[B + na]? = some (vp_cell (cA 0) ((sk sh na).2, .inl (fun j => Int32.ofInt (M na j)))) := hP na _ hga
  have hc1 : H[B + nb]? = some (vp_cell (cA 0) ((sk sh nb).2, .inl (fun j => Int32.ofInt (M nb j)))) := hP nb _ hgb
  obtain ⟨-, k0, hk0, cm0, hkk0⟩ := (hK.2 0 _ rfl).1 (sk sh na).2 (fun j => .int (Int32.ofInt (M na j)))
  obtain ⟨-, k1, hk1, cm1, hkk1⟩ := (hK.2 0 _ rfl).1 (sk sh nb).2 (fun j => .int (Int32.ofInt (M nb j)))
  obtain ⟨vm', X', step⟩ := X.arraycopy hx hown hlink hnat hstat hini (src := B + na) (dst := B + nb) (cs := vp_cell (cA 0) ((sk sh na).2, .inl (fun j => Int32.ofInt (M na j)))) (cd := vp_cell (cA 0) ((sk sh nb).2, .inl (fun j => Int32.ofInt (M nb j)))) (srcPos := Int32.ofInt sn) (destPos := Int32.ofInt dn) (n := Int32.ofInt nn) (by rw [hT]; exact hc0) (by rw [hT]; exact hc1)
    (fun _ h => by cases h) (fun _ h => by cases h) (fun h => by cases h) (fun h => by cases h) hk0 hk1 hkk0 hkk1 (by simp [refKind]) (lt0_32 hsr sp0) (lt0_32 hdr dp0) (lt0_32 hnr n0)
    (by rw [es, en]; show ¬ _ > ((arrV (cA 0) (sk sh na).2 (fun j => .int (Int32.ofInt (M na j)))).slots.size : Int); rw [arrV_size]; omega)
    (by rw [ed, en]; show ¬ _ > ((arrV (cA 0) (sk sh nb).2 (fun j => .int (Int32.ofInt (M nb j)))).slots.size : Int); rw [arrV_size]; omega)
    (fun vm₁ _ i hi => by
      rw [cn] at hi
      have e : (vp_cell (cA 0) ((sk sh na).2, .inl (fun j => Int32.ofInt (M na j)))).slots.getD ((Int32.ofInt (sn : Int)).toNatClampNeg + i) .null = .int (Int32.ofInt (M na ((Int32.ofInt (sn : Int)).toNatClampNeg + i : Nat))) := by
        show (arrV (cA 0) (sk sh na).2 (fun j => .int (Int32.ofInt (M na j)))).slots.getD _ _ = _
        rw [Array.getD_eq_getD_getElem?, arrV_read _ _ (by rw [csp]; omega)]
        rfl
      refine ⟨?_, ?_⟩
      · rw [e]
        rfl
      · rw [e]
        exact trivial)
    (g := F0 mm pc lsA (.int (Int32.ofInt nn) :: .int (Int32.ofInt dn) :: .ref (B + nb) :: .int (Int32.ofInt sn) :: .ref (B + na) :: t.map (cv B ex))) rfl (by rw [hml]; exact hL.1.1) (rest := t.map (cv B ex)) rfl (by rw [hb]; exact hdg) (by omega) (by rw [nfw]; show 2 * 0 + _ + (7 + 11) ≤ _; omega)
  have e1 : copied (vp_cell (cA 0) ((sk sh na).2, .inl (fun j => Int32.ofInt (M na j)))) (vp_cell (cA 0) ((sk sh nb).2, .inl (fun j => Int32.ofInt (M nb j)))) (Int32.ofInt sn) (Int32.ofInt dn) (Int32.ofInt nn) = vp_cell (cA 0) ((sk sh nb).2, .inl (va_cpy (fun j => Int32.ofInt (M na j)) (fun j => Int32.ofInt (M nb j)) (Int32.ofInt (sn : Int)).toNatClampNeg (Int32.ofInt (dn : Int)).toNatClampNeg (Int32.ofInt (nn : Int)).toNatClampNeg)) := va_copied (fun z => .int z) (cA 0) (cA 0) (fun j => Int32.ofInt (M na j)) (fun j => Int32.ofInt (M nb j)) (by rw [csp, cn]; exact i1)
  rw [e1, csp, cdp, cn] at X' step
  have e2 : va_cpy (fun j : Nat => Int32.ofInt (M na j)) (fun j : Nat => Int32.ofInt (M nb j)) sn dn nn = fun j : Nat => Int32.ofInt (cpm M na sn nb dn nn nb j) := by
    funext j
    unfold va_cpy cpm
    by_cases hj : dn ≤ j ∧ j < dn + nn
    · rw [if_pos hj, if_pos ⟨rfl, by omega, by omega⟩]
      show Int32.ofInt (M na ((sn + (j - dn) : Nat) : Int)) = _
      have e5 : ((sn + (j - dn) : Nat) : Int) = (sn : Int) + ((j : Int) - (dn : Int)) := by omega
      rw [e5]
    · rw [if_neg hj, if_neg (fun z => hj ⟨by omega, by omega⟩)]
  rw [e2] at X' step
  have hl : B + nb < H.size := (Array.getElem?_eq_some_iff.mp hc1).1
  generalize hcell : vp_cell (cA 0) ((sk sh nb).2, .inl (fun j : Nat => Int32.ofInt (cpm M na sn nb dn nn nb j))) = cell9 at X' step
  have hheap : ((T.setVm vm').setCell (B + nb) cell9).heap = H.setIfInBounds (B + nb) cell9 := by rw [← hT]; rfl
  have oq : ∀ q : Nat, q ≠ B + nb → (H.setIfInBounds (B + nb) cell9)[q]? = H[q]? := fun q hq => by simp [Array.getElem?_setIfInBounds, Ne.symm hq]
  have cne : ∀ q : Nat, q ≠ nb → cpm M na sn nb dn nn q = M q := fun q hq => by
    funext j
    unfold cpm
    rw [if_neg (fun z => hq (by have := z.1; omega))]
  have hrn : RN sh R (cpm M na sn nb dn nn) := by
    intro a9 j9 ha9
    have g0 := hH.2.2.2 a9 j9 ha9
    by_cases ea : a9 = nb
    · subst ea
      rw [kb] at g0 ⊢
      show rngv 0 (cpm M na sn a9 dn nn a9 j9)
      unfold cpm
      split
      · have g1 := hH.2.2.2 na (sn + (j9 - dn)) hna
        rw [ka] at g1
        have e5 : ((sn : Int) + ((j9 : Int) - (dn : Int))) = ((sn + (j9 - dn) : Nat) : Int) := by omega
        rw [e5]
        exact g1
      · exact g0
    · rw [cne a9 ea]
      exact g0
  have hHR : ∀ L : List Loc, (∀ q ∈ L, q.base = B + nb) → HR B cA D s (H.setIfInBounds (B + nb) cell9) (locs ++ L) sh R (cpm M na sn nb dn nn) := by
    intro L hLL
    refine ⟨?_, ⟨by simp; exact hH.2.1.1, fun q g1 g2 => by
      rw [oq q (fun e => g2 (by rw [e]; exact Nat.le_add_right _ _))]
      exact hH.2.1.2.1 q g1 g2, fun q hq => by
      rcases List.mem_append.mp hq with h | h
      · exact hH.2.1.2.2 q h
      · rw [hLL q h]
        exact Nat.le_add_right B nb⟩, by simp; exact hH.2.2.1, hrn⟩
    have := hP.set wo_D hgb (e := .inl (cA 0, (sk sh nb).2, .inl (fun j : Nat => Int32.ofInt (cpm M na sn nb dn nn nb j)))) (H1 := H.setIfInBounds (B + nb) cell9) (show (H.setIfInBounds (B + nb) cell9)[B + nb]? = some (vp_cell _ _) by rw [hcell]; simp [Array.getElem?_setIfInBounds, hl]) oq
    rwa [wo_set (R' := R) (M' := cpm M na sn nb dn nn) hnb (by rw [kb]; rfl) (fun _ _ => rfl) cne] at this
  obtain ⟨t9, a1, b9⟩ := hk _ _ _ _ _ _ _ h _ _ cells slots lsA (hHR _ (fun q hq => by obtain ⟨z, -, hz⟩ := List.mem_map.mp hq; rw [← hz])) hL hS.tl.tl.tl.tl.tl h1 h2 _ hheap X'
  exact ⟨t9, step t9 a1, b9⟩
end
