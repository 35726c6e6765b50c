/-! instructions that make cells; constants; switches; the script; calls -/
theorem HR.app {B : Nat} {cA : Nat → ClassId} {D : va_G} {s : State} {H H1 : Heap} {locs : List Loc} {sh ext : SHP} {R M R' M' : MEM} (hH : HR B cA D s H locs sh R M) (he : ∀ i : Nat, i < ext.length → va_at D vwCl (B + (sh.length + i), el B cA (ext.getD i (999, 0)).1 (ext.getD i (999, 0)).2 (R' ((sh.length + i : Nat) : Int)) (M' ((sh.length + i : Nat) : Int))) H1) (z : H1.size = H.size + ext.length) (o1 : ∀ q : Nat, q < H.size → H1[q]? = H[q]?)
    (hR : ∀ q : Nat, q < sh.length → R' q = R q) (hM : ∀ q : Nat, q < sh.length → M' q = M q) (hrn : ∀ i j : Nat, i < ext.length → rngv (ftag (ext.getD i (999, 0)).1 j) (match ftag (ext.getD i (999, 0)).1 j with | 2 => R' ((sh.length + i : Nat) : Int) j | _ => M' ((sh.length + i : Nat) : Int) j)) : HR B cA D s H1 locs (sh ++ ext) R' M' := by
  obtain ⟨h1, h2, h3, h4⟩ := hH
  have hsk : ∀ i : Nat, sk (sh ++ ext) (sh.length + i) = ext.getD i (999, 0) := fun i => by
    unfold sk
    rw [List.getD_eq_getElem?_getD, List.getD_eq_getElem?_getD, List.getElem?_append_right (by omega), Nat.add_sub_cancel_left]
  refine ⟨fun k q hk => ?_, ⟨Nat.le_trans h2.1 (by omega), fun x g1 g2 => (o1 x (Nat.lt_of_lt_of_le g1 h2.1)).trans (h2.2.1 x g1 g2), h2.2.2⟩, by rw [z, h3, List.length_append]; omega, fun a j ha => ?_⟩
  · obtain ⟨hl, rfl⟩ := wo_inv hk
    by_cases h : k < sh.length
    · have := h1 k _ (wo_get h)
      rw [sk_app_lt h, hR k h, hM k h]
      exact this.kept (o1 _ this.lt)
    · obtain ⟨i, rfl⟩ : ∃ i, k = sh.length + i := ⟨k - sh.length, by omega⟩
      rw [hsk i]
      exact he i (by rw [List.length_append] at hl; omega)
  · by_cases h : a < sh.length
    · have := h4 a j h
      rw [sk_app_lt h, hR a h, hM a h]
      exact this
    · obtain ⟨i, rfl⟩ : ∃ i, a = sh.length + i := ⟨a - sh.length, by omega⟩
      rw [hsk i]
      exact hrn i j (by rw [List.length_append] at ha; omega)
theorem zr_at {M : MEM} {a v : Int} : zr M a v a = fun _ => v := by
  funext j
  unfold zr
  rw [if_pos rfl]
theorem zr_ne {M : MEM} {a v q : Int} (h : q ≠ a) : zr M a v q = M q := by
  funext j
  unfold zr
  rw [if_neg h]
theorem rng00 : rngv 0 0 := ⟨by omega, by omega⟩
theorem rng10 : rngv 1 0 := ⟨by omega, by omega⟩
theorem HR.push {B : Nat} {cA : Nat → ClassId} {D : va_G} {s : State} {H H1 : Heap} {locs : List Loc} {sh : SHP} {R M : MEM} {k n : Nat} (hH : HR B cA D s H locs sh R M) (he : va_at D vwCl (B + sh.length, el B cA k n (fun _ => -1) (fun _ => 0)) H1) (z : H1.size = H.size + 1) (o1 : ∀ q : Nat, q < H.size → H1[q]? = H[q]?) : HR B cA D s H1 locs (newk k n sh R M).1 (newk k n sh R M).2.1 (newk k n sh R M).2.2 := by
  refine hH.app (fun i hi => ?_) z o1 (fun q hq => zr_ne (by omega)) (fun q hq => zr_ne (by omega)) (fun i j hi => ?_)
  · have e0 : i = 0 := by simp at hi; omega
    subst e0
    show va_at D vwCl (B + (sh.length + 0), el B cA k n (zr R (sh.length : Int) (-1) ((sh.length + 0 : Nat) : Int)) (zr M (sh.length : Int) 0 ((sh.length + 0 : Nat) : Int))) H1
    rw [Nat.add_zero, zr_at, zr_at]
    exact he
  · have e0 : i = 0 := by simp at hi; omega
    subst e0
    show rngv (ftag k j) (match ftag k j with | 2 => zr R (sh.length : Int) (-1) ((sh.length + 0 : Nat) : Int) j | _ => zr M (sh.length : Int) 0 ((sh.length + 0 : Nat) : Int) j)
    rw [Nat.add_zero, zr_at, zr_at]
    split
    · rename_i h2
      rw [h2]
      exact Int.le_refl _
    · generalize ftag k j = t
      match t with
      | 0 => exact rng00
      | 1 => exact rng10
      | 2 => exact (by decide : (-1 : Int) ≤ 0)
      | t + 3 => trivial
theorem AO_moved {A A' : Array Value} {ty : FieldType} {u U : State} (hvm : u.vm.Alike U.vm) (h : (Cond.arrayOver (.array ty)).before A u = true) : (Cond.arrayOver (.array ty)).before A' U = true := by
  unfold Cond.before Cond.holds at h ⊢
  simp only [Cond.value, beq_iff_eq] at h ⊢
  rw [hvm.findClass]
  cases hc : u.vm.findClass (FieldType.array ty).toString with
  | none => simp [hc] at h
  | some comp =>
    simp only [hc, Option.bind_some, Option.bind_eq_some_iff, Option.map_eq_some_iff] at h ⊢
    obtain ⟨c, hi, k, hk, hb⟩ := h
    obtain ⟨k', hk', he⟩ := hvm.2.2 _ _ hk
    have e1 : (U.vm.classes.findIdx? fun (x : Class) => match x.kind with | .array component _ => component == comp | _ => false) = some c := by
      refine (va_idx_bare U.vm comp).symm.trans ?_
      have e2 : U.vm.bare = u.vm.bare := by first | exact hvm.bare_eq | exact hvm.bare_eq.symm
      rw [e2]
      exact (va_idx_bare u.vm comp).trans hi
    refine ⟨c, e1, k', hk', ?_⟩
    rw [he]
    simp only [hvm.findClass]
    exact hb
theorem cb_le (n : Nat) (h : n ≤ 100000) (t : FieldType) (ht : componentBytes t ≤ 8) : n * componentBytes t ≤ 536870912 := Nat.le_trans (Nat.mul_le_mul h ht) (by decide)
theorem new2_R0 {N n : Nat} {sh : SHP} {R M : MEM} (i : Int) : (new2 N n sh R M).2.1 (sh.length : Int) i = if 0 ≤ i ∧ i < (N : Int) then (sh.length : Int) + 1 + i else -1 := by
  unfold new2
  exact if_pos rfl
theorem new2_Rk {N n : Nat} {sh : SHP} {R M : MEM} {q : Int} (h : (sh.length : Int) < q) : (new2 N n sh R M).2.1 q = fun _ => -1 := by
  funext i
  unfold new2
  show (if q = (sh.length : Int) then _ else _) = _
  rw [if_neg (by omega), if_pos h]
theorem new2_Ro {N n : Nat} {sh : SHP} {R M : MEM} {q : Int} (h : q < (sh.length : Int)) : (new2 N n sh R M).2.1 q = R q := by
  funext i
  unfold new2
  show (if q = (sh.length : Int) then _ else _) = _
  rw [if_neg (by omega), if_neg (by omega)]
theorem new2_M {N n : Nat} {sh : SHP} {R M : MEM} {q : Int} (h : (sh.length : Int) ≤ q) : (new2 N n sh R M).2.2 q = fun _ => 0 := by
  funext i
  unfold new2
  exact if_pos h
theorem new2_Mo {N n : Nat} {sh : SHP} {R M : MEM} {q : Int} (h : q < (sh.length : Int)) : (new2 N n sh R M).2.2 q = M q := by
  funext i
  unfold new2
  exact if_neg (by omega)
def lens : List Nat := [81, 11]
def byts : List (List Int32) := [(strB 1).map Int32.ofInt, (strB 2).map Int32.ofInt]
def tx1 : String := "start join split odd dusk pond fox bread wind way claim draw to in at or and not "
def tx2 : String := ";()<>=+-*/%"
/-- what is outside: the two texts, the JDK's statics, the classes of the arrays of references -/
def EX (B : Nat) (ex adV : Nat → Nat) (U : State) (H : Heap) : Prop := vk_S 2 lens byts (fun i => ex (i + 1)) adV (Bq B) U H ∧ vk_R "GeeseSums$Tape" 26 tx1 (ex 1) U ∧ vk_R "GeeseSums$Tape" 75 tx2 (ex 2) U ∧ va_Z "java/lang/String" "COMPACT_STRINGS" "Z" (.int 1) (Bq B) U H ∧ va_Zq "jdk/internal/util/Preconditions" "SIOOBE_FORMATTER" "Ljava/util/function/BiFunction;" (Bq B) U H ∧ va_AO "GeeseSums$Sky" U ∧ (Cond.arrayOver (.array .int)).before #[] U = true
theorem EX.warm {B : Nat} {ex adV : Nat → Nat} {s U : State} {H : Heap} (hW : s.WarmedH U.vm) (h : EX B ex adV s H) : EX B ex adV U H := ⟨h.1.moved hW.alike, h.2.1.warm hW, h.2.2.1.warm hW, h.2.2.2.1.moved hW.alike, h.2.2.2.2.1.moved hW.alike, h.2.2.2.2.2.1.moved hW.alike, AO_moved hW.alike h.2.2.2.2.2.2⟩
theorem EX.same {B : Nat} {ex adV : Nat → Nat} {u U : State} {H : Heap} (hv : U.vm = u.vm) (h : EX B ex adV u H) : EX B ex adV U H :=
  have hA : u.vm.Alike U.vm := by rw [hv]; exact Vm.Alike.refl _
  ⟨h.1.moved hA, vk_R.same hv h.2.1, vk_R.same hv h.2.2.1, h.2.2.2.1.moved hA, h.2.2.2.2.1.moved hA, h.2.2.2.2.2.1.moved hA, AO_moved hA h.2.2.2.2.2.2⟩
theorem EX.kept {B : Nat} {ex adV : Nat → Nat} {U : State} {H H1 : Heap} (h : EX B ex adV U H) (hq : ∀ a : Nat, a < H.size → ¬ Bq B a → H1[a]? = H[a]?) : EX B ex adV U H1 := ⟨h.1.kept hq, h.2.1, h.2.2.1, h.2.2.2.1.kept hq, h.2.2.2.2.1.kept hq, h.2.2.2.2.2.1, h.2.2.2.2.2.2⟩
def XS (B : Nat) (ex : Nat → Nat) (X : Int × (Int → Int)) (s : State) : Prop := X.1 < 0 ∨ ∃ (L : Nat) (xs : Nat → Int32), va_X (ex 0) L xs s s.heap ∧ X.1 = (L : Int) ∧ L < 2147483648 ∧ (∀ j : Nat, X.2 j = (xs j).toInt) ∧ ex 0 < s.heap.size ∧ ¬ Bq B (ex 0)
section
variable {p : Program} {l : Launch} {e : Env} {Rm : Room} {s : State} {mm : MethodId} {args : Array Value} {below : List Frame} {meth : Method} {c : Code} {Qw : State → Prop}
variable {B : Nat} {cA : Nat → ClassId} {ex adV : Nat → Nat} {D : va_G} {nL mc ms : Nat} {cc : ByteArray} {pc : Nat} {k : NXT} {ls st : List AV} {sh : SHP} {R M : MEM} {cb sb : Nat}
theorem sd_new (hx : p.tables.exec = Jvm.exec) (hb : c.code = cc) (hK : va_K D vwCl (TYS cA) s) (hts : ∀ w ∈ TBg, w.before args s = true) {own : String} (hown : s.vm.findClass own = some mm.cls) (hRc : mc ≤ Rm.cells) (hRs : ms ≤ Rm.slots) {C : String} {T : u_T} {N ci index : Nat} (hci : ci < 100) (hcl : vwCl[ci]? = some (C, T, N)) (hin : ∀ w ∈ u_ws C T N, w ∈ TBg) (hnF : nF ci = N) (ty0 : Nat → FieldType) (hty : ∀ k, k < N → parseFieldDescriptor (T k).2.2.1 = some (ty0 k)) (hdf : ∀ j, j < N → defaultValue (ty0 j) = fv B (ftag ci j) (-1) 0) (w1 : (Cond.classLink own index C).before args s = true) (w2 : (Cond.instantiable C N).before args s = true) (w3 : (Cond.initialized C).before args s = true) (hdg : decode cc pc = .ok (.new index, 3)) (hk : ∀ ls st sh R M cb sb, k ls st sh R M cb sb → WG p l e Rm s mm args below meth c Qw B cA ex D nL mc ms (pc + 3) ls st sh R M cb sb) (h0 : bud (Nat.ble 1 cb && Nat.ble N sb) (k ls (vr (sh.length : Int) :: st) (newk ci 0 sh R M).1 (newk ci 0 sh R M).2.1 (newk ci 0 sh R M).2.2 (cb - 1) (sb - N))) : WG p l e Rm s mm args below meth c Qw B cA ex D nL mc ms pc ls st sh R M cb sb := by
  obtain ⟨hb1, h⟩ := bud_inv h0
  rw [Bool.and_eq_true] at hb1
  have b1 := Nat.le_of_ble_eq_true hb1.1
  have b2 := Nat.le_of_ble_eq_true hb1.2
  intro H locs cells slots lsA hH hL hS h1 h2
  have hKn := hK.1 ci _ hcl
  refine W.newcK hx hb hown w1 w2 w3 rfl hdg (by omega) (by omega) hKn.2.1 hH.2.2.1 fun H1 kC hkC e1 z1 o1 => ?_
  have hh := hk _ _ _ _ _ _ _ h H1 locs (cells + 1) (slots + N) lsA (hH.push (k := ci) (n := 0) ?_ (by rw [z1, hH.2.2.1]) (fun q hq => o1 q (by rw [← hH.2.2.1]; exact hq))) hL (SQ.cons (show rngv 2 (sh.length : Int) from by show -1 ≤ _; omega) hS) (by omega) (by omega)
  · rw [map_cv_cons, show cv B ex (vr (sh.length : Int)) = rv B (sh.length : Int) from rfl] at hh
    unfold rv at hh
    rw [if_neg (by omega), Int.toNat_natCast] at hh
    exact hh
  · rw [el_obj hci]
    refine ⟨_, hcl, (u_born ty0 hts hin hKn hkC e1 hty).to (fun j hj => ?_)⟩
    rw [hdf j hj]
    unfold vp_V
    rw [List.getD_eq_getElem?_getD, fvs_get (by rw [hnF]; exact hj)]
    rfl
theorem sd_newarray100 (hx : p.tables.exec = Jvm.exec) (hb : c.code = cc) (hK : va_K D vwCl (TYS cA) s) (w1 : (Cond.arrayClass .int).before args s = true) (hRc : mc ≤ Rm.cells) (hRs : ms ≤ Rm.slots) (hdg : decode cc pc = .ok (.newarray .int, 2)) (hk : ∀ ls st sh R M cb sb, k ls st sh R M cb sb → WG p l e Rm s mm args below meth c Qw B cA ex D nL mc ms (pc + 2) ls st sh R M cb sb) (h0 : pI st fun n t => 0 ≤ n ∧ bud (Nat.ble n.toNat 100000 && Nat.ble 1 cb && Nat.ble n.toNat sb) (k ls (vr (sh.length : Int) :: t) (newk 100 n.toNat sh R M).1 (newk 100 n.toNat sh R M).2.1 (newk 100 n.toNat sh R M).2.2 (cb - 1) (sb - n.toNat))) : WG p l e Rm s mm args below meth c Qw B cA ex D nL mc ms pc ls st sh R M cb sb := by
  obtain ⟨n, t, rfl, hn0, h⟩ := pI_inv h0
  obtain ⟨hb1, h⟩ := bud_inv h
  rw [Bool.and_eq_true, Bool.and_eq_true] at hb1
  have b0 := Nat.le_of_ble_eq_true hb1.1.1
  have b1 := Nat.le_of_ble_eq_true hb1.1.2
  have b2 := Nat.le_of_ble_eq_true hb1.2
  intro H locs cells slots lsA hH hL hS h1 h2
  have hnr : rngv 0 n := hS.hd
  refine va_newaK (atype := .int) hx hb w1 rfl hdg rfl (lt0_32 hnr hn0) (clamp32 hnr hn0) (cb_le _ b0 .int (by decide)) (by omega) (by omega) hH.2.2.1 fun H1 cA' e1 z1 o1 hAr hNm => ?_
  have hcA : cA' = cA 0 := Option.some.inj (hNm.symm.trans (hK.2 0 _ rfl).2)
  subst hcA
  have hh := hk _ _ _ _ _ _ _ h H1 locs (cells + 1) (slots + n.toNat) lsA (hH.push (k := 100) (n := n.toNat) ?_ (by rw [z1, hH.2.2.1]) (fun q hq => o1 q (by rw [← hH.2.2.1]; exact hq))) hL (SQ.cons (show rngv 2 (sh.length : Int) from by show -1 ≤ _; omega) hS.tl) (by omega) (by omega)
  · rw [map_cv_cons, show cv B ex (vr (sh.length : Int)) = rv B (sh.length : Int) from rfl] at hh
    unfold rv at hh
    rw [if_neg (by omega), Int.toNat_natCast] at hh
    exact hh
  · show H1[B + sh.length]? = some (vp_cell _ _)
    rw [e1, vp_cell_i]
    rfl
theorem sd_newarray101 (hx : p.tables.exec = Jvm.exec) (hb : c.code = cc) (hK : va_K D vwCl (TYS cA) s) (w1 : (Cond.arrayClass .long).before args s = true) (hRc : mc ≤ Rm.cells) (hRs : ms ≤ Rm.slots) (hdg : decode cc pc = .ok (.newarray .long, 2)) (hk : ∀ ls st sh R M cb sb, k ls st sh R M cb sb → WG p l e Rm s mm args below meth c Qw B cA ex D nL mc ms (pc + 2) ls st sh R M cb sb) (h0 : pI st fun n t => 0 ≤ n ∧ bud (Nat.ble n.toNat 100000 && Nat.ble 1 cb && Nat.ble n.toNat sb) (k ls (vr (sh.length : Int) :: t) (newk 101 n.toNat sh R M).1 (newk 101 n.toNat sh R M).2.1 (newk 101 n.toNat sh R M).2.2 (cb - 1) (sb - n.toNat))) : WG p l e Rm s mm args below meth c Qw B cA ex D nL mc ms pc ls st sh R M cb sb := by
  obtain ⟨n, t, rfl, hn0, h⟩ := pI_inv h0
  obtain ⟨hb1, h⟩ := bud_inv h
  rw [Bool.and_eq_true, Bool.and_eq_true] at hb1
  have b0 := Nat.le_of_ble_eq_true hb1.1.1
  have b1 := Nat.le_of_ble_eq_true hb1.1.2
  have b2 := Nat.le_of_ble_eq_true hb1.2
  intro H locs cells slots lsA hH hL hS h1 h2
  have hnr : rngv 0 n := hS.hd
  refine va_newaK (atype := .long) hx hb w1 rfl hdg rfl (lt0_32 hnr hn0) (clamp32 hnr hn0) (cb_le _ b0 .long (by decide)) (by omega) (by omega) hH.2.2.1 fun H1 cA' e1 z1 o1 hAr hNm => ?_
  have hcA : cA' = cA 1 := Option.some.inj (hNm.symm.trans (hK.2 1 _ rfl).2)
  subst hcA
  have hh := hk _ _ _ _ _ _ _ h H1 locs (cells + 1) (slots + n.toNat) lsA (hH.push (k := 101) (n := n.toNat) ?_ (by rw [z1, hH.2.2.1]) (fun q hq => o1 q (by rw [← hH.2.2.1]; exact hq))) hL (SQ.cons (show rngv 2 (sh.length : Int) from by show -1 ≤ _; omega) hS.tl) (by omega) (by omega)
  · rw [map_cv_cons, show cv B ex (vr (sh.length : Int)) = rv B (sh.length : Int) from rfl] at hh
    unfold rv at hh
    rw [if_neg (by omega), Int.toNat_natCast] at hh
    exact hh
  · show H1[B + sh.length]? = some (vp_cell _ _)
    rw [e1, vp_cell_l]
    rfl
theorem sd_newarray102 (hx : p.tables.exec = Jvm.exec) (hb : c.code = cc) (hK : va_K D vwCl (TYS cA) s) (w1 : (Cond.arrayClass .byte).before args s = true) (hRc : mc ≤ Rm.cells) (hRs : ms ≤ Rm.slots) (hdg : decode cc pc = .ok (.newarray .byte, 2)) (hk : ∀ ls st sh R M cb sb, k ls st sh R M cb sb → WG p l e Rm s mm args below meth c Qw B cA ex D nL mc ms (pc + 2) ls st sh R M cb sb) (h0 : pI st fun n t => 0 ≤ n ∧ bud (Nat.ble n.toNat 100000 && Nat.ble 1 cb && Nat.ble n.toNat sb) (k ls (vr (sh.length : Int) :: t) (newk 102 n.toNat sh R M).1 (newk 102 n.toNat sh R M).2.1 (newk 102 n.toNat sh R M).2.2 (cb - 1) (sb - n.toNat))) : WG p l e Rm s mm args below meth c Qw B cA ex D nL mc ms pc ls st sh R M cb sb := by
  obtain ⟨n, t, rfl, hn0, h⟩ := pI_inv h0
  obtain ⟨hb1, h⟩ := bud_inv h
  rw [Bool.and_eq_true, Bool.and_eq_true] at hb1
  have b0 := Nat.le_of_ble_eq_true hb1.1.1
  have b1 := Nat.le_of_ble_eq_true hb1.1.2
  have b2 := Nat.le_of_ble_eq_true hb1.2
  intro H locs cells slots lsA hH hL hS h1 h2
  have hnr : rngv 0 n := hS.hd
  refine va_newaK (atype := .byte) hx hb w1 rfl hdg rfl (lt0_32 hnr hn0) (clamp32 hnr hn0) (cb_le _ b0 .byte (by decide)) (by omega) (by omega) hH.2.2.1 fun H1 cA' e1 z1 o1 hAr hNm => ?_
  have hcA : cA' = cA 2 := Option.some.inj (hNm.symm.trans (hK.2 2 _ rfl).2)
  subst hcA
  have hh := hk _ _ _ _ _ _ _ h H1 locs (cells + 1) (slots + n.toNat) lsA (hH.push (k := 102) (n := n.toNat) ?_ (by rw [z1, hH.2.2.1]) (fun q hq => o1 q (by rw [← hH.2.2.1]; exact hq))) hL (SQ.cons (show rngv 2 (sh.length : Int) from by show -1 ≤ _; omega) hS.tl) (by omega) (by omega)
  · rw [map_cv_cons, show cv B ex (vr (sh.length : Int)) = rv B (sh.length : Int) from rfl] at hh
    unfold rv at hh
    rw [if_neg (by omega), Int.toNat_natCast] at hh
    exact hh
  · show H1[B + sh.length]? = some (vp_cell _ _)
    rw [e1, vp_cell_i]
    rfl
theorem sd_newarray103 (hx : p.tables.exec = Jvm.exec) (hb : c.code = cc) (hK : va_K D vwCl (TYS cA) s) (w1 : (Cond.arrayClass .boolean).before args s = true) (hRc : mc ≤ Rm.cells) (hRs : ms ≤ Rm.slots) (hdg : decode cc pc = .ok (.newarray .boolean, 2)) (hk : ∀ ls st sh R M cb sb, k ls st sh R M cb sb → WG p l e Rm s mm args below meth c Qw B cA ex D nL mc ms (pc + 2) ls st sh R M cb sb) (h0 : pI st fun n t => 0 ≤ n ∧ bud (Nat.ble n.toNat 100000 && Nat.ble 1 cb && Nat.ble n.toNat sb) (k ls (vr (sh.length : Int) :: t) (newk 103 n.toNat sh R M).1 (newk 103 n.toNat sh R M).2.1 (newk 103 n.toNat sh R M).2.2 (cb - 1) (sb - n.toNat))) : WG p l e Rm s mm args below meth c Qw B cA ex D nL mc ms pc ls st sh R M cb sb := by
  obtain ⟨n, t, rfl, hn0, h⟩ := pI_inv h0
  obtain ⟨hb1, h⟩ := bud_inv h
  rw [Bool.and_eq_true, Bool.and_eq_true] at hb1
  have b0 := Nat.le_of_ble_eq_true hb1.1.1
  have b1 := Nat.le_of_ble_eq_true hb1.1.2
  have b2 := Nat.le_of_ble_eq_true hb1.2
  intro H locs cells slots lsA hH hL hS h1 h2
  have hnr : rngv 0 n := hS.hd
  refine va_newaK (atype := .boolean) hx hb w1 rfl hdg rfl (lt0_32 hnr hn0) (clamp32 hnr hn0) (cb_le _ b0 .boolean (by decide)) (by omega) (by omega) hH.2.2.1 fun H1 cA' e1 z1 o1 hAr hNm => ?_
  have hcA : cA' = cA 3 := Option.some.inj (hNm.symm.trans (hK.2 3 _ rfl).2)
  subst hcA
  have hh := hk _ _ _ _ _ _ _ h H1 locs (cells + 1) (slots + n.toNat) lsA (hH.push (k := 103) (n := n.toNat) ?_ (by rw [z1, hH.2.2.1]) (fun q hq => o1 q (by rw [← hH.2.2.1]; exact hq))) hL (SQ.cons (show rngv 2 (sh.length : Int) from by show -1 ≤ _; omega) hS.tl) (by omega) (by omega)
  · rw [map_cv_cons, show cv B ex (vr (sh.length : Int)) = rv B (sh.length : Int) from rfl] at hh
    unfold rv at hh
    rw [if_neg (by omega), Int.toNat_natCast] at hh
    exact hh
  · show H1[B + sh.length]? = some (vp_cell _ _)
    rw [e1, vp_cell_i]
    rfl
theorem sd_anewarray (hx : p.tables.exec = Jvm.exec) (hb : c.code = cc) (hK : va_K D vwCl (TYS cA) s) (hts : ∀ w ∈ TBg, w.before args s = true) {own : String} (hown : s.vm.findClass own = some mm.cls) (hRc : mc ≤ Rm.cells) (hRs : ms ≤ Rm.slots) (hAO : va_AO "GeeseSums$Sky" s) {index : Nat} (w1 : (Cond.classLink own index "GeeseSums$Sky").before args s = true) (hdg : decode cc pc = .ok (.anewarray index, 3)) (hk : ∀ ls st sh R M cb sb, k ls st sh R M cb sb → WG p l e Rm s mm args below meth c Qw B cA ex D nL mc ms (pc + 3) ls st sh R M cb sb) (h0 : pI st fun n t => 0 ≤ n ∧ bud (Nat.ble n.toNat 100000 && Nat.ble 1 cb && Nat.ble n.toNat sb) (k ls (vr (sh.length : Int) :: t) (newk 104 n.toNat sh R M).1 (newk 104 n.toNat sh R M).2.1 (newk 104 n.toNat sh R M).2.2 (cb - 1) (sb - n.toNat))) : WG p l e Rm s mm args below meth c Qw B cA ex D nL mc ms pc ls st sh R M cb sb := by
  obtain ⟨n, t, rfl, hn0, h⟩ := pI_inv h0
  obtain ⟨hb1, h⟩ := bud_inv h
  rw [Bool.and_eq_true, Bool.and_eq_true] at hb1
  have b0 := Nat.le_of_ble_eq_true hb1.1.1
  have b1 := Nat.le_of_ble_eq_true hb1.1.2
  have b2 := Nat.le_of_ble_eq_true hb1.2
  intro H locs cells slots lsA hH hL hS h1 h2
  have hnr : rngv 0 n := hS.hd
  have hcl := clamp32 hnr hn0
  refine W.anew hx hb hown w1 (va_AO.use hAO) rfl hdg rfl (lt0_32 hnr hn0) (by rw [hcl]; omega) (by omega) (by rw [hcl]; omega) fun cA' kA comp f1 f2 f3 f4 => ?_
  rw [hcl, hH.2.2.1]
  obtain ⟨kA', comp', k1, k2, k3, k4⟩ := (hK.2 4 _ rfl).2
  have hcA : cA' = cA 4 := Option.some.inj (f1.symm.trans k4)
  subst hcA
  generalize hH1 : H.push ({ cls := cA 4, slots := Array.replicate n.toNat .null, vm := .none } : Cell) = H1
  have z1 : H1.size = H.size + 1 := by rw [← hH1, Array.size_push]
  have e1 : H1[H.size]? = some (arrV (cA 4) n.toNat (fun _ => .null)) := by rw [← hH1, Array.getElem?_push_size, ← arrV_new]
  have o1 : ∀ q : Nat, q < H.size → H1[q]? = H[q]? := fun q hq => by rw [← hH1, Array.getElem?_push, if_neg (Nat.ne_of_lt hq)]
  have hh := hk _ _ _ _ _ _ _ h H1 locs (cells + 1) (slots + n.toNat) lsA (hH.push (k := 104) (n := n.toNat) ?_ z1 o1) hL (SQ.cons (show rngv 2 (sh.length : Int) from by show -1 ≤ _; omega) hS.tl) (by omega) (by omega)
  · rw [map_cv_cons, show cv B ex (vr (sh.length : Int)) = rv B (sh.length : Int) from rfl] at hh
    unfold rv at hh
    rw [if_neg (by omega), Int.toNat_natCast] at hh
    exact hh
  · show H1[B + sh.length]? = some (vp_cell _ _)
    rw [← hH.2.2.1, e1, vp_cell_q]
    rfl
theorem outerV (c : ClassId) (N h0 : Nat) : ∀ i : Nat, Jvm.Free.Multi.outerC c N h0 i = arrV c N (fun j => va_rf (if j < i then some (h0 + 1 + j) else none))
  | 0 => by
    show ({ cls := c, slots := Array.replicate N .null, vm := .none } : Cell) = _
    rw [arrV_new]
    refine congrArg (arrV c N) (funext fun j => ?_)
    simp [va_rf]
  | i + 1 => by
    show (Jvm.Free.Multi.outerC c N h0 i).setSlot i (.ref (h0 + 1 + i)) = _
    rw [outerV c N h0 i, arrV_store]
    refine congrArg (arrV c N) (funext fun j => ?_)
    by_cases e : j = i
    · subst e
      simp [updV, va_rf]
    · by_cases h : j < i
      · simp [updV, e, h, Nat.lt_succ_of_lt h]
      · simp [updV, e, h, show ¬ j < i + 1 by omega]
theorem sd_multi (hx : p.tables.exec = Jvm.exec) (hb : c.code = cc) (hK : va_K D vwCl (TYS cA) s) (hts : ∀ w ∈ TBg, w.before args s = true) {own : String} (hown : s.vm.findClass own = some mm.cls) (hRc : mc ≤ Rm.cells) (hRs : ms ≤ Rm.slots) (hAO : (Cond.arrayOver (.array .int)).before #[] s = true) {index : Nat} (w1 : (Cond.classLink own index "[[I").before args s = true) (w2 : (Cond.arrayClass .int).before args s = true) (hdg : decode cc pc = .ok (.multianewarray index 2, 4)) (hk : ∀ ls st sh R M cb sb, k ls st sh R M cb sb → WG p l e Rm s mm args below meth c Qw B cA ex D nL mc ms (pc + 4) ls st sh R M cb sb) (h0 : pI st fun n t => pI t fun N t => 0 ≤ n ∧ 0 ≤ N ∧ bud (Nat.ble n.toNat 100000 && Nat.ble N.toNat 100000 && Nat.ble (1 + N.toNat) cb && Nat.ble (N.toNat + N.toNat * n.toNat) sb) (k ls (vr (sh.length : Int) :: t) (new2 N.toNat n.toNat sh R M).1 (new2 N.toNat n.toNat sh R M).2.1 (new2 N.toNat n.toNat sh R M).2.2 (cb - (1 + N.toNat)) (sb - (N.toNat + N.toNat * n.toNat)))) : WG p l e Rm s mm args below meth c Qw B cA ex D nL mc ms pc ls st sh R M cb sb := by
  obtain ⟨n, t, rfl, h⟩ := pI_inv h0
  obtain ⟨N, t, rfl, hn0, hN0, h⟩ := pI_inv h
  obtain ⟨hb1, h⟩ := bud_inv h
  rw [Bool.and_eq_true, Bool.and_eq_true, Bool.and_eq_true] at hb1
  have b0 := Nat.le_of_ble_eq_true hb1.1.1.1
  have b1 := Nat.le_of_ble_eq_true hb1.1.1.2
  have b2 := Nat.le_of_ble_eq_true hb1.1.2
  have b3 := Nat.le_of_ble_eq_true hb1.2
  intro H locs cells slots lsA hH hL hS h1 h2
  have hnr : rngv 0 n := hS.hd
  have hNr : rngv 0 N := hS.tl.hd
  have hcn := clamp32 hnr hn0
  have hcN := clamp32 hNr hN0
  intro T hT Xs
  obtain ⟨vm₁, cA', comp, -, fA, fC, hO, -, X', step⟩ := Xs.multianewarray2F hx (ty := .int) hown (show (Cond.classLink own index ("[" ++ (FieldType.array .int).toString)).before args s = true from w1) (AO_moved (Vm.Alike.refl _) hAO) w2 (g := F0 mm pc lsA (((0, n) :: (0, N) :: t).map (cv B ex))) rfl (by rw [hb]; exact hdg) rfl (lt0_32 hNr hN0) (lt0_32 hnr hn0)
    (by rw [hcN]; omega) (by rw [hcn]; show _ * 4 ≤ _; omega) (by rw [hcn]; omega) rfl rfl (by rw [hcN]; omega) (by rw [hcN, hcn]; omega)
  rw [hcN, hcn] at X' step
  have hcA : cA' = cA 5 := Option.some.inj (fA.symm.trans (hK.2 5 _ rfl).2)
  have hcomp : comp = cA 0 := Option.some.inj (fC.symm.trans (hK.2 0 _ rfl).2)
  subst hcA
  subst hcomp
  generalize hF : Jvm.Free.Multi.fill (T.setVm vm₁) (cA 5) (cA 0) N.toNat n.toNat (defaultValue .int) N.toNat = F at X' step
  have hTh : (T.setVm vm₁).heap = H := hT
  obtain ⟨f1, f2, -, -⟩ := Jvm.Free.Multi.fill_facts (T.setVm vm₁) (cA 5) (cA 0) N.toNat n.toNat (defaultValue .int) N.toNat
  rw [hF, hTh] at f1 f2
  have hold : ∀ x : Nat, x < H.size → F.heap[x]? = H[x]? := fun x hx => by
    have := Jvm.Free.Multi.fill_old (T.setVm vm₁) (cA 5) (cA 0) N.toNat n.toNat (defaultValue .int) (a := x) (by rw [hTh]; exact hx) N.toNat
    rw [hF, hTh] at this
    exact this
  have hrow : ∀ j : Nat, j < N.toNat → F.heap[H.size + 1 + j]? = some (Jvm.Free.Multi.innerC (cA 0) n.toNat (defaultValue .int)) := fun j hj => by
    have := Jvm.Free.Multi.fill_inner (T.setVm vm₁) (cA 5) (cA 0) N.toNat n.toNat (defaultValue .int) N.toNat j hj
    rw [hF, hTh] at this
    exact this
  have hHR : HR B cA D s F.heap locs (new2 N.toNat n.toNat sh R M).1 (new2 N.toNat n.toNat sh R M).2.1 (new2 N.toNat n.toNat sh R M).2.2 := by
    refine hH.app (fun i hi => ?_) (by rw [f1]; simp; omega) hold (fun q hq => ?_) (fun q hq => ?_) (fun i j hi => ?_)
    · cases i with
      | zero =>
        show F.heap[B + (sh.length + 0)]? = some (vp_cell _ _)
        rw [Nat.add_zero, ← hH.2.2.1, f2, vp_cell_q, outerV]
        refine congrArg some (congrArg (arrV _ _) (funext fun j => ?_))
        refine congrArg va_rf ?_
        show _ = ro B ((new2 N.toNat n.toNat sh R M).2.1 (sh.length : Int) j)
        rw [new2_R0]
        unfold ro
        by_cases hj : j < N.toNat
        · have hc : (0 : Int) ≤ (j : Int) ∧ (j : Int) < (N.toNat : Int) := ⟨by omega, by omega⟩
          rw [if_pos hj, if_pos hc, if_neg (by omega)]
          congr 1
          rw [hH.2.2.1]
          omega
        · have hc : ¬ ((0 : Int) ≤ (j : Int) ∧ (j : Int) < (N.toNat : Int)) := by omega
          rw [if_neg hj, if_neg hc, if_pos (by decide)]
      | succ i =>
        have hi' : i < N.toNat := by simpa using hi
        have e1 : (((105, N.toNat) :: List.replicate N.toNat (100, n.toNat)).getD (i + 1) (999, 0)) = (100, n.toNat) := by
          rw [List.getD_eq_getElem?_getD, List.getElem?_cons_succ, List.getElem?_replicate, if_pos hi']
          rfl
        rw [e1]
        show F.heap[B + (sh.length + (i + 1))]? = some (vp_cell _ _)
        have e2 : B + (sh.length + (i + 1)) = H.size + 1 + i := by rw [hH.2.2.1]; omega
        rw [e2, hrow i hi', vp_cell_i]
        refine congrArg some ?_
        show ({ cls := cA 0, slots := Array.replicate n.toNat (defaultValue .int), vm := .none } : Cell) = _
        rw [arrV_new]
        refine congrArg (arrV _ _) (funext fun j => ?_)
        show _ = Value.int (Int32.ofInt ((new2 N.toNat n.toNat sh R M).2.2 ((sh.length + (i + 1) : Nat) : Int) j))
        rw [new2_M (by omega)]
        rfl
    · exact new2_Ro (by omega)
    · exact new2_Mo (by omega)
    · cases i with
      | zero =>
        show rngv 2 ((new2 N.toNat n.toNat sh R M).2.1 (sh.length : Int) j)
        rw [new2_R0]
        show -1 ≤ _
        split <;> omega
      | succ i =>
        have hi' : i < N.toNat := by simpa using hi
        have e1 : (((105, N.toNat) :: List.replicate N.toNat (100, n.toNat)).getD (i + 1) (999, 0)) = (100, n.toNat) := by
          rw [List.getD_eq_getElem?_getD, List.getElem?_cons_succ, List.getElem?_replicate, if_pos hi']
          rfl
        rw [e1]
        show rngv 0 ((new2 N.toNat n.toNat sh R M).2.2 ((sh.length + (i + 1) : Nat) : Int) j)
        rw [new2_M (by omega)]
        exact rng00
  have hh := hk _ _ _ _ _ _ _ h F.heap locs (cells + 1 + N.toNat) (slots + N.toNat + N.toNat * n.toNat) lsA hHR hL (SQ.cons (show rngv 2 (sh.length : Int) from by show -1 ≤ _; omega) hS.tl.tl) (by omega) (by omega)
  rw [map_cv_cons, show cv B ex (vr (sh.length : Int)) = rv B (sh.length : Int) from rfl] at hh
  unfold rv at hh
  rw [if_neg (by omega), Int.toNat_natCast] at hh
  obtain ⟨t9, a1, b9⟩ := hh F rfl X'
  refine ⟨t9, step t9 ?_, b9⟩
  have e9 : T.heap.size = B + sh.length := by rw [hT]; exact hH.2.2.1
  rw [e9]
  exact a1
theorem sd_ldc (hx : p.tables.exec = Jvm.exec) (hb : c.code = cc) (hts : ∀ w ∈ TBg, w.before args s = true) {own : String} (hown : s.vm.findClass own = some mm.cls) {index v : Nat} (hv : v < 2147483648) (w1 : (Cond.constant own index (Int32.ofNat v)).before args s = true) (hdg : decode cc pc = .ok (.ldc index, 2)) (hk : ∀ ls st sh R M cb sb, k ls st sh R M cb sb → WG p l e Rm s mm args below meth c Qw B cA ex D nL mc ms (pc + 2) ls st sh R M cb sb) (h : k ls (vi (Int.ofNat v) :: st) sh R M cb sb) : WG p l e Rm s mm args below meth c Qw B cA ex D nL mc ms pc ls st sh R M cb sb := by
  intro H locs cells slots lsA hH hL hS h1 h2
  exact lv_ldc hx hb hown w1 hdg (hk _ _ _ _ _ _ _ h H locs cells slots lsA hH hL (SQ.cons (show rngv 0 ((v : Nat) : Int) from ⟨by omega, by omega⟩) hS) h1 h2)
theorem sd_ldc_w (hx : p.tables.exec = Jvm.exec) (hb : c.code = cc) (hts : ∀ w ∈ TBg, w.before args s = true) {own : String} (hown : s.vm.findClass own = some mm.cls) {index v : Nat} (hv : v < 2147483648) (w1 : (Cond.constant own index (Int32.ofNat v)).before args s = true) (hdg : decode cc pc = .ok (.ldc_w index, 3)) (hk : ∀ ls st sh R M cb sb, k ls st sh R M cb sb → WG p l e Rm s mm args below meth c Qw B cA ex D nL mc ms (pc + 3) ls st sh R M cb sb) (h : k ls (vi (Int.ofNat v) :: st) sh R M cb sb) : WG p l e Rm s mm args below meth c Qw B cA ex D nL mc ms pc ls st sh R M cb sb := by
  intro H locs cells slots lsA hH hL hS h1 h2
  exact lv_ldcw hx hb hown w1 hdg (hk _ _ _ _ _ _ _ h H locs cells slots lsA hH hL (SQ.cons (show rngv 0 ((v : Nat) : Int) from ⟨by omega, by omega⟩) hS) h1 h2)
theorem sd_ldc2 (hx : p.tables.exec = Jvm.exec) (hb : c.code = cc) (hts : ∀ w ∈ TBg, w.before args s = true) {own : String} (hown : s.vm.findClass own = some mm.cls) {index v : Nat} (hv : v < 9223372036854775808) (w1 : (Cond.constantLong own index (Int64.ofNat v)).before args s = true) (hdg : decode cc pc = .ok (.ldc2_w index, 3)) (hk : ∀ ls st sh R M cb sb, k ls st sh R M cb sb → WG p l e Rm s mm args below meth c Qw B cA ex D nL mc ms (pc + 3) ls st sh R M cb sb) (h : k ls (vl (Int.ofNat v) :: st) sh R M cb sb) : WG p l e Rm s mm args below meth c Qw B cA ex D nL mc ms pc ls st sh R M cb sb := by
  intro H locs cells slots lsA hH hL hS h1 h2
  exact lv_ldc2 hx hb hown w1 hdg (hk _ _ _ _ _ _ _ h H locs cells slots lsA hH hL (SQ.cons (show rngv 1 ((v : Nat) : Int) from ⟨by omega, by omega⟩) hS) h1 h2)
theorem sd_ldcS (hx : p.tables.exec = Jvm.exec) (hb : c.code = cc) {own : String} (hown : s.vm.findClass own = some mm.cls) {index v : Nat} {tx : String} (w1 : vk_R own index tx (ex v) s) (hdg : decode cc pc = .ok (.ldc index, 2)) (hk : ∀ ls st sh R M cb sb, k ls st sh R M cb sb → WG p l e Rm s mm args below meth c Qw B cA ex D nL mc ms (pc + 2) ls st sh R M cb sb) (h : k ls (ve (Int.ofNat v) :: st) sh R M cb sb) : WG p l e Rm s mm args below meth c Qw B cA ex D nL mc ms pc ls st sh R M cb sb := by
  intro H locs cells slots lsA hH hL hS h1 h2
  exact va_ldcS hx hb hown w1 hdg (hk _ _ _ _ _ _ _ h H locs cells slots lsA hH hL (SQ.cons trivial hS) h1 h2)
theorem tsw_inv {x : Int} {J : Nat → Prop} {d : Nat} : ∀ (r : List Nat) (lo : Int), tsw lo x J d r → ((x < lo ∨ lo + (r.length : Int) ≤ x) ∧ J d) ∨ ∃ (j t : Nat), x = lo + (j : Int) ∧ r[j]? = some t ∧ J t
  | [], lo, h => Or.inl ⟨by simp; omega, h⟩
  | t :: r, lo, h => by
    unfold tsw at h
    by_cases hx : x = lo
    · rw [if_pos hx] at h
      exact Or.inr ⟨0, t, by omega, rfl, h⟩
    · rw [if_neg hx] at h
      rcases tsw_inv r (lo + 1) h with ⟨h1, h2⟩ | ⟨j, t', h1, h2, h3⟩
      · exact Or.inl ⟨by simp; omega, h2⟩
      · exact Or.inr ⟨j + 1, t', by omega, h2, h3⟩
theorem lsw_inv {x : Int} {J : Nat → Prop} {d : Nat} {dflt : Int} : ∀ (ps : List (Int × Int)) (r : List Nat), ps.length = r.length → lsw x J d ps r → ∃ (t : Nat) (off : Int), Op.lookupswitch.offset ps dflt x = off ∧ J t ∧ ((t = d ∧ off = dflt) ∨ ∃ (i : Nat) (q : Int × Int), ps[i]? = some q ∧ r[i]? = some t ∧ q.2 = off)
  | [], [], _, h => ⟨d, dflt, rfl, h, Or.inl ⟨rfl, rfl⟩⟩
  | (kk, o) :: ps, t :: r, hl, h => by
    unfold lsw at h
    by_cases hx : x = kk
    · rw [if_pos hx] at h
      refine ⟨t, o, by rw [Op.lookupswitch.offset_cons, if_pos hx.symm], h, Or.inr ⟨0, (kk, o), rfl, rfl, rfl⟩⟩
    · rw [if_neg hx] at h
      obtain ⟨t', off, g1, g2, g3⟩ := lsw_inv (dflt := dflt) ps r (by simpa using hl) h
      refine ⟨t', off, by rw [Op.lookupswitch.offset_cons, if_neg (fun z => hx z.symm)]; exact g1, g2, ?_⟩
      rcases g3 with g | ⟨i, q, q1, q2, q3⟩
      · exact Or.inl g
      · exact Or.inr ⟨i + 1, q, q1, q2, q3⟩
  | [], _ :: _, hl, _ => by simp at hl
  | _ :: _, [], hl, _ => by simp at hl
theorem sd_tsw (hx : p.tables.exec = Jvm.exec) (hb : c.code = cc) {dflt lo hi : Int} {offs : Array Int} {len : Nat} {tp : Nat → Nat} {d : Nat} {r : List Nat} {J : Nat → NXT} (hdg : decode cc pc = .ok (.tableswitch dflt lo hi offs, len)) (hlo : rngv 0 lo) (hhi : hi + 1 = lo + (r.length : Int)) (hd : (pc : Int) + dflt = (tp d : Int)) (hr : ∀ (j t : Nat), r[j]? = some t → ∃ off, offs[j]? = some off ∧ (pc : Int) + off = (tp t : Int)) (hJ : ∀ t ls st sh R M cb sb, J t ls st sh R M cb sb → WG p l e Rm s mm args below meth c Qw B cA ex D nL mc ms (tp t) ls st sh R M cb sb) (h0 : pI st fun x t => tsw lo x (fun j => J j ls t sh R M cb sb) d r) : WG p l e Rm s mm args below meth c Qw B cA ex D nL mc ms pc ls st sh R M cb sb := by
  obtain ⟨x, t, rfl, h⟩ := pI_inv h0
  intro H locs cells slots lsA hH hL hS h1 h2
  have hxr : rngv 0 x := hS.hd
  have ex : (Int32.ofInt x).toInt = x := ti32 hxr
  rcases tsw_inv _ _ h with ⟨g1, g2⟩ | ⟨j, t', g1, g2, g3⟩
  · exact lv_tableOut hx hb hdg (by rw [ex]; omega) hd (hJ _ _ _ _ _ _ _ _ g2 H locs cells slots lsA hH hL hS.tl h1 h2)
  · obtain ⟨off, e1, e2⟩ := hr j t' g2
    have hjl : j < r.length := (List.getElem?_eq_some_iff.mp g2).1
    exact lv_tableIn hx hb hdg (by rw [ex]; omega) (by rw [ex]; omega) (by rw [ex, show (x - lo).toNat = j by omega]; exact e1) e2 (hJ _ _ _ _ _ _ _ _ g3 H locs cells slots lsA hH hL hS.tl h1 h2)
theorem sd_lsw (hx : p.tables.exec = Jvm.exec) (hb : c.code = cc) {dflt : Int} {ps : Array (Int × Int)} {len : Nat} {tp : Nat → Nat} {d : Nat} {r : List Nat} {J : Nat → NXT} (hdg : decode cc pc = .ok (.lookupswitch dflt ps, len)) (hsort : (ps.toList.zip (ps.toList.drop 1)).all (fun (a, next) => a.1 < next.1) = true) (hlen : ps.toList.length = r.length) (hd : (pc : Int) + dflt = (tp d : Int)) (hr : ∀ (i t : Nat) (q : Int × Int), ps.toList[i]? = some q → r[i]? = some t → (pc : Int) + q.2 = (tp t : Int)) (hJ : ∀ t ls st sh R M cb sb, J t ls st sh R M cb sb → WG p l e Rm s mm args below meth c Qw B cA ex D nL mc ms (tp t) ls st sh R M cb sb) (h0 : pI st fun x t => lsw x (fun j => J j ls t sh R M cb sb) d ps.toList r) : WG p l e Rm s mm args below meth c Qw B cA ex D nL mc ms pc ls st sh R M cb sb := by
  obtain ⟨x, t, rfl, h⟩ := pI_inv h0
  intro H locs cells slots lsA hH hL hS h1 h2
  have hxr : rngv 0 x := hS.hd
  have ex : (Int32.ofInt x).toInt = x := ti32 hxr
  obtain ⟨t', off, g1, g2, g3⟩ := lsw_inv (dflt := dflt) _ _ hlen h
  refine lv_lookup (off := off) hx hb hdg hsort (by rw [ex]; exact g1) (tgt := tp t') ?_ (hJ _ _ _ _ _ _ _ _ g2 H locs cells slots lsA hH hL hS.tl h1 h2)
  rcases g3 with ⟨e1, e2⟩ | ⟨i, q, q1, q2, q3⟩
  · rw [e1, e2]; exact hd
  · rw [← q3]; exact hr i t' q q1 q2
theorem sd_ialoadX (hx : p.tables.exec = Jvm.exec) (hb : c.code = cc) {X : Int × (Int → Int)} (hXS : XS B ex X s) {j x : Int} {t : List AV} (hst : st = (0, j) :: (4, x) :: t) (hdg : decode cc pc = .ok (.iaload, 1)) (hk : ∀ ls st sh R M cb sb, k ls st sh R M cb sb → WG p l e Rm s mm args below meth c Qw B cA ex D nL mc ms (pc + 1) ls st sh R M cb sb) (h : x = 0 ∧ 0 ≤ j ∧ j < X.1 ∧ k ls (vi (X.2 j) :: t) sh R M cb sb) : WG p l e Rm s mm args below meth c Qw B cA ex D nL mc ms pc ls st sh R M cb sb := by
  obtain ⟨rfl, hj0, hj1, h⟩ := h
  subst hst
  intro H locs cells slots lsA hH hL hS h1 h2
  rcases hXS with hXS | ⟨L, xs, hX, e1, e2, e3, e4, e5⟩
  · omega
  have hjr : rngv 0 j := hS.hd
  rw [e1] at hj1
  have hvp := in32 hjr hj0 hj1
  have hcl := clamp32 hjr hj0
  obtain ⟨jn, rfl⟩ := Int.eq_ofNat_of_zero_le hj0
  rw [Int.toNat_natCast] at hcl
  have hh := hk _ _ _ _ _ _ _ h H locs cells slots lsA hH hL (SQ.cons (show rngv 0 (X.2 jn) from by rw [e3]; exact i32_rng _) hS.tl.tl) h1 h2
  rw [map_cv_cons, show cv B ex (vi (X.2 jn)) = .int (Int32.ofInt (X.2 jn)) from rfl, e3, oi32] at hh
  refine va_sld hx hb hX e4 e5 hH.2.1 hvp hdg ?_
  rw [hcl]
  exact hh
theorem sd_alenX (hx : p.tables.exec = Jvm.exec) (hb : c.code = cc) {X : Int × (Int → Int)} (hXS : XS B ex X s) {x : Int} {t : List AV} (hst : st = (4, x) :: t) (hdg : decode cc pc = .ok (.arraylength, 1)) (hk : ∀ ls st sh R M cb sb, k ls st sh R M cb sb → WG p l e Rm s mm args below meth c Qw B cA ex D nL mc ms (pc + 1) ls st sh R M cb sb) (h : x = 0 ∧ 0 ≤ X.1 ∧ k ls (vi X.1 :: t) sh R M cb sb) : WG p l e Rm s mm args below meth c Qw B cA ex D nL mc ms pc ls st sh R M cb sb := by
  obtain ⟨rfl, hj0, h⟩ := h
  subst hst
  intro H locs cells slots lsA hH hL hS h1 h2
  rcases hXS with hXS | ⟨L, xs, hX, e1, e2, e3, e4, e5⟩
  · omega
  rw [e1] at h
  have hh := hk _ _ _ _ _ _ _ h H locs cells slots lsA hH hL (SQ.cons (show rngv 0 (L : Int) from ⟨by omega, by omega⟩) hS.tl) h1 h2
  exact va_slen hx hb hX e4 e5 hH.2.1 hdg hh
theorem sd_objInit (hx : p.tables.exec = Jvm.exec) (hb : c.code = cc) (hts : ∀ w ∈ TBg, w.before args s = true) {own : String} (hown : s.vm.findClass own = some mm.cls) (hfr : 6 ≤ Rm.frames) (hlo : 360 ≤ Rm.locals) {idx : Nat} (w1 : (Cond.methodLink own idx Lib.objectInit).before args s = true) (w2 : (Cond.instanceMethod Lib.objectInit).before args s = true) (w3 : (Cond.code Lib.objectInit ⟨#[0xb1]⟩ 1 none).before args s = true) (hml : c.maxLocals = nL) (hdg : decode cc pc = .ok (.invokespecial idx, 3)) (hk : ∀ ls st sh R M cb sb, k ls st sh R M cb sb → WG p l e Rm s mm args below meth c Qw B cA ex D nL mc ms (pc + 3) ls st sh R M cb sb) (h0 : bud (Nat.ble (cats st) 8) (pR st fun a t => 0 ≤ a ∧ k ls t sh R M cb sb)) : WG p l e Rm s mm args below meth c Qw B cA ex D nL mc ms pc ls st sh R M cb sb := by
  obtain ⟨hb1, h⟩ := bud_inv h0
  have b1 := Nat.le_of_ble_eq_true hb1
  obtain ⟨a, t, rfl, ha, h⟩ := pR_inv h
  intro H locs cells slots lsA hH hL hS h1 h2
  have hc := cats_sum B ex t
  have hc2 : cats t ≤ 8 := by unfold cats at b1; omega
  rw [map_cv_cons, show cv B ex (2, a) = rv B a from rfl]
  unfold rv
  rw [if_neg (by omega)]
  exact W.objInit hx hb hown w1 w2 w3 rfl (hL.1.1.trans hml.symm) rfl hdg (by omega) (by show 2 * 0 + _ + 12 ≤ _; omega) (hk _ _ _ _ _ _ _ h H locs cells slots lsA hH hL hS.tl h1 h2)
theorem sd_mmax (hx : p.tables.exec = Jvm.exec) (hb : c.code = cc) (hts : ∀ w ∈ TBg, w.before args s = true) {own : String} (hown : s.vm.findClass own = some mm.cls) (hfr : 6 ≤ Rm.frames) (hlo : 360 ≤ Rm.locals) (hRc : mc ≤ Rm.cells) (hRs : ms ≤ Rm.slots) {idx : Nat} (w1 : (Cond.methodLink own idx Lib.Math.max.name).before args s = true) (w2 : (Cond.static Lib.Math.max.name).before args s = true) (w3 : (Cond.initialized "java/lang/Math").before args s = true) (w4 : (Cond.code Lib.Math.max.name Lib.Math.max.code 2 (some .int)).before args s = true) (hml : c.maxLocals = nL) (hdg : decode cc pc = .ok (.invokestatic idx, 3)) (hk : ∀ ls st sh R M cb sb, k ls st sh R M cb sb → WG p l e Rm s mm args below meth c Qw B cA ex D nL mc ms (pc + 3) ls st sh R M cb sb) (h0 : bud (Nat.ble (cats st) 10) (pII st fun x y t => k ls (vi (imax x y) :: t) sh R M cb sb)) : WG p l e Rm s mm args below meth c Qw B cA ex D nL mc ms pc ls st sh R M cb sb := by
  obtain ⟨hb1, h⟩ := bud_inv h0
  have b1 := Nat.le_of_ble_eq_true hb1
  obtain ⟨x, y, t, rfl, h⟩ := pII_inv h
  intro H locs cells slots lsA hH hL hS h1 h2
  have hc := cats_sum B ex t
  have hc2 : cats t ≤ 10 := by unfold cats at b1; unfold cats at b1; omega
  have hy : rngv 0 y := hS.hd
  have hxr : rngv 0 x := hS.tl.hd
  have hr : rngv 0 (imax x y) := by
    unfold imax
    split
    · first | exact hy | exact hxr
    · first | exact hy | exact hxr
  have hh := hk _ _ _ _ _ _ _ h H locs cells slots lsA hH hL (SQ.cons hr hS.tl.tl) h1 h2
  have e1 : Int32.ofInt (imax x y) = (if Int32.ofInt x < Int32.ofInt y then Int32.ofInt y else Int32.ofInt x) := by
    unfold imax
    by_cases q : x < y
    · rw [if_pos q, if_pos (by first | exact (lt32 hxr hy).mpr q | exact (lt32 hy hxr).mpr q)]
    · rw [if_neg q, if_neg (fun z => q (by first | exact (lt32 hxr hy).mp z | exact (lt32 hy hxr).mp z))]
  rw [map_cv_cons, show cv B ex (vi (imax x y)) = .int (Int32.ofInt (imax x y)) from rfl, e1] at hh
  exact va_mmax hx hb (by rw [hml, hL.1.1]) hown w1 w2 w3 w4 (by omega) (by omega) (by omega) (by omega) hdg hh
theorem sd_mmin (hx : p.tables.exec = Jvm.exec) (hb : c.code = cc) (hts : ∀ w ∈ TBg, w.before args s = true) {own : String} (hown : s.vm.findClass own = some mm.cls) (hfr : 6 ≤ Rm.frames) (hlo : 360 ≤ Rm.locals) (hRc : mc ≤ Rm.cells) (hRs : ms ≤ Rm.slots) {idx : Nat} (w1 : (Cond.methodLink own idx Lib.Math.min.name).before args s = true) (w2 : (Cond.static Lib.Math.min.name).before args s = true) (w3 : (Cond.initialized "java/lang/Math").before args s = true) (w4 : (Cond.code Lib.Math.min.name Lib.Math.min.code 2 (some .int)).before args s = true) (hml : c.maxLocals = nL) (hdg : decode cc pc = .ok (.invokestatic idx, 3)) (hk : ∀ ls st sh R M cb sb, k ls st sh R M cb sb → WG p l e Rm s mm args below meth c Qw B cA ex D nL mc ms (pc + 3) ls st sh R M cb sb) (h0 : bud (Nat.ble (cats st) 10) (pII st fun x y t => k ls (vi (imin x y) :: t) sh R M cb sb)) : WG p l e Rm s mm args below meth c Qw B cA ex D nL mc ms pc ls st sh R M cb sb := by
  obtain ⟨hb1, h⟩ := bud_inv h0
  have b1 := Nat.le_of_ble_eq_true hb1
  obtain ⟨x, y, t, rfl, h⟩ := pII_inv h
  intro H locs cells slots lsA hH hL hS h1 h2
  have hc := cats_sum B ex t
  have hc2 : cats t ≤ 10 := by unfold cats at b1; unfold cats at b1; omega
  have hy : rngv 0 y := hS.hd
  have hxr : rngv 0 x := hS.tl.hd
  have hr : rngv 0 (imin x y) := by
    unfold imin
    split
    · first | exact hy | exact hxr
    · first | exact hy | exact hxr
  have hh := hk _ _ _ _ _ _ _ h H locs cells slots lsA hH hL (SQ.cons hr hS.tl.tl) h1 h2
  have e1 : Int32.ofInt (imin x y) = (if Int32.ofInt y < Int32.ofInt x then Int32.ofInt y else Int32.ofInt x) := by
    unfold imin
    by_cases q : y < x
    · rw [if_pos q, if_pos (by first | exact (lt32 hxr hy).mpr q | exact (lt32 hy hxr).mpr q)]
    · rw [if_neg q, if_neg (fun z => q (by first | exact (lt32 hxr hy).mp z | exact (lt32 hy hxr).mp z))]
  rw [map_cv_cons, show cv B ex (vi (imin x y)) = .int (Int32.ofInt (imin x y)) from rfl, e1] at hh
  exact va_mmin hx hb (by rw [hml, hL.1.1]) hown w1 w2 w3 w4 (by omega) (by omega) (by omega) (by omega) hdg hh
end
