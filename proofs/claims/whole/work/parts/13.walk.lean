/-! A WALK, A METHOD: what the plain machine says is so -/
def X0 : Int × (Int → Int) := (-1, fun _ => 0)
/-- AT PLACE i of method m, with these locals, this stack, these numbers: it comes to its end, and then Q -/
def GoX (X : Int × (Int → Int)) (d m : Nat) (Q : RES) (i : Nat) : NXT := fun ls st sh R M cb sb => ∀ (p : Program) (l : Launch) (e : Env) (Rm : Room) (s : State) (mm : MethodId) (args : Array Value) (below : List Frame) (meth : Method) (c : Code) (Qw : State → Prop) (B : Nat) (cA : Nat → ClassId) (ex adV : Nat → Nat) (D : va_G) (mc ms : Nat), Cx d m B cA ex adV D X p s mm args meth c Rm mc ms → FinH m B cA D p l e Rm s mm args below meth c Qw mc ms Q → WG p l e Rm s mm args below meth c Qw B cA ex D (mL m) mc ms (tpc (mK m) i) ls st sh R M cb sb
def Go (d m : Nat) (Q : RES) (i : Nat) : NXT := GoX X0 d m Q i
def rowsB (m : Nat) : Nat → List INS → Bool
  | _, [] => true
  | i, (j, pc, ins, len, r) :: rest => Nat.beq i j && decide (decode (mC m) pc = .ok (ins, len)) && lkB m pc ins len r && (match rest with
    | [] => true
    | (_, pc2, _) :: _ => Nat.beq pc2 (pc + len)) && rowsB m (i + 1) rest
def retOK (ret : Option FieldType) : Bool := match ret with
  | none => true
  | some .long => true
  | some .int => true
  | some .boolean => true
  | some (.object _) => true
  | some (.array _) => true
  | _ => false
def mokB (m : Nat) : Bool := rowsB m 0 (mK m) && Nat.beq (tpc (mK m) 0) 0 && plainName (mY m).cls && decide (mO m = (mY m).cls) && retOK (mR m)
def MOK (m : Nat) : Prop := mokB m = true
theorem rowsB_get {m : Nat} : ∀ (suf : List INS) (i0 k : Nat) (j pc : Nat) (ins : Jvm.ClassFile.Instr) (len : Nat) (r : List Nat), rowsB m i0 suf = true → suf[k]? = some (j, pc, ins, len, r) → j = i0 + k ∧ decode (mC m) pc = .ok (ins, len) ∧ lkB m pc ins len r = true ∧ ∀ e : INS, suf[k + 1]? = some e → e.2.1 = pc + len
  | [], _, _, _, _, _, _, _, _, h => by simp at h
  | (j', pc', ins', len', r') :: rest, i0, k, j, pc, ins, len, r, hb, h => by
    unfold rowsB at hb
    simp only [Bool.and_eq_true, decide_eq_true_eq] at hb
    obtain ⟨⟨⟨⟨h1, h2⟩, h3⟩, h4⟩, h5⟩ := hb
    cases k with
    | zero =>
      cases h
      refine ⟨(Nat.eq_of_beq_eq_true h1).symm, h2, h3, fun e he => ?_⟩
      cases rest with
      | nil => simp at he
      | cons e' rest' =>
        cases he
        exact Nat.eq_of_beq_eq_true h4
    | succ k =>
      obtain ⟨g1, g2, g3, g4⟩ := rowsB_get rest (i0 + 1) k j pc ins len r h5 h
      exact ⟨by omega, g2, g3, g4⟩
theorem cutAt_mem : ∀ (cuts : List (Nat × List Nat)) (i : Nat) (mq : List Nat), cutAt cuts i = some mq → (i, mq) ∈ cuts
  | [], _, _, h => by cases h
  | (j, mq2) :: t, i, mq, h => by
    unfold cutAt at h
    cases hq : Nat.beq j i with
    | true =>
      rw [hq] at h
      cases h
      cases Nat.eq_of_beq_eq_true hq
      exact List.mem_cons_self
    | false =>
      rw [hq] at h
      exact List.mem_cons_of_mem _ (cutAt_mem t i mq h)
theorem wp_sound {X : Int × (Int → Int)} {d m : Nat} {Q : RES} {G : Nat → NXT} {cuts : List (Nat × List Nat)} (hm : MOK m) (hcuts : cuts.all (fun q => Nat.beq q.2.length (mL m)) = true) (hG : ∀ i ls st sh R M cb sb, G i ls st sh R M cb sb → GoX X d m Q i ls st sh R M cb sb) : ∀ (n i : Nat) (ls st : List AV) (sh : SHP) (R M : MEM) (cb sb : Nat), gx_wp (Cd d) X G Q cuts (mK m) n ((mK m).drop i) ls st sh R M cb sb → GoX X d m Q i ls st sh R M cb sb := by
  intro n
  induction n with
  | zero => intro i ls st sh R M cb sb h; exact h.elim
  | succ n ih =>
    intro i ls st sh R M cb sb h
    cases hd : (mK m).drop i with
    | nil => rw [hd] at h; exact h.elim
    | cons e rest =>
      obtain ⟨j, pc, ins, len, r⟩ := e
      rw [hd] at h
      have hi : (mK m)[i]? = some (j, pc, ins, len, r) := by
        have := congrArg (fun l => l[0]?) hd
        simpa [List.getElem?_drop] using this
      have hrest : rest = (mK m).drop (i + 1) := by
        have := congrArg List.tail hd
        simpa [List.tail_drop] using this.symm
      have hrows : rowsB m 0 (mK m) = true := by
        unfold MOK mokB at hm
        simp only [Bool.and_eq_true] at hm
        exact hm.1.1.1.1
      obtain ⟨hj, hdg, hl, hnext⟩ := rowsB_get (mK m) 0 i j pc ins len r hrows hi
      have hpc : tpc (mK m) i = pc := by unfold tpc; rw [hi]
      have cut_ok : ∀ (t : Nat) (mq : List Nat), cutAt cuts t = some mq → mq.length = mL m := fun t mq hc => by
        have := List.all_eq_true.mp hcuts _ (cutAt_mem _ _ _ hc)
        exact Nat.eq_of_beq_eq_true this
      intro p l e Rm s mm args below meth c Qw B cA ex adV D mc ms hCx hF
      have go : ∀ (t : Nat) (ls st : List AV) (sh : SHP) (R M : MEM) (cb sb : Nat), (match cutAt cuts t with
          | some mq => G t (msk mq ls) st sh R M cb sb
          | none => gx_wp (Cd d) X G Q cuts (mK m) n ((mK m).drop t) ls st sh R M cb sb) → WG p l e Rm s mm args below meth c Qw B cA ex D (mL m) mc ms (tpc (mK m) t) ls st sh R M cb sb := by
        intro t ls st sh R M cb sb hq
        cases hc : cutAt cuts t with
        | none =>
          rw [hc] at hq
          exact ih t ls st sh R M cb sb hq p l e Rm s mm args below meth c Qw B cA ex adV D mc ms hCx hF
        | some mq =>
          rw [hc] at hq
          intro H locs cells slots lsA hH hL hS h1 h2
          exact hG _ _ _ _ _ _ _ _ hq p l e Rm s mm args below meth c Qw B cA ex adV D mc ms hCx hF H locs cells slots lsA hH (hL.msk mq (cut_ok t mq hc)) hS h1 h2
      rw [hpc]
      refine row_sound hCx hF hdg hl (k := _) (J := _) (fun ls st sh R M cb sb hq => ?_) (fun t ls st sh R M cb sb _ hq => go t ls st sh R M cb sb hq) h
      cases hr : rest with
      | nil => rw [hr] at hq; exact hq.elim
      | cons e2 rest2 =>
        have hi2 : (mK m)[i + 1]? = some e2 := by
          have := congrArg (fun l => l[0]?) (hrest.symm.trans hr)
          simpa [List.getElem?_drop] using this
        have hpc2 : tpc (mK m) (i + 1) = pc + len := by
          unfold tpc
          rw [hi2]
          exact hnext e2 hi2
        obtain ⟨j2, pc2, ins2, len2, r2⟩ := e2
        obtain ⟨hj2, -, -, -⟩ := rowsB_get (mK m) 0 (i + 1) j2 pc2 ins2 len2 r2 hrows hi2
        rw [hr] at hq
        rw [← hpc2]
        apply go (i + 1)
        have e1 : j2 = i + 1 := by omega
        rw [e1] at hq
        rw [← hrest, hr]
        rw [e1]
        exact hq
/-! a method's entry -/
def entl : List AV → List AV
  | [] => []
  | v :: t => (match v.1 with
    | 1 => [v, vn]
    | _ => [v]) ++ entl t
def entL (n : Nat) (as : List AV) : List AV := entl as ++ List.replicate (n - (entl as).length) vn
def okA (as : List AV) : Bool := as.all (fun v => Nat.ble v.1 2)
theorem cat_eq2 {B : Nat} {ex : Nat → Nat} {v : AV} : (cv B ex v).category = 2 ↔ v.1 = 1 := by
  constructor
  · intro h
    by_cases h1 : v.1 = 1
    · exact h1
    · have := cv_cat (B := B) (ex := ex) v h1
      rw [h] at this
      exact absurd this (by decide)
  · intro h
    unfold cv
    rw [h]
    rfl
theorem entl_sl {B : Nat} {ex : Nat → Nat} : ∀ as : List AV, (lg_sl (as.map (cv B ex))).length = (entl as).length
  | [] => rfl
  | v :: t => by
    have ih := entl_sl (B := B) (ex := ex) t
    have e : lg_sl ((v :: t).map (cv B ex)) = (if (cv B ex v).category = 2 then [.val (cv B ex v), .second] else [.val (cv B ex v)]) ++ lg_sl (t.map (cv B ex)) := rfl
    have e2 : entl (v :: t) = (match v.1 with
      | 1 => [v, vn]
      | _ => [v]) ++ entl t := rfl
    rw [e, e2, List.length_append, List.length_append, ih]
    by_cases h1 : v.1 = 1
    · rw [if_pos (cat_eq2.mpr h1), h1]
      rfl
    · rw [if_neg (fun z => h1 (cat_eq2.mp z))]
      split
      · rename_i h2; exact absurd h2 h1
      · rfl
theorem entl_args {B : Nat} {ex : Nat → Nat} : ∀ (as : List AV) (i j : Nat) (v : AV), (entl as)[j]? = some v → v.1 ≠ 3 → (i + j, cv B ex v) ∈ lv_args i (as.map (cv B ex))
  | [], _, _, _, h, _ => by simp [entl] at h
  | a :: t, i, j, v, h, hv => by
    have e : lv_args i ((a :: t).map (cv B ex)) = (i, cv B ex a) :: lv_args (if (cv B ex a).category = 2 then i + 2 else i + 1) (t.map (cv B ex)) := rfl
    rw [e]
    unfold entl at h
    by_cases h1 : a.1 = 1
    · rw [if_pos (cat_eq2.mpr h1)]
      rw [h1] at h
      match j, h with
      | 0, h =>
        cases h
        exact List.mem_cons_self
      | 1, h =>
        cases h
        exact absurd rfl hv
      | j + 2, h =>
        have := entl_args (B := B) (ex := ex) t (i + 2) j v h hv
        rw [show i + (j + 2) = i + 2 + j by omega]
        exact List.mem_cons_of_mem _ this
    · rw [if_neg (fun z => h1 (cat_eq2.mp z))]
      have h' : ([a] ++ entl t)[j]? = some v := by
        split at h
        · rename_i h2; exact absurd h2 h1
        · exact h
      match j, h' with
      | 0, h' =>
        cases h'
        exact List.mem_cons_self
      | j + 1, h' =>
        have := entl_args (B := B) (ex := ex) t (i + 1) j v h' hv
        rw [show i + (j + 1) = i + 1 + j by omega]
        exact List.mem_cons_of_mem _ this
theorem entl_mem : ∀ (as : List AV) (v : AV), v ∈ entl as → v ∈ as ∨ v = vn
  | [], v, h => by simp [entl] at h
  | a :: t, v, h => by
    unfold entl at h
    rcases List.mem_append.mp h with h | h
    · split at h
      · rcases List.mem_cons.mp h with rfl | h
        · exact Or.inl List.mem_cons_self
        · exact Or.inr (List.mem_singleton.mp h)
      · exact Or.inl (by rw [List.mem_singleton.mp h]; exact List.mem_cons_self)
    · rcases entl_mem t v h with h | h
      · exact Or.inl (List.mem_cons_of_mem _ h)
      · exact Or.inr h
theorem LR_entry {B : Nat} {ex : Nat → Nat} {n : Nat} {as : List AV} (hn : (entl as).length ≤ n) (hS : SQ as) : LR B ex n ((lg_sl (as.map (cv B ex)) ++ List.replicate (n - (lg_sl (as.map (cv B ex))).length) Slot.unset).toArray) (entL n as) := by
  have h0 := lv_entry (as.map (cv B ex)) (n := n) (by rw [entl_sl]; exact hn)
  have hl : (entL n as).length = n := by
    unfold entL
    rw [List.length_append, List.length_replicate]
    omega
  refine ⟨lv_has_of h0 (fun q hq => ?_), hl, fun v hv => ?_⟩
  · obtain ⟨j, v, h1, h2, rfl⟩ := (lo_mem _ 0 q).mp hq
    unfold entL at h1
    by_cases hj : j < (entl as).length
    · rw [List.getElem?_append_left hj] at h1
      exact entl_args as 0 j v h1 h2
    · rw [List.getElem?_append_right (by omega), List.getElem?_replicate] at h1
      split at h1
      · cases h1
        exact absurd rfl h2
      · cases h1
  · unfold entL at hv
    rcases List.mem_append.mp hv with h | h
    · rcases entl_mem as v h with h | h
      · exact hS v h
      · rw [h]; trivial
    · rw [(List.mem_replicate.mp h).2]
      trivial
theorem fin_met {m : Nat} {B : Nat} {cA : Nat → ClassId} {D : va_G} {p : Program} {l : Launch} {e : Env} {Rm : Room} {s : State} {mm : MethodId} {args : Array Value} {below : List Frame} {meth : Method} {c : Code} {mc ms : Nat} {Q : RES} (hx : p.tables.exec = Jvm.exec) (hb : c.code = mC m) (hr : meth.sig.returnType = mR m) (hlk : meth.locks = false) (hro : retOK (mR m) = true) : FinH m B cA D p l e Rm s mm args below meth c (MQ below (PostM B cA D (mR m) Q) args s mc ms (Bq B)) mc ms Q := by
  intro pc H locs cells slots lsA x sh R M hH hc hs hQ hrk hdg
  refine W.widen hc hs ?_
  have hq : ∀ t : State, t.heap = H → s.WarmedH t.vm → PostM B cA D (mR m) Q args s (.returned (rvl B (mR m) x)) t := fun t ht _ => ⟨⟨x, sh, R, M, rfl, hQ, hrk, by rw [ht]; exact hH.1, by rw [ht]; exact hH.2.2.1, hH.2.2.2⟩, hH.2.1.F ht⟩
  have hf : ∀ q ∈ locs, Bq B q.base := hH.2.1.2.2
  generalize hret : mR m = ret at hq hrk hdg hr hro
  cases ret with
  | none => exact W.vret hx hb hr hq hf hdg hlk
  | some ty =>
    cases ty with
    | long => exact W.lret hx hb hr hq hf hdg hlk
    | object nm =>
      refine W.aret hx hb hr (Or.inl ⟨_, rfl⟩) ?_ hq hf hdg hlk
      unfold rv
      split
      · exact Or.inl rfl
      · exact Or.inr ⟨_, rfl⟩
    | array nm =>
      refine W.aret hx hb hr (Or.inr ⟨_, rfl⟩) ?_ hq hf hdg hlk
      unfold rv
      split
      · exact Or.inl rfl
      · exact Or.inr ⟨_, rfl⟩
    | boolean => exact W.zret hx hb hr (bnar hrk) hq hf hdg hlk
    | int => exact W.iret hx hb hr hq hf hdg hlk
    | _ => cases hro
theorem Mw_of {d m : Nat} {as : List AV} {sh : SHP} {R M : MEM} {mc ms : Nat} {Q : RES} (hm : MOK m) (hn : Nat.ble (entl as).length (mL m) = true) (h : SQ as → RN sh R M → Go d m Q 0 (entL (mL m) as) [] sh R M mc ms) : Mw d m as sh R M mc ms Q := by
  intro l B cA ex adV D
  have hm1 := hm
  unfold MOK mokB at hm1
  simp only [Bool.and_eq_true, decide_eq_true_eq] at hm1
  obtain ⟨⟨⟨⟨-, hp0⟩, hpl⟩, hO⟩, hro⟩ := hm1
  refine Met.ofW (cc := mC m) (maxL := mL m) (ret := mR m) (ws' := TBg) hpl (by unfold wsM; rfl) ?_
  intro p e s mm args below meth c s₁ Bd hml hv
  obtain ⟨rfl, hP, hz, hrn, hK, hEX, hS⟩ := hv
  have hx := Bd.exec
  have hb := Bd.bytes
  have hr := Bd.returns
  have hts := atoms_spec (ws := wsM m) Bd.pre
  have hown : s.vm.findClass (mO m) = some mm.cls := by rw [hO]; exact findClass_of_methodNamed Bd.named
  have hlocks := Bd.notSynchronized
  have hname : meth.name = (mY m).name := (name_of_methodNamed Bd.named Bd.method).1
  have hCx : Cx d m B cA ex adV D X0 p s mm (as.map (cv B ex)).toArray meth c (roomM d mc ms) mc ms := ⟨hx, hb, hml, hown, fun w hw => hts w (List.mem_cons_of_mem _ hw), hK, hEX, Or.inl (by decide), by rw [hz]; omega, Nat.le_refl _, Nat.le_refl _, Nat.le_refl _, Nat.le_refl _, hname⟩
  have hgo := h hS hrn p l e (roomM d mc ms) s mm _ below meth c _ B cA ex adV D mc ms hCx (fin_met (Q := Q) hx hb hr hlocks hro)
  rw [lg_entry_eq]
  have hpc : tpc (mK m) 0 = 0 := Nat.eq_of_beq_eq_true hp0
  rw [hpc] at hgo
  exact hgo s.heap [] 0 0 _ ⟨hP, va_S.rf, hz, hrn⟩ (LR_entry (Nat.le_of_ble_eq_true hn) hS) (fun v hv => by cases hv) (by omega) (by omega)
theorem Mw.mono {d m : Nat} {as : List AV} {sh : SHP} {R M : MEM} {mc ms : Nat} {Q Q' : RES} (h : Mw d m as sh R M mc ms Q) (hq : ∀ x sh R M, Q x sh R M → Q' x sh R M) : Mw d m as sh R M mc ms Q' := by
  intro l B cA ex adV D
  intro p e g1 g2 g3 s mm args below g4 g5 g6 g7
  obtain ⟨n, o, h1, h2, h3, ⟨⟨x, sh', R', M', a1, a2, a3⟩, a4⟩, a5⟩ := h l B cA ex adV D p e g1 g2 g3 s mm args below g4 g5 g6 g7
  exact ⟨n, o, h1, h2, h3, ⟨⟨x, sh', R', M', a1, hq _ _ _ _ a2, a3⟩, a4⟩, a5⟩
theorem Go_wp {d m : Nat} {Q : RES} {cuts : List (Nat × List Nat)} (n i : Nat) {ls st : List AV} {sh : SHP} {R M : MEM} {cb sb : Nat} (hm : MOK m) (hcuts : cuts.all (fun q => Nat.beq q.2.length (mL m)) = true) (h : gx_wp (Cd d) X0 (Go d m Q) Q cuts (mK m) n ((mK m).drop i) ls st sh R M cb sb) : Go d m Q i ls st sh R M cb sb := wp_sound hm hcuts (fun _ _ _ _ _ _ _ _ z => z) n i ls st sh R M cb sb h
