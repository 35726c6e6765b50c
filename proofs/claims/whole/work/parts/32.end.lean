/-! THE CLAIM OUT OF ONE WALK OF THE LAW'S BODY. Your part is whole_start (and what it stands on); all else here is the same for every law, but numbers. -/
def R_law : String := "GeeseSumsLaw"
def lw_P (b : Addr) (xs : List Int32) (args : Array Value) (s : State) : Prop := args = #[.ref b] ∧ s.IntsAt b xs ∧ xs.length ≤ 3072 ∧ (Jvm.Cond.and given_1 narrow_1).before args s = true
def lw_Q (_ : Array Value) (s : State) (o : Outcome) (t : State) : Prop := o = .returned (some (.int 1)) ∧ Framed s o t [] 600000 7302250
def lw_Z (below : List Frame) (a : Array Value) (s : State) : State → Prop := fun t => ∃ o, t.status = .running ∧ Ended t below o ∧ lw_Q a s o t
/-- the law's own end, with 1 on the stack, nothing written that was there before, its room as the claim has it -/
theorem lw_ret {p : Program} {l : Launch} {e : Env} {s : State} {m : MethodId} {below : List Frame} {meth : Method} {c : Code} {b : Nat} (hx : p.tables.exec = Jvm.exec) (hb : c.code = code) (hr : meth.sig.returnType = ret) (hlocks : meth.locks = false) {pc : Nat} {H : Heap} {ls : Array Slot} (hdg : decode code pc = .ok (.ireturn, 1)) : W p l e room_1 s m #[Value.ref b] below meth c H [] 600000 7302250 (lw_Z below #[Value.ref b] s) (F0 m pc ls [.int 1]) := by
  intro T hT X
  obtain ⟨fs, hret, hrun, hended, hW, hframe⟩ := X.leave (v := some (.int 1)) (hlocks := hlocks) (fun h => by rw [hr] at h; cases h)
  have hmeth' : T.vm.method? m = some meth := X.method'
  refine ⟨T.setFrames fs, ?_, .returned (some (.int 1)), hrun, hended, rfl, ⟨_, rfl⟩, hW, hframe⟩
  jvm_step X.here [X.here.top, hx, hb, hdg, hmeth', hr, ret, narrow_b1]
  (try refine ⟨rfl, ?_⟩); (try refine ⟨rfl, ?_⟩)
  first | (intro acts; rw [hret _ acts rfl rfl rfl]) | rw [hret _ _ rfl rfl rfl]
  exact Steps.refl _
/-- what holds at the law's entry: the machine, the code, the tables' words (any of lw_tbl by 'hts w (by decide +kernel)'), the script of L ints xs at the cell b, what the Statement gives of the start (any of its parts by flat_of_before) -/
def lw_At (p : Program) (s : State) (m : MethodId) (meth : Method) (c : Code) (b L : Nat) (xs : Nat → Int32) : Prop :=
  p.tables.exec = Jvm.exec ∧ c.code = code ∧ meth.sig.returnType = ret ∧ c.maxLocals = 4 ∧ s.vm.findClass R_law = some m.cls ∧ (∀ w ∈ lw_tbl, w.before #[Value.ref b] s = true) ∧ va_X b L xs s s.heap ∧ b < s.heap.size ∧ meth.locks = false ∧ (Jvm.Cond.and given_1 narrow_1).before #[Value.ref b] s = true ∧ meth.name = (mY 305).name
theorem EX_made {b : Nat} {s : State} (hts : ∀ w ∈ lw_tbl, w.before #[Value.ref b] s = true) (hgv : (Jvm.Cond.and given_1 narrow_1).before #[Value.ref b] s = true) : ∃ ex adV : Nat → Nat, EX s.heap.size ex adV s s.heap ∧ ex 0 = b := by
  obtain ⟨adK, adV, hS, hev⟩ := S_made hgv
  have hf := flat_of_before _ hgv
  have hA : ∀ a : Nat, a < s.heap.size → ¬ Bq s.heap.size a := fun a h1 h2 => Nat.not_le.mpr h1 h2
  refine ⟨fun i => match i with
    | 0 => b
    | i + 1 => adK i, adV, ⟨hS, ?_, ?_, ?_, ?_, ?_, ?_⟩, rfl⟩
  · exact vk_R.of (A := #[Value.ref b]) (hts (.stringRef "GeeseSums$Tape" 26 tx1) (by decide +kernel)) (hev 0 (by decide))
  · exact vk_R.of (A := #[Value.ref b]) (hts (.stringRef "GeeseSums$Tape" 75 tx2) (by decide +kernel)) (hev 1 (by decide))
  · exact va_Zof (hts (.laysStatic "java/lang/String" "COMPACT_STRINGS" "Z") (by decide +kernel)) (hts (.initialized "java/lang/String") (by decide +kernel)) (va_eqi (hf _ (by decide +kernel))) hA
  · exact va_Zqof (hts (.laysStatic "jdk/internal/util/Preconditions" "SIOOBE_FORMATTER" "Ljava/util/function/BiFunction;") (by decide +kernel)) (hts (.initialized "jdk/internal/util/Preconditions") (by decide +kernel)) (hf _ (by decide +kernel)) hA
  · exact va_AO.of (hts (.arrayOver (.object "GeeseSums$Sky")) (by decide +kernel))
  · exact hts (.arrayOver (.array .int)) (by decide +kernel)
theorem law_end {p : Program} {e : Env} {s : State} {m : MethodId} {below : List Frame} {meth : Method} {c : Code} (l : Launch) {b L : Nat} {xs : Nat → Int32} (hL : L ≤ 3072) (C0 : lw_At p s m meth c b L xs) {d : Nat} (hd : d ≤ 900) (H : ∀ f : Int → Int, GoX ((L : Int), f) d 305 (fun x _ _ _ => x = 1) 0 [ve 0, vn, vn, vn] [] [] (fun _ _ => 0) (fun _ _ => 0) 415 41730) : W p l e room_1 s m #[Value.ref b] below meth c s.heap [] 0 0 (lw_Z below #[Value.ref b] s) (entryFrame m ([Value.ref b] : List Value).toArray 4) := by
  obtain ⟨hx, hb, hr, hml, hown, hts, hX, hbl, hlk, hgv, hn⟩ := C0
  obtain ⟨D, cA, hK⟩ := K_made hts
  obtain ⟨ex, adV, hE, he0⟩ := EX_made hts hgv
  have hCx : Cx d 305 s.heap.size cA ex adV D ((L : Int), fun j => (xs j.toNat).toInt) p s m #[Value.ref b] meth c room_1 415 41730 := ⟨hx, hb, hml, hown, fun w hw => hts w (List.mem_filter.mp hw).1, hK, hE, Or.inr ⟨L, xs, by rw [he0]; exact hX, rfl, by omega, fun j => rfl, by rw [he0]; exact hbl, by rw [he0]; exact fun z => Nat.not_le.mpr hbl z⟩, Nat.le_refl _, by show d + 6 ≤ 2048; omega, by show 60 * (d + 6) ≤ 84000; omega, by decide, by decide, hn⟩
  have hF : FinH 305 s.heap.size cA D p l e room_1 s m #[Value.ref b] below meth c (lw_Z below #[Value.ref b] s) 415 41730 (fun x _ _ _ => x = 1) := by
    intro pc H locs cells slots lsA x sh R M hH hc hs hQ hrk hdg
    cases hQ
    refine W.widen (k := 600000) (n := 7302250) (by omega) (by omega) (va_forget (fun q hq => hH.2.1.2.2 q hq) ?_)
    exact lw_ret hx hb hr hlk hdg
  have hgo := H (fun j => (xs j.toNat).toInt) p l e room_1 s m _ below meth c _ s.heap.size cA ex adV D 415 41730 hCx hF
  have hpc : tpc (mK 305) 0 = 0 := by decide +kernel
  rw [hpc] at hgo
  have hLR : LR s.heap.size ex 4 ((lg_sl [Value.ref b] ++ List.replicate (4 - (lg_sl [Value.ref b]).length) Slot.unset).toArray) (entL 4 [ve 0]) := by
    have h := LR_entry (B := s.heap.size) (ex := ex) (n := 4) (as := [ve 0]) (by decide) (fun v hv => by rw [List.mem_singleton.mp hv]; trivial)
    have e1 : ([ve 0] : List AV).map (cv s.heap.size ex) = [Value.ref b] := by
      show [Value.ref (ex (0 : Int).toNat)] = _
      rw [show (0 : Int).toNat = 0 from rfl, he0]
    rw [e1] at h
    exact h
  rw [lg_entry_eq]
  exact hgo s.heap [] 0 0 _ ⟨(fun q hq h => by simp [wo] at h), va_S.rf, by simp, fun a j h => by cases h⟩ hLR (fun v hv => by cases hv) (by omega) (by omega)
