/-! texts: the JDK's own methods over the two constants -/
theorem dJ0_isLatin1_aae02_0 : decode cJ0_isLatin1_aae02 0 = .ok (.getstatic 38, 3) := by decide +kernel
theorem dJ0_isLatin1_aae02_3 : decode cJ0_isLatin1_aae02 3 = .ok (.ifCond .eq 14, 3) := by decide +kernel
theorem dJ0_isLatin1_aae02_6 : decode cJ0_isLatin1_aae02 6 = .ok (.aload_n 0, 1) := by decide +kernel
theorem dJ0_isLatin1_aae02_7 : decode cJ0_isLatin1_aae02 7 = .ok (.getfield 15, 3) := by decide +kernel
theorem dJ0_isLatin1_aae02_10 : decode cJ0_isLatin1_aae02 10 = .ok (.ifCond .ne 7, 3) := by decide +kernel
theorem dJ0_isLatin1_aae02_13 : decode cJ0_isLatin1_aae02 13 = .ok (.iconst 1, 1) := by decide +kernel
theorem dJ0_isLatin1_aae02_14 : decode cJ0_isLatin1_aae02 14 = .ok (.goto 4, 3) := by decide +kernel
theorem dJ0_isLatin1_aae02_17 : decode cJ0_isLatin1_aae02 17 = .ok (.iconst 0, 1) := by decide +kernel
theorem dJ0_isLatin1_aae02_18 : decode cJ0_isLatin1_aae02 18 = .ok (.ireturn, 1) := by decide +kernel
theorem dJ0_coder_7d493_0 : decode cJ0_coder_7d493 0 = .ok (.getstatic 38, 3) := by decide +kernel
theorem dJ0_coder_7d493_3 : decode cJ0_coder_7d493 3 = .ok (.ifCond .eq 10, 3) := by decide +kernel
theorem dJ0_coder_7d493_6 : decode cJ0_coder_7d493 6 = .ok (.aload_n 0, 1) := by decide +kernel
theorem dJ0_coder_7d493_7 : decode cJ0_coder_7d493 7 = .ok (.getfield 15, 3) := by decide +kernel
theorem dJ0_coder_7d493_10 : decode cJ0_coder_7d493 10 = .ok (.goto 4, 3) := by decide +kernel
theorem dJ0_coder_7d493_13 : decode cJ0_coder_7d493 13 = .ok (.iconst 1, 1) := by decide +kernel
theorem dJ0_coder_7d493_14 : decode cJ0_coder_7d493 14 = .ok (.ireturn, 1) := by decide +kernel
theorem dJ0_length_8abf5_0 : decode cJ0_length_8abf5 0 = .ok (.aload_n 0, 1) := by decide +kernel
theorem dJ0_length_8abf5_1 : decode cJ0_length_8abf5 1 = .ok (.getfield 9, 3) := by decide +kernel
theorem dJ0_length_8abf5_4 : decode cJ0_length_8abf5 4 = .ok (.arraylength, 1) := by decide +kernel
theorem dJ0_length_8abf5_5 : decode cJ0_length_8abf5 5 = .ok (.aload_n 0, 1) := by decide +kernel
theorem dJ0_length_8abf5_6 : decode cJ0_length_8abf5 6 = .ok (.invokevirtual 335, 3) := by decide +kernel
theorem dJ0_length_8abf5_9 : decode cJ0_length_8abf5 9 = .ok (.ishr, 1) := by decide +kernel
theorem dJ0_length_8abf5_10 : decode cJ0_length_8abf5 10 = .ok (.ireturn, 1) := by decide +kernel
theorem dJ3_checkIndex_8e157_0 : decode cJ3_checkIndex_8e157 0 = .ok (.iload_n 0, 1) := by decide +kernel
theorem dJ3_checkIndex_8e157_1 : decode cJ3_checkIndex_8e157 1 = .ok (.ifCond .lt 8, 3) := by decide +kernel
theorem dJ3_checkIndex_8e157_4 : decode cJ3_checkIndex_8e157 4 = .ok (.iload_n 0, 1) := by decide +kernel
theorem dJ3_checkIndex_8e157_5 : decode cJ3_checkIndex_8e157 5 = .ok (.iload_n 1, 1) := by decide +kernel
theorem dJ3_checkIndex_8e157_6 : decode cJ3_checkIndex_8e157 6 = .ok (.if_icmp .lt 10, 3) := by decide +kernel
theorem dJ3_checkIndex_8e157_9 : decode cJ3_checkIndex_8e157 9 = .ok (.aload_n 2, 1) := by decide +kernel
theorem dJ3_checkIndex_8e157_10 : decode cJ3_checkIndex_8e157 10 = .ok (.iload_n 0, 1) := by decide +kernel
theorem dJ3_checkIndex_8e157_11 : decode cJ3_checkIndex_8e157 11 = .ok (.iload_n 1, 1) := by decide +kernel
theorem dJ3_checkIndex_8e157_12 : decode cJ3_checkIndex_8e157 12 = .ok (.invokestatic 95, 3) := by decide +kernel
theorem dJ3_checkIndex_8e157_15 : decode cJ3_checkIndex_8e157 15 = .ok (.athrow, 1) := by decide +kernel
theorem dJ3_checkIndex_8e157_16 : decode cJ3_checkIndex_8e157 16 = .ok (.iload_n 0, 1) := by decide +kernel
theorem dJ3_checkIndex_8e157_17 : decode cJ3_checkIndex_8e157 17 = .ok (.ireturn, 1) := by decide +kernel
theorem dJ0_checkIndex_df160_0 : decode cJ0_checkIndex_df160 0 = .ok (.iload_n 0, 1) := by decide +kernel
theorem dJ0_checkIndex_df160_1 : decode cJ0_checkIndex_df160 1 = .ok (.iload_n 1, 1) := by decide +kernel
theorem dJ0_checkIndex_df160_2 : decode cJ0_checkIndex_df160 2 = .ok (.getstatic 1053, 3) := by decide +kernel
theorem dJ0_checkIndex_df160_5 : decode cJ0_checkIndex_df160 5 = .ok (.invokestatic 1059, 3) := by decide +kernel
theorem dJ0_checkIndex_df160_8 : decode cJ0_checkIndex_df160 8 = .ok (.pop, 1) := by decide +kernel
theorem dJ0_checkIndex_df160_9 : decode cJ0_checkIndex_df160 9 = .ok (.return_, 1) := by decide +kernel
theorem dJ1_charAt_3b067_0 : decode cJ1_charAt_3b067 0 = .ok (.iload_n 1, 1) := by decide +kernel
theorem dJ1_charAt_3b067_1 : decode cJ1_charAt_3b067 1 = .ok (.aload_n 0, 1) := by decide +kernel
theorem dJ1_charAt_3b067_2 : decode cJ1_charAt_3b067 2 = .ok (.arraylength, 1) := by decide +kernel
theorem dJ1_charAt_3b067_3 : decode cJ1_charAt_3b067 3 = .ok (.invokestatic 9, 3) := by decide +kernel
theorem dJ1_charAt_3b067_6 : decode cJ1_charAt_3b067 6 = .ok (.aload_n 0, 1) := by decide +kernel
theorem dJ1_charAt_3b067_7 : decode cJ1_charAt_3b067 7 = .ok (.iload_n 1, 1) := by decide +kernel
theorem dJ1_charAt_3b067_8 : decode cJ1_charAt_3b067 8 = .ok (.baload, 1) := by decide +kernel
theorem dJ1_charAt_3b067_9 : decode cJ1_charAt_3b067 9 = .ok (.sipush 255, 3) := by decide +kernel
theorem dJ1_charAt_3b067_12 : decode cJ1_charAt_3b067 12 = .ok (.iand, 1) := by decide +kernel
theorem dJ1_charAt_3b067_13 : decode cJ1_charAt_3b067 13 = .ok (.i2c, 1) := by decide +kernel
theorem dJ1_charAt_3b067_14 : decode cJ1_charAt_3b067 14 = .ok (.ireturn, 1) := by decide +kernel
theorem dJ0_charAt_5068e_0 : decode cJ0_charAt_5068e 0 = .ok (.aload_n 0, 1) := by decide +kernel
theorem dJ0_charAt_5068e_1 : decode cJ0_charAt_5068e 1 = .ok (.invokevirtual 492, 3) := by decide +kernel
theorem dJ0_charAt_5068e_4 : decode cJ0_charAt_5068e 4 = .ok (.ifCond .eq 12, 3) := by decide +kernel
theorem dJ0_charAt_5068e_7 : decode cJ0_charAt_5068e 7 = .ok (.aload_n 0, 1) := by decide +kernel
theorem dJ0_charAt_5068e_8 : decode cJ0_charAt_5068e 8 = .ok (.getfield 9, 3) := by decide +kernel
theorem dJ0_charAt_5068e_11 : decode cJ0_charAt_5068e 11 = .ok (.iload_n 1, 1) := by decide +kernel
theorem dJ0_charAt_5068e_12 : decode cJ0_charAt_5068e 12 = .ok (.invokestatic 495, 3) := by decide +kernel
theorem dJ0_charAt_5068e_15 : decode cJ0_charAt_5068e 15 = .ok (.ireturn, 1) := by decide +kernel
theorem dJ0_charAt_5068e_16 : decode cJ0_charAt_5068e 16 = .ok (.aload_n 0, 1) := by decide +kernel
theorem dJ0_charAt_5068e_17 : decode cJ0_charAt_5068e 17 = .ok (.getfield 9, 3) := by decide +kernel
theorem dJ0_charAt_5068e_20 : decode cJ0_charAt_5068e 20 = .ok (.iload_n 1, 1) := by decide +kernel
theorem dJ0_charAt_5068e_21 : decode cJ0_charAt_5068e 21 = .ok (.invokestatic 498, 3) := by decide +kernel
theorem dJ0_charAt_5068e_24 : decode cJ0_charAt_5068e 24 = .ok (.ireturn, 1) := by decide +kernel
theorem dJ1_canEncode_9a6ad_0 : decode cJ1_canEncode_9a6ad 0 = .ok (.iload_n 0, 1) := by decide +kernel
theorem dJ1_canEncode_9a6ad_1 : decode cJ1_canEncode_9a6ad 1 = .ok (.ifCond .lt 14, 3) := by decide +kernel
theorem dJ1_canEncode_9a6ad_4 : decode cJ1_canEncode_9a6ad 4 = .ok (.iload_n 0, 1) := by decide +kernel
theorem dJ1_canEncode_9a6ad_5 : decode cJ1_canEncode_9a6ad 5 = .ok (.sipush 255, 3) := by decide +kernel
theorem dJ1_canEncode_9a6ad_8 : decode cJ1_canEncode_9a6ad 8 = .ok (.if_icmp .gt 7, 3) := by decide +kernel
theorem dJ1_canEncode_9a6ad_11 : decode cJ1_canEncode_9a6ad 11 = .ok (.iconst 1, 1) := by decide +kernel
theorem dJ1_canEncode_9a6ad_12 : decode cJ1_canEncode_9a6ad 12 = .ok (.goto 4, 3) := by decide +kernel
theorem dJ1_canEncode_9a6ad_15 : decode cJ1_canEncode_9a6ad 15 = .ok (.iconst 0, 1) := by decide +kernel
theorem dJ1_canEncode_9a6ad_16 : decode cJ1_canEncode_9a6ad 16 = .ok (.ireturn, 1) := by decide +kernel
theorem dJ1_indexOfChar_4cfef_0 : decode cJ1_indexOfChar_4cfef 0 = .ok (.iload_n 1, 1) := by decide +kernel
theorem dJ1_indexOfChar_4cfef_1 : decode cJ1_indexOfChar_4cfef 1 = .ok (.i2b, 1) := by decide +kernel
theorem dJ1_indexOfChar_4cfef_2 : decode cJ1_indexOfChar_4cfef 2 = .ok (.istore 4, 2) := by decide +kernel
theorem dJ1_indexOfChar_4cfef_4 : decode cJ1_indexOfChar_4cfef 4 = .ok (.iload_n 2, 1) := by decide +kernel
theorem dJ1_indexOfChar_4cfef_5 : decode cJ1_indexOfChar_4cfef 5 = .ok (.istore 5, 2) := by decide +kernel
theorem dJ1_indexOfChar_4cfef_7 : decode cJ1_indexOfChar_4cfef 7 = .ok (.iload 5, 2) := by decide +kernel
theorem dJ1_indexOfChar_4cfef_9 : decode cJ1_indexOfChar_4cfef 9 = .ok (.iload_n 3, 1) := by decide +kernel
theorem dJ1_indexOfChar_4cfef_10 : decode cJ1_indexOfChar_4cfef 10 = .ok (.if_icmp .ge 21, 3) := by decide +kernel
theorem dJ1_indexOfChar_4cfef_13 : decode cJ1_indexOfChar_4cfef 13 = .ok (.aload_n 0, 1) := by decide +kernel
theorem dJ1_indexOfChar_4cfef_14 : decode cJ1_indexOfChar_4cfef 14 = .ok (.iload 5, 2) := by decide +kernel
theorem dJ1_indexOfChar_4cfef_16 : decode cJ1_indexOfChar_4cfef 16 = .ok (.baload, 1) := by decide +kernel
theorem dJ1_indexOfChar_4cfef_17 : decode cJ1_indexOfChar_4cfef 17 = .ok (.iload 4, 2) := by decide +kernel
theorem dJ1_indexOfChar_4cfef_19 : decode cJ1_indexOfChar_4cfef 19 = .ok (.if_icmp .ne 6, 3) := by decide +kernel
theorem dJ1_indexOfChar_4cfef_22 : decode cJ1_indexOfChar_4cfef 22 = .ok (.iload 5, 2) := by decide +kernel
theorem dJ1_indexOfChar_4cfef_24 : decode cJ1_indexOfChar_4cfef 24 = .ok (.ireturn, 1) := by decide +kernel
theorem dJ1_indexOfChar_4cfef_25 : decode cJ1_indexOfChar_4cfef 25 = .ok (.iinc 5 1, 3) := by decide +kernel
theorem dJ1_indexOfChar_4cfef_28 : decode cJ1_indexOfChar_4cfef 28 = .ok (.goto (-21), 3) := by decide +kernel
theorem dJ1_indexOfChar_4cfef_31 : decode cJ1_indexOfChar_4cfef 31 = .ok (.iconst (-1), 1) := by decide +kernel
theorem dJ1_indexOfChar_4cfef_32 : decode cJ1_indexOfChar_4cfef 32 = .ok (.ireturn, 1) := by decide +kernel
theorem dJ1_indexOf_4cfef_0 : decode cJ1_indexOf_4cfef 0 = .ok (.iload_n 1, 1) := by decide +kernel
theorem dJ1_indexOf_4cfef_1 : decode cJ1_indexOf_4cfef 1 = .ok (.invokestatic 88, 3) := by decide +kernel
theorem dJ1_indexOf_4cfef_4 : decode cJ1_indexOf_4cfef 4 = .ok (.ifCond .ne 5, 3) := by decide +kernel
theorem dJ1_indexOf_4cfef_7 : decode cJ1_indexOf_4cfef 7 = .ok (.iconst (-1), 1) := by decide +kernel
theorem dJ1_indexOf_4cfef_8 : decode cJ1_indexOf_4cfef 8 = .ok (.ireturn, 1) := by decide +kernel
theorem dJ1_indexOf_4cfef_9 : decode cJ1_indexOf_4cfef 9 = .ok (.iload_n 2, 1) := by decide +kernel
theorem dJ1_indexOf_4cfef_10 : decode cJ1_indexOf_4cfef 10 = .ok (.iconst 0, 1) := by decide +kernel
theorem dJ1_indexOf_4cfef_11 : decode cJ1_indexOf_4cfef 11 = .ok (.invokestatic 92, 3) := by decide +kernel
theorem dJ1_indexOf_4cfef_14 : decode cJ1_indexOf_4cfef 14 = .ok (.istore_n 2, 1) := by decide +kernel
theorem dJ1_indexOf_4cfef_15 : decode cJ1_indexOf_4cfef 15 = .ok (.iload_n 3, 1) := by decide +kernel
theorem dJ1_indexOf_4cfef_16 : decode cJ1_indexOf_4cfef 16 = .ok (.aload_n 0, 1) := by decide +kernel
theorem dJ1_indexOf_4cfef_17 : decode cJ1_indexOf_4cfef 17 = .ok (.arraylength, 1) := by decide +kernel
theorem dJ1_indexOf_4cfef_18 : decode cJ1_indexOf_4cfef 18 = .ok (.invokestatic 38, 3) := by decide +kernel
theorem dJ1_indexOf_4cfef_21 : decode cJ1_indexOf_4cfef 21 = .ok (.istore_n 3, 1) := by decide +kernel
theorem dJ1_indexOf_4cfef_22 : decode cJ1_indexOf_4cfef 22 = .ok (.iload_n 2, 1) := by decide +kernel
theorem dJ1_indexOf_4cfef_23 : decode cJ1_indexOf_4cfef 23 = .ok (.iload_n 3, 1) := by decide +kernel
theorem dJ1_indexOf_4cfef_24 : decode cJ1_indexOf_4cfef 24 = .ok (.if_icmp .lt 5, 3) := by decide +kernel
theorem dJ1_indexOf_4cfef_27 : decode cJ1_indexOf_4cfef 27 = .ok (.iconst (-1), 1) := by decide +kernel
theorem dJ1_indexOf_4cfef_28 : decode cJ1_indexOf_4cfef 28 = .ok (.ireturn, 1) := by decide +kernel
theorem dJ1_indexOf_4cfef_29 : decode cJ1_indexOf_4cfef 29 = .ok (.aload_n 0, 1) := by decide +kernel
theorem dJ1_indexOf_4cfef_30 : decode cJ1_indexOf_4cfef 30 = .ok (.iload_n 1, 1) := by decide +kernel
theorem dJ1_indexOf_4cfef_31 : decode cJ1_indexOf_4cfef 31 = .ok (.iload_n 2, 1) := by decide +kernel
theorem dJ1_indexOf_4cfef_32 : decode cJ1_indexOf_4cfef 32 = .ok (.iload_n 3, 1) := by decide +kernel
theorem dJ1_indexOf_4cfef_33 : decode cJ1_indexOf_4cfef 33 = .ok (.invokestatic 95, 3) := by decide +kernel
theorem dJ1_indexOf_4cfef_36 : decode cJ1_indexOf_4cfef 36 = .ok (.ireturn, 1) := by decide +kernel
theorem dJ0_indexOf_7cf53_0 : decode cJ0_indexOf_7cf53 0 = .ok (.aload_n 0, 1) := by decide +kernel
theorem dJ0_indexOf_7cf53_1 : decode cJ0_indexOf_7cf53 1 = .ok (.invokevirtual 492, 3) := by decide +kernel
theorem dJ0_indexOf_7cf53_4 : decode cJ0_indexOf_7cf53 4 = .ok (.ifCond .eq 19, 3) := by decide +kernel
theorem dJ0_indexOf_7cf53_7 : decode cJ0_indexOf_7cf53 7 = .ok (.aload_n 0, 1) := by decide +kernel
theorem dJ0_indexOf_7cf53_8 : decode cJ0_indexOf_7cf53 8 = .ok (.getfield 9, 3) := by decide +kernel
theorem dJ0_indexOf_7cf53_11 : decode cJ0_indexOf_7cf53 11 = .ok (.iload_n 1, 1) := by decide +kernel
theorem dJ0_indexOf_7cf53_12 : decode cJ0_indexOf_7cf53 12 = .ok (.iload_n 2, 1) := by decide +kernel
theorem dJ0_indexOf_7cf53_13 : decode cJ0_indexOf_7cf53 13 = .ok (.aload_n 0, 1) := by decide +kernel
theorem dJ0_indexOf_7cf53_14 : decode cJ0_indexOf_7cf53 14 = .ok (.invokevirtual 505, 3) := by decide +kernel
theorem dJ0_indexOf_7cf53_17 : decode cJ0_indexOf_7cf53 17 = .ok (.invokestatic 637, 3) := by decide +kernel
theorem dJ0_indexOf_7cf53_20 : decode cJ0_indexOf_7cf53 20 = .ok (.goto 16, 3) := by decide +kernel
theorem dJ0_indexOf_7cf53_23 : decode cJ0_indexOf_7cf53 23 = .ok (.aload_n 0, 1) := by decide +kernel
theorem dJ0_indexOf_7cf53_24 : decode cJ0_indexOf_7cf53 24 = .ok (.getfield 9, 3) := by decide +kernel
theorem dJ0_indexOf_7cf53_27 : decode cJ0_indexOf_7cf53 27 = .ok (.iload_n 1, 1) := by decide +kernel
theorem dJ0_indexOf_7cf53_28 : decode cJ0_indexOf_7cf53 28 = .ok (.iload_n 2, 1) := by decide +kernel
theorem dJ0_indexOf_7cf53_29 : decode cJ0_indexOf_7cf53 29 = .ok (.aload_n 0, 1) := by decide +kernel
theorem dJ0_indexOf_7cf53_30 : decode cJ0_indexOf_7cf53 30 = .ok (.invokevirtual 505, 3) := by decide +kernel
theorem dJ0_indexOf_7cf53_33 : decode cJ0_indexOf_7cf53 33 = .ok (.invokestatic 640, 3) := by decide +kernel
theorem dJ0_indexOf_7cf53_36 : decode cJ0_indexOf_7cf53 36 = .ok (.ireturn, 1) := by decide +kernel
theorem dJ0_indexOf_0f7a4_0 : decode cJ0_indexOf_0f7a4 0 = .ok (.aload_n 0, 1) := by decide +kernel
theorem dJ0_indexOf_0f7a4_1 : decode cJ0_indexOf_0f7a4 1 = .ok (.iload_n 1, 1) := by decide +kernel
theorem dJ0_indexOf_0f7a4_2 : decode cJ0_indexOf_0f7a4 2 = .ok (.iconst 0, 1) := by decide +kernel
theorem dJ0_indexOf_0f7a4_3 : decode cJ0_indexOf_0f7a4 3 = .ok (.invokevirtual 633, 3) := by decide +kernel
theorem dJ0_indexOf_0f7a4_6 : decode cJ0_indexOf_0f7a4 6 = .ok (.ireturn, 1) := by decide +kernel
def JPre (B : Nat) (ex adV : Nat → Nat) (av : List Value) : Array Value → State → Prop := va_Pc av (fun U => EX B ex adV U U.heap ∧ B ≤ U.heap.size)
def JPost (v : Option Value) : Array Value → State → Outcome → State → Prop := fun _ u oc t => oc = .returned v ∧ t.heap = u.heap
def roomJ (f : Nat) : Room := { frames := f, cells := 0, slots := 0, locals := 60 * f }
def JM (f : Nat) (y : MethodName) (cC : ByteArray) (n : Nat) (ret : Option FieldType) (avf : (Nat → Nat) → (Nat → Nat) → List Value) (v : Option Value) : Prop := ∀ (l : Launch) (B : Nat) (ex adV : Nat → Nat), Met l y (Cond.code y cC n ret :: TBg) (roomJ f) (JPre B ex adV (avf ex adV)) (JPost v) 0 0 (fun _ => False)
def JF (y : MethodName) (cC : ByteArray) (n : Nat) (ret : Option FieldType) (B : Nat) (ex adV : Nat → Nat) (p : Program) (s : State) (m : MethodId) (args : Array Value) (meth : Method) (c : Code) : Prop := p.tables.exec = Jvm.exec ∧ c.code = cC ∧ c.maxLocals = n ∧ meth.sig.returnType = ret ∧ meth.locks = false ∧ s.vm.findClass y.cls = some m.cls ∧ (∀ w ∈ TBg, w.before args s = true) ∧ EX B ex adV s s.heap ∧ B ≤ s.heap.size
theorem JM_of {f : Nat} {y : MethodName} {cC : ByteArray} {n : Nat} {ret : Option FieldType} {avf : (Nat → Nat) → (Nat → Nat) → List Value} {v : Option Value} (hpl : plainName y.cls = true) (hn : ∀ ex adV, (lg_sl (avf ex adV)).length ≤ n)
    (body : ∀ (p : Program) (l : Launch) (e : Env) (s : State) (m : MethodId) (args : Array Value) (below : List Frame) (meth : Method) (c : Code) (B : Nat) (ex adV : Nat → Nat), JF y cC n ret B ex adV p s m args meth c → ∀ ls : Array Slot, lv_has ls n (lv_args 0 (avf ex adV)) → W p l e (roomJ f) s m args below meth c s.heap [] 0 0 (MQ below (JPost v) args s 0 0 (fun _ => False)) (F0 m 0 ls [])) : JM f y cC n ret avf v := by
  intro l B ex adV
  refine Met.ofW (cc := cC) (maxL := n) (ret := ret) (ws' := TBg) hpl rfl ?_
  intro p e s m args below meth c s₁ Bd hml hv
  obtain ⟨rfl, hEX, hBs⟩ := hv
  have hts := atoms_spec (ws := Cond.code y cC n ret :: TBg) Bd.pre
  rw [lg_entry_eq]
  exact body p l e s m _ below meth c B ex adV ⟨Bd.exec, Bd.bytes, hml, Bd.returns, Bd.notSynchronized, findClass_of_methodNamed Bd.named, fun w hw => hts w (List.mem_cons_of_mem _ hw), hEX, hBs⟩ _ (lv_entry (avf ex adV) (hn ex adV))
section
variable {p : Program} {l : Launch} {e : Env} {Rm : Room} {s : State} {mm : MethodId} {args : Array Value} {below : List Frame} {meth : Method} {c : Code} {Qw : State → Prop} {H : Heap} {locs : List Loc} {cells slots : Nat}
variable {B : Nat} {ex adV : Nat → Nat} {cc : ByteArray} {nL pc : Nat} {lsA : Array Slot}
theorem jret {ret : FieldType} {x : Int32} (hx : p.tables.exec = Jvm.exec) (hb : c.code = cc) (hr : meth.sig.returnType = some ret) (hlk : meth.locks = false) (hn : narrow ret (.int x) = .int x) (hdg : decode cc pc = .ok (.ireturn, 1)) : W p l e Rm s mm args below meth c s.heap [] 0 0 (MQ below (JPost (some (.int x))) args s 0 0 (fun _ => False)) (F0 mm pc lsA [.int x]) :=
  W.zret hx hb hr hn (fun t ht _ => ⟨rfl, ht⟩) (fun q hq => by cases hq) hdg hlk
theorem jretv (hx : p.tables.exec = Jvm.exec) (hb : c.code = cc) (hr : meth.sig.returnType = none) (hlk : meth.locks = false) (hdg : decode cc pc = .ok (.return_, 1)) : W p l e Rm s mm args below meth c s.heap [] 0 0 (MQ below (JPost none) args s 0 0 (fun _ => False)) (F0 mm pc lsA []) :=
  W.vret hx hb hr (fun t ht _ => ⟨rfl, ht⟩) (fun q hq => by cases hq) hdg hlk
theorem jgo {v : Option Value} {a : Array Value} {st0 rest : List Value} (hr : va_Run p l e Rm s mm args below meth c H locs cells slots 0 0 (F0 mm pc lsA st0) rest (JPost v a) (fun _ => False)) (kk : W p l e Rm s mm args below meth c H locs cells slots Qw (F0 mm (pc + 3) lsA (v.toList ++ rest))) : W p l e Rm s mm args below meth c H locs cells slots Qw (F0 mm pc lsA st0) := by
  intro T hT X
  obtain ⟨v', st₀, t, T', L, h0, X', hL, e1, e2, ⟨hv, hh⟩, stp⟩ := hr T hT X
  cases hv
  cases L with
  | cons q L => exact (hL q List.mem_cons_self).elim
  | nil =>
    rw [List.append_nil] at X'
    obtain ⟨t2, a1, b1⟩ := kk T' (by rw [e1, hh, h0]) X'
    exact ⟨t2, stp t2 a1, b1⟩
theorem JPre_blind {av : List Value} : FrameBlind (JPre B ex adV av) := fun a U g mk h => ⟨h.1, EX.same (u := U) rfl h.2.1, h.2.2⟩
theorem jB {f n na : Nat} {own : String} {index : Nat} {y : MethodName} {cC : ByteArray} {ret : Option FieldType} (hts : ∀ w ∈ TBg, w.before args s = true) (hn : n ≤ 40) (hfr : f + 1 ≤ Rm.frames) (hlo : 60 * (f + 1) ≤ Rm.locals) (h1 : Cond.methodLink own index y ∈ TBg) (h2 : Cond.initialized y.cls ∈ TBg) (h3 : Cond.code y cC n ret ∈ TBg) (h4 : y.cls ≠ "java/lang/invoke/MethodHandle" ∧ y.cls ≠ "java/lang/invoke/VarHandle" ∧ (parseMethodDescriptor y.desc).map (fun d => d.parameters.length) = some na) : CallB Rm s args own index y cC n ret (Cond.code y cC n ret :: TBg) (roomJ f) 0 0 na := by
  refine callB_of (ws' := TBg) na hts ?_ rfl rfl rfl (hts _ h2) (hts _ h1) h4 ⟨hfr, by show 8 + (n + 11) + 60 * f ≤ _; omega⟩
  intro w hw
  rcases List.mem_cons.mp hw with rfl | hw
  · exact ⟨h3, TBg_good h3⟩
  · exact ⟨hw, TBg_good hw⟩
/-- a call of a method of a text -/
theorem jcallV {f n na i : Nat} {own : String} {index : Nat} {y : MethodName} {cC : ByteArray} {ret : Option FieldType} {avf : (Nat → Nat) → (Nat → Nat) → List Value} {v : Option Value} {As rest : List Value} (hJ : JM f y cC n ret avf v) (hi : i < 2) (hav : avf ex adV = .ref (ex (i + 1)) :: As) (hlen : As.length = na) (hx : p.tables.exec = Jvm.exec) (hb : c.code = cc) (hml : c.maxLocals = nL) (hown : s.vm.findClass own = some mm.cls) (hts : ∀ w ∈ TBg, w.before args s = true) (hEX : EX B ex adV s s.heap) (hBs : B ≤ s.heap.size) (hS : va_S (Bq B) s.heap H locs) (hBH : B ≤ H.size) (hsz : lsA.size = nL) (hn : n ≤ 40) (hfr : f + 1 ≤ Rm.frames) (hlo : 60 * (f + 1) ≤ Rm.locals) (hcs : cells ≤ Rm.cells) (hss : slots ≤ Rm.slots)
    (h1 : Cond.methodLink own index y ∈ TBg) (h2 : Cond.initialized y.cls ∈ TBg) (h3 : Cond.code y cC n ret ∈ TBg) (h4 : y.cls ≠ "java/lang/invoke/MethodHandle" ∧ y.cls ≠ "java/lang/invoke/VarHandle" ∧ (parseMethodDescriptor y.desc).map (fun d => d.parameters.length) = some na) (h5 : y.cls = "java/lang/String") (h6 : Cond.instanceMethod y ∈ TBg) (h7 : Cond.selects y.cls y y ∈ TBg) (hW : (rest.map fun v => v.category).sum ≤ 8) (hdg : decode cc pc = .ok (.invokevirtual index, 3))
    (kk : W p l e Rm s mm args below meth c H locs cells slots Qw (F0 mm (pc + 3) lsA (v.toList ++ rest))) : W p l e Rm s mm args below meth c H locs cells slots Qw (F0 mm pc lsA (As.reverse ++ .ref (ex (i + 1)) :: rest)) := by
  have hB := jB (Rm := Rm) hts hn hfr hlo h1 h2 h3 h4
  have hrc := vk_recv (i := i) hEX.1 hi hS
  rw [← h5] at hrc
  refine jgo (va_runV (C := y.cls) (As := As) (rest := rest) ⟨hx, hb, hml, hown, hts⟩ (hJ l B ex adV) ⟨hB, hts _ h6, hts _ h7⟩ ⟨JPre_blind, hrc, fun U hU hW => ⟨by rw [hav], by rw [hU]; exact (hEX.warm hW).kept hS.2.1, by rw [hU]; exact hBH⟩⟩ rfl hlen hsz rfl (lv_room hW) hdg ⟨hcs, hss⟩) kk
theorem jcallS {f n na : Nat} {own : String} {index : Nat} {y : MethodName} {cC : ByteArray} {ret : Option FieldType} {avf : (Nat → Nat) → (Nat → Nat) → List Value} {v : Option Value} {As rest : List Value} (hJ : JM f y cC n ret avf v) (hav : avf ex adV = As) (hlen : As.length = na) (hx : p.tables.exec = Jvm.exec) (hb : c.code = cc) (hml : c.maxLocals = nL) (hown : s.vm.findClass own = some mm.cls) (hts : ∀ w ∈ TBg, w.before args s = true) (hEX : EX B ex adV s s.heap) (hBs : B ≤ s.heap.size) (hS : va_S (Bq B) s.heap H locs) (hBH : B ≤ H.size) (hsz : lsA.size = nL) (hn : n ≤ 40) (hfr : f + 1 ≤ Rm.frames) (hlo : 60 * (f + 1) ≤ Rm.locals) (hcs : cells ≤ Rm.cells) (hss : slots ≤ Rm.slots)
    (h1 : Cond.methodLink own index y ∈ TBg) (h2 : Cond.initialized y.cls ∈ TBg) (h3 : Cond.code y cC n ret ∈ TBg) (h4 : y.cls ≠ "java/lang/invoke/MethodHandle" ∧ y.cls ≠ "java/lang/invoke/VarHandle" ∧ (parseMethodDescriptor y.desc).map (fun d => d.parameters.length) = some na) (h6 : Cond.static y ∈ TBg) (hW : (rest.map fun v => v.category).sum ≤ 8) (hdg : decode cc pc = .ok (.invokestatic index, 3))
    (kk : W p l e Rm s mm args below meth c H locs cells slots Qw (F0 mm (pc + 3) lsA (v.toList ++ rest))) : W p l e Rm s mm args below meth c H locs cells slots Qw (F0 mm pc lsA (As.reverse ++ rest)) := by
  have hB := jB (Rm := Rm) hts hn hfr hlo h1 h2 h3 h4
  refine jgo (va_runS (As := As) (rest := rest) ⟨hx, hb, hml, hown, hts⟩ (hJ l B ex adV) ⟨hB, hts _ h6⟩ ⟨JPre_blind, fun U hU hW => ⟨by rw [hav], by rw [hU]; exact (hEX.warm hW).kept hS.2.1, by rw [hU]; exact hBH⟩⟩ rfl hlen hsz rfl (lv_room hW) hdg ⟨hcs, hss⟩) kk
end
set_option maxRecDepth 10000 in
theorem j_isLatin1 {i : Nat} (hi : i < 2) : JM 0 yJ0_isLatin1_aae02 cJ0_isLatin1_aae02 1 (some .boolean) (fun ex adV => [.ref (ex (i + 1))]) (some (.int 1)) := by
  refine JM_of (by decide +kernel) (fun _ _ => by simp [lg_sl, Value.category]) ?_
  intro p l e s m args below meth c B ex adV hF ls hl
  obtain ⟨hx, hb, hml, hr, hlk, hown, hts, hEX, hBs⟩ := hF
  have hown : s.vm.findClass "java/lang/String" = some m.cls := hown
  have hS : va_S (Bq B) s.heap s.heap [] := va_S.rf
  obtain ⟨-, h2, h3, h4⟩ := hEX.1.1 i hi
  refine va_gets hx hb hEX.2.2.2.1 hS hown (hts _ (wdq_mem (q := 275) (w := .fieldLink "java/lang/String" 38 "java/lang/String" "COMPACT_STRINGS" "Z") (by decide +kernel))) (fun _ z => z) dJ0_isLatin1_aae02_0 ?_
  refine lv_if_eq (tgt := 17) hx hb dJ0_isLatin1_aae02_3 (by decide) (fun z => absurd z (by decide)) (fun _ => ?_)
  refine lv_aload_n hx hb dJ0_isLatin1_aae02_6 rfl (lv_at hl 0 rfl) ?_
  refine vk_getf hx hb h2 hS hown (hts _ (wdq_mem (q := 2056) (w := .fieldLink "java/lang/String" 15 "java/lang/String" "coder" "B") (by decide +kernel))) (fun _ z => z) dJ0_isLatin1_aae02_7 ?_
  refine lv_if_ne (tgt := 17) hx hb dJ0_isLatin1_aae02_10 (by decide) (fun z => absurd rfl z) (fun _ => ?_)
  refine lv_iconst (v := 1) hx hb dJ0_isLatin1_aae02_13 (by decide) ?_
  refine lv_goto (tgt := 18) hx hb dJ0_isLatin1_aae02_14 (by decide) ?_
  exact jret hx hb hr hlk rfl dJ0_isLatin1_aae02_18
set_option maxRecDepth 10000 in
theorem j_coder {i : Nat} (hi : i < 2) : JM 0 yJ0_coder_7d493 cJ0_coder_7d493 1 (some .byte) (fun ex adV => [.ref (ex (i + 1))]) (some (.int 0)) := by
  refine JM_of (by decide +kernel) (fun _ _ => by simp [lg_sl, Value.category]) ?_
  intro p l e s m args below meth c B ex adV hF ls hl
  obtain ⟨hx, hb, hml, hr, hlk, hown, hts, hEX, hBs⟩ := hF
  have hown : s.vm.findClass "java/lang/String" = some m.cls := hown
  have hS : va_S (Bq B) s.heap s.heap [] := va_S.rf
  obtain ⟨-, h2, h3, h4⟩ := hEX.1.1 i hi
  refine va_gets hx hb hEX.2.2.2.1 hS hown (hts _ (wdq_mem (q := 275) (w := .fieldLink "java/lang/String" 38 "java/lang/String" "COMPACT_STRINGS" "Z") (by decide +kernel))) (fun _ z => z) dJ0_coder_7d493_0 ?_
  refine lv_if_eq (tgt := 13) hx hb dJ0_coder_7d493_3 (by decide) (fun z => absurd z (by decide)) (fun _ => ?_)
  refine lv_aload_n hx hb dJ0_coder_7d493_6 rfl (lv_at hl 0 rfl) ?_
  refine vk_getf hx hb h2 hS hown (hts _ (wdq_mem (q := 2056) (w := .fieldLink "java/lang/String" 15 "java/lang/String" "coder" "B") (by decide +kernel))) (fun _ z => z) dJ0_coder_7d493_7 ?_
  refine lv_goto (tgt := 14) hx hb dJ0_coder_7d493_10 (by decide) ?_
  exact jret hx hb hr hlk rfl dJ0_coder_7d493_14
theorem shr0 (i : Nat) (hi : i < 2) : (Int32.ofNat (lens.getD i 0)) >>> ((0 : Int32) &&& 31) = Int32.ofNat (lens.getD i 0) := by
  match i, hi with
  | 0, _ => decide
  | 1, _ => decide
set_option maxRecDepth 10000 in
theorem j_length {i : Nat} (hi : i < 2) : JM 1 yJ0_length_8abf5 cJ0_length_8abf5 1 (some .int) (fun ex adV => [.ref (ex (i + 1))]) (some (.int (Int32.ofNat (lens.getD i 0)))) := by
  refine JM_of (by decide +kernel) (fun _ _ => by simp [lg_sl, Value.category]) ?_
  intro p l e s m args below meth c B ex adV hF ls hl
  obtain ⟨hx, hb, hml, hr, hlk, hown, hts, hEX, hBs⟩ := hF
  have hown : s.vm.findClass "java/lang/String" = some m.cls := hown
  have hS : va_S (Bq B) s.heap s.heap [] := va_S.rf
  obtain ⟨-, h2, h3, h4⟩ := hEX.1.1 i hi
  refine lv_aload_n hx hb dJ0_length_8abf5_0 rfl (lv_at hl 0 rfl) ?_
  refine vk_getf hx hb h3 hS hown (hts _ (wdq_mem (q := 2055) (w := .fieldLink "java/lang/String" 9 "java/lang/String" "value" "[B") (by decide +kernel))) (fun _ z => z) dJ0_length_8abf5_1 ?_
  refine va_tlen hx hb h4 hS rfl dJ0_length_8abf5_4 ?_
  refine lv_aload_n hx hb dJ0_length_8abf5_5 rfl (lv_at hl 0 rfl) ?_
  refine jcallV (na := 0) (As := []) (j_coder hi) hi rfl rfl hx hb hml hown hts hEX hBs hS hBs hl.1 (by decide) (by decide) (by decide) (Nat.zero_le _) (Nat.zero_le _) (wdq_mem (q := 271) (by decide +kernel)) (wdq_mem (q := 124) (by decide +kernel)) (wdq_mem (q := 274) (by decide +kernel)) (by decide +kernel) rfl (wdq_mem (q := 272) (by decide +kernel)) (wdq_mem (q := 273) (by decide +kernel)) (by simp [Value.category]) dJ0_length_8abf5_6 ?_
  refine lv_ishr hx hb dJ0_length_8abf5_9 ?_
  rw [shr0 i hi]
  exact jret hx hb hr hlk rfl dJ0_length_8abf5_10
set_option maxRecDepth 10000 in
theorem j_pcheck {k n : Nat} {w : Option Nat} (hk : k < n) (hn : n < 1000) : JM 0 yJ3_checkIndex_8e157 cJ3_checkIndex_8e157 3 (some .int) (fun ex adV => [.int (Int32.ofNat k), .int (Int32.ofNat n), va_rf w]) (some (.int (Int32.ofNat k))) := by
  refine JM_of (by decide +kernel) (fun _ _ => by cases w <;> simp [lg_sl, Value.category, va_rf]) ?_
  intro p l e s m args below meth c B ex adV hF ls hl
  obtain ⟨hx, hb, hml, hr, hlk, hown, hts, hEX, hBs⟩ := hF
  have hown : s.vm.findClass "jdk/internal/util/Preconditions" = some m.cls := hown
  have hS : va_S (Bq B) s.heap s.heap [] := va_S.rf

  have hl : lv_has ls 3 [(0, .int (Int32.ofNat k)), (1, .int (Int32.ofNat n))] := lv_has_of hl (fun q hq => by
    simp only [List.mem_cons, List.not_mem_nil, or_false] at hq
    rcases hq with rfl | rfl
    · exact List.mem_cons_self
    · exact List.mem_cons_of_mem _ List.mem_cons_self)
  refine lv_iload_n hx hb dJ3_checkIndex_8e157_0 rfl (lv_at hl 0 rfl) ?_
  refine lv_if_lt (tgt := 9) hx hb dJ3_checkIndex_8e157_1 (by decide) (fun z => absurd z (nI_pos (by omega))) (fun _ => ?_)
  refine lv_iload_n hx hb dJ3_checkIndex_8e157_4 rfl (lv_at hl 0 rfl) ?_
  refine lv_iload_n hx hb dJ3_checkIndex_8e157_5 rfl (lv_at hl 1 rfl) ?_
  refine lv_icmp_lt (tgt := 16) hx hb dJ3_checkIndex_8e157_6 (by decide) (fun _ => ?_) (fun z => absurd (nI_lt hk (by omega)) z)
  refine lv_iload_n hx hb dJ3_checkIndex_8e157_16 rfl (lv_at hl 0 rfl) ?_
  exact jret hx hb hr hlk rfl dJ3_checkIndex_8e157_17
set_option maxRecDepth 10000 in
theorem j_check {k n : Nat} (hk : k < n) (hn : n < 1000) : JM 1 yJ0_checkIndex_df160 cJ0_checkIndex_df160 2 none (fun ex adV => [.int (Int32.ofNat k), .int (Int32.ofNat n)]) none := by
  refine JM_of (by decide +kernel) (fun _ _ => by simp [lg_sl, Value.category]) ?_
  intro p l e s m args below meth c B ex adV hF ls hl
  obtain ⟨hx, hb, hml, hr, hlk, hown, hts, hEX, hBs⟩ := hF
  have hown : s.vm.findClass "java/lang/String" = some m.cls := hown
  have hS : va_S (Bq B) s.heap s.heap [] := va_S.rf

  refine lv_iload_n hx hb dJ0_checkIndex_df160_0 rfl (lv_at hl 0 rfl) ?_
  refine lv_iload_n hx hb dJ0_checkIndex_df160_1 rfl (lv_at hl 1 rfl) ?_
  have key : ∀ w : Option Nat, va_Z "jdk/internal/util/Preconditions" "SIOOBE_FORMATTER" "Ljava/util/function/BiFunction;" (va_rf w) (Bq B) s s.heap → W p l e (roomJ 1) s m args below meth c s.heap [] 0 0 (MQ below (JPost none) args s 0 0 (fun _ => False)) (F0 m 2 ls [.int (Int32.ofNat n), .int (Int32.ofNat k)]) := fun w hw => by
    refine va_gets hx hb hw hS hown (hts _ (wdq_mem (q := 291) (w := .fieldLink "java/lang/String" 1053 "jdk/internal/util/Preconditions" "SIOOBE_FORMATTER" "Ljava/util/function/BiFunction;") (by decide +kernel))) (fun _ z => z) dJ0_checkIndex_df160_2 ?_
    refine jcallS (na := 3) (As := [.int (Int32.ofNat k), .int (Int32.ofNat n), va_rf w]) (rest := []) (j_pcheck (w := w) hk hn) rfl rfl hx hb hml hown hts hEX hBs hS hBs hl.1 (by decide) (by decide) (by decide) (Nat.zero_le _) (Nat.zero_le _) (wdq_mem (q := 293) (by decide +kernel)) (wdq_mem (q := 126) (by decide +kernel)) (wdq_mem (q := 295) (by decide +kernel)) (by decide +kernel) (wdq_mem (q := 294) (by decide +kernel)) (by simp) dJ0_checkIndex_df160_5 ?_
    refine lv_pop hx hb dJ0_checkIndex_df160_8 rfl ?_
    exact jretv hx hb hr hlk dJ0_checkIndex_df160_9
  rcases hEX.2.2.2.2.1 with h | ⟨t, h⟩
  · exact key none h
  · exact key (some t) h
/-- the k-th sign of a text -/
def chB (i k : Nat) : Int32 := (byts.getD i []).getD k 0
theorem chB_255 : ∀ i, i < 2 → ∀ k, k < lens.getD i 0 → ((chB i k &&& 255).toUInt32 % 65536).toInt32 = chB i k ∧ narrow .char (.int (chB i k)) = .int (chB i k) ∧ chB i k = Int32.ofInt ((strB (i + 1)).getD k 0) ∧ -2147483648 ≤ (strB (i + 1)).getD k 0 ∧ (strB (i + 1)).getD k 0 < 128 ∧ 0 ≤ (strB (i + 1)).getD k 0 := by decide +kernel
theorem lens_lt : ∀ i, i < 2 → lens.getD i 0 < 1000 ∧ (strB (i + 1)).length = lens.getD i 0 ∧ 0 < lens.getD i 0 := by decide +kernel
set_option maxRecDepth 10000 in
theorem j_lcharAt {i k : Nat} (hi : i < 2) (hk : k < lens.getD i 0) : JM 2 yJ1_charAt_3b067 cJ1_charAt_3b067 2 (some .char) (fun ex adV => [.ref (adV i), .int (Int32.ofNat k)]) (some (.int (chB i k))) := by
  refine JM_of (by decide +kernel) (fun _ _ => by simp [lg_sl, Value.category]) ?_
  intro p l e s m args below meth c B ex adV hF ls hl
  obtain ⟨hx, hb, hml, hr, hlk, hown, hts, hEX, hBs⟩ := hF
  have hown : s.vm.findClass "java/lang/StringLatin1" = some m.cls := hown
  have hS : va_S (Bq B) s.heap s.heap [] := va_S.rf
  obtain ⟨-, h2, h3, h4⟩ := hEX.1.1 i hi
  obtain ⟨g1, g2, -⟩ := chB_255 i hi k hk
  have g3 := (lens_lt i hi).1
  refine lv_iload_n hx hb dJ1_charAt_3b067_0 rfl (lv_at hl 1 rfl) ?_
  refine lv_aload_n hx hb dJ1_charAt_3b067_1 rfl (lv_at hl 0 rfl) ?_
  refine va_tlen hx hb h4 hS rfl dJ1_charAt_3b067_2 ?_
  refine jcallS (na := 2) (As := [.int (Int32.ofNat k), .int (Int32.ofNat (lens.getD i 0))]) (rest := []) (j_check hk g3) rfl rfl hx hb hml hown hts hEX hBs hS hBs hl.1 (by decide) (by decide) (by decide) (Nat.zero_le _) (Nat.zero_le _) (wdq_mem (q := 288) (by decide +kernel)) (wdq_mem (q := 124) (by decide +kernel)) (wdq_mem (q := 290) (by decide +kernel)) (by decide +kernel) (wdq_mem (q := 289) (by decide +kernel)) (by simp) dJ1_charAt_3b067_3 ?_
  refine lv_aload_n hx hb dJ1_charAt_3b067_6 rfl (lv_at hl 0 rfl) ?_
  refine lv_iload_n hx hb dJ1_charAt_3b067_7 rfl (lv_at hl 1 rfl) ?_
  refine va_tb hx hb h4 hS (vp_in_nI hk (by omega)) (v := .int (chB i k)) (by rw [show (Int32.ofNat k).toNatClampNeg = k from nI_clamp (by omega)]; rfl) dJ1_charAt_3b067_8 ?_
  refine lv_sipush (v := 255) hx hb dJ1_charAt_3b067_9 (by decide) ?_
  refine lv_iand hx hb dJ1_charAt_3b067_12 ?_
  refine lv_i2c hx hb dJ1_charAt_3b067_13 g1 ?_
  exact jret hx hb hr hlk g2 dJ1_charAt_3b067_14
set_option maxRecDepth 10000 in
theorem j_charAt {i k : Nat} (hi : i < 2) (hk : k < lens.getD i 0) : JM 3 yJ0_charAt_5068e cJ0_charAt_5068e 2 (some .char) (fun ex adV => [.ref (ex (i + 1)), .int (Int32.ofNat k)]) (some (.int (chB i k))) := by
  refine JM_of (by decide +kernel) (fun _ _ => by simp [lg_sl, Value.category]) ?_
  intro p l e s m args below meth c B ex adV hF ls hl
  obtain ⟨hx, hb, hml, hr, hlk, hown, hts, hEX, hBs⟩ := hF
  have hown : s.vm.findClass "java/lang/String" = some m.cls := hown
  have hS : va_S (Bq B) s.heap s.heap [] := va_S.rf
  obtain ⟨-, h2, h3, h4⟩ := hEX.1.1 i hi
  obtain ⟨g1, g2, -⟩ := chB_255 i hi k hk
  refine lv_aload_n hx hb dJ0_charAt_5068e_0 rfl (lv_at hl 0 rfl) ?_
  refine jcallV (na := 0) (As := []) (rest := []) (j_isLatin1 hi) hi rfl rfl hx hb hml hown hts hEX hBs hS hBs hl.1 (by decide) (by decide) (by decide) (Nat.zero_le _) (Nat.zero_le _) (wdq_mem (q := 281) (by decide +kernel)) (wdq_mem (q := 124) (by decide +kernel)) (wdq_mem (q := 284) (by decide +kernel)) (by decide +kernel) rfl (wdq_mem (q := 282) (by decide +kernel)) (wdq_mem (q := 283) (by decide +kernel)) (by simp) dJ0_charAt_5068e_1 ?_
  refine lv_if_eq (tgt := 16) hx hb dJ0_charAt_5068e_4 (by decide) (fun z => absurd z (by decide)) (fun _ => ?_)
  refine lv_aload_n hx hb dJ0_charAt_5068e_7 rfl (lv_at hl 0 rfl) ?_
  refine vk_getf hx hb h3 hS hown (hts _ (wdq_mem (q := 2055) (w := .fieldLink "java/lang/String" 9 "java/lang/String" "value" "[B") (by decide +kernel))) (fun _ z => z) dJ0_charAt_5068e_8 ?_
  refine lv_iload_n hx hb dJ0_charAt_5068e_11 rfl (lv_at hl 1 rfl) ?_
  refine jcallS (na := 2) (As := [.ref (adV i), .int (Int32.ofNat k)]) (rest := []) (j_lcharAt hi hk) rfl rfl hx hb hml hown hts hEX hBs hS hBs hl.1 (by decide) (by decide) (by decide) (Nat.zero_le _) (Nat.zero_le _) (wdq_mem (q := 285) (by decide +kernel)) (wdq_mem (q := 125) (by decide +kernel)) (wdq_mem (q := 287) (by decide +kernel)) (by decide +kernel) (wdq_mem (q := 286) (by decide +kernel)) (by simp) dJ0_charAt_5068e_12 ?_
  exact jret hx hb hr hlk g2 dJ0_charAt_5068e_15
set_option maxRecDepth 10000 in
theorem j_canEncode {x : Int32} : JM 0 yJ1_canEncode_9a6ad cJ1_canEncode_9a6ad 1 (some .boolean) (fun ex adV => [.int x]) (some (.int (if x < 0 then 0 else if 255 < x then 0 else 1))) := by
  refine JM_of (by decide +kernel) (fun _ _ => by simp [lg_sl, Value.category]) ?_
  intro p l e s m args below meth c B ex adV hF ls hl
  obtain ⟨hx, hb, hml, hr, hlk, hown, hts, hEX, hBs⟩ := hF
  have hown : s.vm.findClass "java/lang/StringLatin1" = some m.cls := hown
  have hS : va_S (Bq B) s.heap s.heap [] := va_S.rf

  refine lv_iload_n hx hb dJ1_canEncode_9a6ad_0 rfl (lv_at hl 0 rfl) ?_
  refine lv_if_lt (tgt := 15) hx hb dJ1_canEncode_9a6ad_1 (by decide) (fun z => ?_) (fun z => ?_)
  · refine lv_iconst (v := 0) hx hb dJ1_canEncode_9a6ad_15 (by decide) ?_
    rw [if_pos z]
    exact jret hx hb hr hlk rfl dJ1_canEncode_9a6ad_16
  · refine lv_iload_n hx hb dJ1_canEncode_9a6ad_4 rfl (lv_at hl 0 rfl) ?_
    refine lv_sipush (v := 255) hx hb dJ1_canEncode_9a6ad_5 (by decide) ?_
    refine lv_icmp_gt (tgt := 15) hx hb dJ1_canEncode_9a6ad_8 (by decide) (fun z2 => ?_) (fun z2 => ?_)
    · refine lv_iconst (v := 0) hx hb dJ1_canEncode_9a6ad_15 (by decide) ?_
      rw [if_neg z, if_pos z2]
      exact jret hx hb hr hlk rfl dJ1_canEncode_9a6ad_16
    · refine lv_iconst (v := 1) hx hb dJ1_canEncode_9a6ad_11 (by decide) ?_
      refine lv_goto (tgt := 16) hx hb dJ1_canEncode_9a6ad_12 (by decide) ?_
      rw [if_neg z, if_neg z2]
      exact jret hx hb hr hlk rfl dJ1_canEncode_9a6ad_16
/-- where a sign of one byte is first, from place k on; -1 if nowhere -/
def ixB (i : Nat) (x : Int32) : Nat → Nat → Int32
  | 0, _ => -1
  | n + 1, k => if chB i k = x then Int32.ofNat k else ixB i x n (k + 1)
set_option maxRecDepth 10000 in
theorem j_ixc {i : Nat} {x : Int32} (hi : i < 2) : JM 0 yJ1_indexOfChar_4cfef cJ1_indexOfChar_4cfef 6 (some .int) (fun ex adV => [.ref (adV i), .int x, .int 0, .int (Int32.ofNat (lens.getD i 0))]) (some (.int (ixB i x.toInt8.toInt32 (lens.getD i 0) 0))) := by
  refine JM_of (by decide +kernel) (fun _ _ => by simp [lg_sl, Value.category]) ?_
  intro p l e s m args below meth c B ex adV hF ls hl
  obtain ⟨hx, hb, hml, hr, hlk, hown, hts, hEX, hBs⟩ := hF
  have hown : s.vm.findClass "java/lang/StringLatin1" = some m.cls := hown
  have hS : va_S (Bq B) s.heap s.heap [] := va_S.rf
  obtain ⟨-, h2, h3, h4⟩ := hEX.1.1 i hi
  have g3 := (lens_lt i hi).1
  have hl : lv_has ls 6 [(0, .ref (adV i)), (1, .int x), (2, .int 0), (3, .int (Int32.ofNat (lens.getD i 0)))] := hl
  refine lv_iload_n hx hb dJ1_indexOfChar_4cfef_0 rfl (lv_at hl 1 rfl) ?_
  refine lv_i2b hx hb dJ1_indexOfChar_4cfef_1 rfl ?_
  refine lv_istore (lv' := [(4, .int x.toInt8.toInt32), (0, .ref (adV i)), (1, .int x), (2, .int 0), (3, .int (Int32.ofNat (lens.getD i 0)))]) hx hb dJ1_indexOfChar_4cfef_2 hl (by decide) rfl (fun ls hl => ?_)
  refine lv_iload_n hx hb dJ1_indexOfChar_4cfef_4 rfl (lv_at hl 3 rfl) ?_
  refine lv_istore (lv' := [(5, .int 0), (4, .int x.toInt8.toInt32), (0, .ref (adV i)), (1, .int x), (2, .int 0), (3, .int (Int32.ofNat (lens.getD i 0)))]) hx hb dJ1_indexOfChar_4cfef_5 hl (by decide) rfl (fun ls hl => ?_)
  have key : ∀ (n k : Nat), k + n = lens.getD i 0 → ixB i x.toInt8.toInt32 (lens.getD i 0) 0 = ixB i x.toInt8.toInt32 n k → ∀ ls : Array Slot, lv_has ls 6 [(5, .int (Int32.ofNat k)), (4, .int x.toInt8.toInt32), (0, .ref (adV i)), (3, .int (Int32.ofNat (lens.getD i 0)))] → W p l e (roomJ 0) s m args below meth c s.heap [] 0 0 (MQ below (JPost (some (.int (ixB i x.toInt8.toInt32 (lens.getD i 0) 0)))) args s 0 0 (fun _ => False)) (F0 m 7 ls []) := by
    intro n
    induction n with
    | zero =>
      intro k hk he ls hl
      refine lv_iload hx hb dJ1_indexOfChar_4cfef_7 (lv_at hl 0 rfl) ?_
      refine lv_iload_n hx hb dJ1_indexOfChar_4cfef_9 rfl (lv_at hl 3 rfl) ?_
      refine lv_icmp_ge (tgt := 31) hx hb dJ1_indexOfChar_4cfef_10 (by decide) (fun _ => ?_) (fun z => absurd (nI_le (by omega) (by omega)) z)
      refine lv_iconst (v := -1) hx hb dJ1_indexOfChar_4cfef_31 (by decide) ?_
      rw [he]
      exact jret hx hb hr hlk rfl dJ1_indexOfChar_4cfef_32
    | succ n ih =>
      intro k hk he ls hl
      refine lv_iload hx hb dJ1_indexOfChar_4cfef_7 (lv_at hl 0 rfl) ?_
      refine lv_iload_n hx hb dJ1_indexOfChar_4cfef_9 rfl (lv_at hl 3 rfl) ?_
      refine lv_icmp_ge (tgt := 31) hx hb dJ1_indexOfChar_4cfef_10 (by decide) (fun z => absurd z (nI_ge (by omega) (by omega))) (fun _ => ?_)
      refine lv_aload_n hx hb dJ1_indexOfChar_4cfef_13 rfl (lv_at hl 2 rfl) ?_
      refine lv_iload hx hb dJ1_indexOfChar_4cfef_14 (lv_at hl 0 rfl) ?_
      refine va_tb hx hb h4 hS (vp_in_nI (by omega) (by omega)) (v := .int (chB i k)) (by rw [show (Int32.ofNat k).toNatClampNeg = k from nI_clamp (by omega)]; rfl) dJ1_indexOfChar_4cfef_16 ?_
      refine lv_iload hx hb dJ1_indexOfChar_4cfef_17 (lv_at hl 1 rfl) ?_
      refine lv_icmp_ne (tgt := 25) hx hb dJ1_indexOfChar_4cfef_19 (by decide) (fun z => ?_) (fun z => ?_)
      · refine lv_iinc (v := Int32.ofNat (k + 1)) (lv' := [(5, .int (Int32.ofNat (k + 1))), (4, .int x.toInt8.toInt32), (0, .ref (adV i)), (3, .int (Int32.ofNat (lens.getD i 0)))]) hx hb dJ1_indexOfChar_4cfef_25 hl (k := 0) rfl (nI_succ k).symm (by decide) rfl (fun ls hl => ?_)
        refine lv_goto (tgt := 7) hx hb dJ1_indexOfChar_4cfef_28 (by decide) ?_
        exact ih (k + 1) (by omega) (by rw [he]; exact if_neg z) ls hl
      · have z : chB i k = x.toInt8.toInt32 := by first | exact z | exact Decidable.not_not.mp z
        refine lv_iload hx hb dJ1_indexOfChar_4cfef_22 (lv_at hl 0 rfl) ?_
        rw [he, show ixB i x.toInt8.toInt32 (n + 1) k = Int32.ofNat k from if_pos z]
        exact jret hx hb hr hlk rfl dJ1_indexOfChar_4cfef_24
  exact key (lens.getD i 0) 0 (by omega) rfl ls (lv_sub hl [0, 1, 2, 5] rfl)
/-- what indexOf answers -/
def ixJ (i : Nat) (x : Int32) : Int32 := if (if x < 0 then (0 : Int32) else if 255 < x then 0 else 1) = 0 then -1 else ixB i x.toInt8.toInt32 (lens.getD i 0) 0
set_option maxRecDepth 10000 in
theorem j_lindexOf {i : Nat} {x : Int32} (hi : i < 2) : JM 1 yJ1_indexOf_4cfef cJ1_indexOf_4cfef 4 (some .int) (fun ex adV => [.ref (adV i), .int x, .int 0, .int (Int32.ofNat (lens.getD i 0))]) (some (.int (ixJ i x))) := by
  refine JM_of (by decide +kernel) (fun _ _ => by simp [lg_sl, Value.category]) ?_
  intro p l e s m args below meth c B ex adV hF ls hl
  obtain ⟨hx, hb, hml, hr, hlk, hown, hts, hEX, hBs⟩ := hF
  have hown : s.vm.findClass "java/lang/StringLatin1" = some m.cls := hown
  have hS : va_S (Bq B) s.heap s.heap [] := va_S.rf
  obtain ⟨-, h2, h3, h4⟩ := hEX.1.1 i hi
  obtain ⟨g3, -, g5⟩ := lens_lt i hi
  have hl : lv_has ls 4 [(0, .ref (adV i)), (1, .int x), (2, .int 0), (3, .int (Int32.ofNat (lens.getD i 0)))] := hl
  refine lv_iload_n hx hb dJ1_indexOf_4cfef_0 rfl (lv_at hl 1 rfl) ?_
  refine jcallS (na := 1) (As := [.int x]) (rest := []) j_canEncode rfl rfl hx hb hml hown hts hEX hBs hS hBs hl.1 (by decide) (by decide) (by decide) (Nat.zero_le _) (Nat.zero_le _) (wdq_mem (q := 742) (by decide +kernel)) (wdq_mem (q := 125) (by decide +kernel)) (wdq_mem (q := 744) (by decide +kernel)) (by decide +kernel) (wdq_mem (q := 743) (by decide +kernel)) (by simp) dJ1_indexOf_4cfef_1 ?_
  refine lv_if_ne (tgt := 9) hx hb dJ1_indexOf_4cfef_4 (by decide) (fun z => ?_) (fun z => ?_)
  · refine lv_iload_n hx hb dJ1_indexOf_4cfef_9 rfl (lv_at hl 2 rfl) ?_
    refine lv_iconst (v := 0) hx hb dJ1_indexOf_4cfef_10 (by decide) ?_
    refine va_mmax hx hb (by rw [hml, hl.1]) hown (hts _ (wdq_mem (q := 745) (w := .methodLink "java/lang/StringLatin1" 92 Lib.Math.max.name) (by decide +kernel))) (hts _ (wdq_mem (q := 746) (w := .static Lib.Math.max.name) (by decide +kernel))) (hts _ (wdq_mem (q := 138) (w := .initialized "java/lang/Math") (by decide +kernel))) (hts _ (wdq_mem (q := 747) (w := .code Lib.Math.max.name Lib.Math.max.code 2 (some .int)) (by decide +kernel))) (by decide) (by simp [roomJ]) (Nat.zero_le _) (Nat.zero_le _) dJ1_indexOf_4cfef_11 ?_
    rw [show (if (0 : Int32) < 0 then (0 : Int32) else 0) = 0 from by decide]
    refine lv_istore_n (lv' := [(2, .int 0), (0, .ref (adV i)), (1, .int x), (3, .int (Int32.ofNat (lens.getD i 0)))]) hx hb dJ1_indexOf_4cfef_14 rfl hl (by decide) rfl (fun ls hl => ?_)
    refine lv_iload_n hx hb dJ1_indexOf_4cfef_15 rfl (lv_at hl 3 rfl) ?_
    refine lv_aload_n hx hb dJ1_indexOf_4cfef_16 rfl (lv_at hl 1 rfl) ?_
    refine va_tlen hx hb h4 hS rfl dJ1_indexOf_4cfef_17 ?_
    refine va_mmin hx hb (by rw [hml, hl.1]) hown (hts _ (wdq_mem (q := 748) (w := .methodLink "java/lang/StringLatin1" 38 Lib.Math.min.name) (by decide +kernel))) (hts _ (wdq_mem (q := 749) (w := .static Lib.Math.min.name) (by decide +kernel))) (hts _ (wdq_mem (q := 138) (w := .initialized "java/lang/Math") (by decide +kernel))) (hts _ (wdq_mem (q := 750) (w := .code Lib.Math.min.name Lib.Math.min.code 2 (some .int)) (by decide +kernel))) (by decide) (by simp [roomJ]) (Nat.zero_le _) (Nat.zero_le _) dJ1_indexOf_4cfef_18 ?_
    rw [ite_self]
    refine lv_istore_n (lv' := [(3, .int (Int32.ofNat (lens.getD i 0))), (2, .int 0), (0, .ref (adV i)), (1, .int x)]) hx hb dJ1_indexOf_4cfef_21 rfl hl (by decide) rfl (fun ls hl => ?_)
    refine lv_iload_n hx hb dJ1_indexOf_4cfef_22 rfl (lv_at hl 1 rfl) ?_
    refine lv_iload_n hx hb dJ1_indexOf_4cfef_23 rfl (lv_at hl 0 rfl) ?_
    refine lv_icmp_lt (tgt := 29) hx hb dJ1_indexOf_4cfef_24 (by decide) (fun _ => ?_) (fun z2 => absurd (show (0 : Int32) < Int32.ofNat (lens.getD i 0) from nI_lt (a := 0) g5 (by omega)) z2)
    refine lv_aload_n hx hb dJ1_indexOf_4cfef_29 rfl (lv_at hl 2 rfl) ?_
    refine lv_iload_n hx hb dJ1_indexOf_4cfef_30 rfl (lv_at hl 3 rfl) ?_
    refine lv_iload_n hx hb dJ1_indexOf_4cfef_31 rfl (lv_at hl 1 rfl) ?_
    refine lv_iload_n hx hb dJ1_indexOf_4cfef_32 rfl (lv_at hl 0 rfl) ?_
    refine jcallS (na := 4) (As := [.ref (adV i), .int x, .int 0, .int (Int32.ofNat (lens.getD i 0))]) (rest := []) (j_ixc hi) rfl rfl hx hb hml hown hts hEX hBs hS hBs hl.1 (by decide) (by decide) (by decide) (Nat.zero_le _) (Nat.zero_le _) (wdq_mem (q := 751) (by decide +kernel)) (wdq_mem (q := 125) (by decide +kernel)) (wdq_mem (q := 753) (by decide +kernel)) (by decide +kernel) (wdq_mem (q := 752) (by decide +kernel)) (by simp) dJ1_indexOf_4cfef_33 ?_
    have e1 : ixJ i x = ixB i x.toInt8.toInt32 (lens.getD i 0) 0 := if_neg z
    rw [e1]
    exact jret hx hb hr hlk rfl dJ1_indexOf_4cfef_36
  · have z : (if x < 0 then (0 : Int32) else if 255 < x then 0 else 1) = 0 := by first | exact z | exact Decidable.not_not.mp z
    refine lv_iconst (v := -1) hx hb dJ1_indexOf_4cfef_7 (by decide) ?_
    have e1 : ixJ i x = -1 := if_pos z
    rw [e1]
    exact jret hx hb hr hlk rfl dJ1_indexOf_4cfef_8
set_option maxRecDepth 10000 in
theorem j_indexOf2 {i : Nat} {x : Int32} (hi : i < 2) : JM 2 yJ0_indexOf_7cf53 cJ0_indexOf_7cf53 3 (some .int) (fun ex adV => [.ref (ex (i + 1)), .int x, .int 0]) (some (.int (ixJ i x))) := by
  refine JM_of (by decide +kernel) (fun _ _ => by simp [lg_sl, Value.category]) ?_
  intro p l e s m args below meth c B ex adV hF ls hl
  obtain ⟨hx, hb, hml, hr, hlk, hown, hts, hEX, hBs⟩ := hF
  have hown : s.vm.findClass "java/lang/String" = some m.cls := hown
  have hS : va_S (Bq B) s.heap s.heap [] := va_S.rf
  obtain ⟨-, h2, h3, h4⟩ := hEX.1.1 i hi
  refine lv_aload_n hx hb dJ0_indexOf_7cf53_0 rfl (lv_at hl 0 rfl) ?_
  refine jcallV (na := 0) (As := []) (rest := []) (j_isLatin1 hi) hi rfl rfl hx hb hml hown hts hEX hBs hS hBs hl.1 (by decide) (by decide) (by decide) (Nat.zero_le _) (Nat.zero_le _) (wdq_mem (q := 281) (by decide +kernel)) (wdq_mem (q := 124) (by decide +kernel)) (wdq_mem (q := 284) (by decide +kernel)) (by decide +kernel) rfl (wdq_mem (q := 282) (by decide +kernel)) (wdq_mem (q := 283) (by decide +kernel)) (by simp) dJ0_indexOf_7cf53_1 ?_
  refine lv_if_eq (tgt := 23) hx hb dJ0_indexOf_7cf53_4 (by decide) (fun z => absurd z (by decide)) (fun _ => ?_)
  refine lv_aload_n hx hb dJ0_indexOf_7cf53_7 rfl (lv_at hl 0 rfl) ?_
  refine vk_getf hx hb h3 hS hown (hts _ (wdq_mem (q := 2055) (w := .fieldLink "java/lang/String" 9 "java/lang/String" "value" "[B") (by decide +kernel))) (fun _ z => z) dJ0_indexOf_7cf53_8 ?_
  refine lv_iload_n hx hb dJ0_indexOf_7cf53_11 rfl (lv_at hl 1 rfl) ?_
  refine lv_iload_n hx hb dJ0_indexOf_7cf53_12 rfl (lv_at hl 2 rfl) ?_
  refine lv_aload_n hx hb dJ0_indexOf_7cf53_13 rfl (lv_at hl 0 rfl) ?_
  refine jcallV (na := 0) (As := []) (rest := [.int 0, .int x, .ref (adV i)]) (j_length hi) hi rfl rfl hx hb hml hown hts hEX hBs hS hBs hl.1 (by decide) (by decide) (by decide) (Nat.zero_le _) (Nat.zero_le _) (wdq_mem (q := 738) (by decide +kernel)) (wdq_mem (q := 124) (by decide +kernel)) (wdq_mem (q := 270) (by decide +kernel)) (by decide +kernel) rfl (wdq_mem (q := 268) (by decide +kernel)) (wdq_mem (q := 269) (by decide +kernel)) (by simp [Value.category]) dJ0_indexOf_7cf53_14 ?_
  refine jcallS (na := 4) (As := [.ref (adV i), .int x, .int 0, .int (Int32.ofNat (lens.getD i 0))]) (rest := []) (j_lindexOf hi) rfl rfl hx hb hml hown hts hEX hBs hS hBs hl.1 (by decide) (by decide) (by decide) (Nat.zero_le _) (Nat.zero_le _) (wdq_mem (q := 739) (by decide +kernel)) (wdq_mem (q := 125) (by decide +kernel)) (wdq_mem (q := 741) (by decide +kernel)) (by decide +kernel) (wdq_mem (q := 740) (by decide +kernel)) (by simp) dJ0_indexOf_7cf53_17 ?_
  refine lv_goto (tgt := 36) hx hb dJ0_indexOf_7cf53_20 (by decide) ?_
  exact jret hx hb hr hlk rfl dJ0_indexOf_7cf53_36
set_option maxRecDepth 10000 in
theorem j_indexOf {i : Nat} {x : Int32} (hi : i < 2) : JM 3 yJ0_indexOf_0f7a4 cJ0_indexOf_0f7a4 2 (some .int) (fun ex adV => [.ref (ex (i + 1)), .int x]) (some (.int (ixJ i x))) := by
  refine JM_of (by decide +kernel) (fun _ _ => by simp [lg_sl, Value.category]) ?_
  intro p l e s m args below meth c B ex adV hF ls hl
  obtain ⟨hx, hb, hml, hr, hlk, hown, hts, hEX, hBs⟩ := hF
  have hown : s.vm.findClass "java/lang/String" = some m.cls := hown
  have hS : va_S (Bq B) s.heap s.heap [] := va_S.rf

  refine lv_aload_n hx hb dJ0_indexOf_0f7a4_0 rfl (lv_at hl 0 rfl) ?_
  refine lv_iload_n hx hb dJ0_indexOf_0f7a4_1 rfl (lv_at hl 1 rfl) ?_
  refine lv_iconst (v := 0) hx hb dJ0_indexOf_0f7a4_2 (by decide) ?_
  refine jcallV (na := 2) (As := [.int x, .int 0]) (rest := []) (j_indexOf2 hi) hi rfl rfl hx hb hml hown hts hEX hBs hS hBs hl.1 (by decide) (by decide) (by decide) (Nat.zero_le _) (Nat.zero_le _) (wdq_mem (q := 734) (by decide +kernel)) (wdq_mem (q := 124) (by decide +kernel)) (wdq_mem (q := 737) (by decide +kernel)) (by decide +kernel) rfl (wdq_mem (q := 735) (by decide +kernel)) (wdq_mem (q := 736) (by decide +kernel)) (by simp) dJ0_indexOf_0f7a4_3 ?_
  exact jret hx hb hr hlk rfl dJ0_indexOf_0f7a4_6
