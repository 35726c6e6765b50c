/-! MORE BLOCKS: cut where ways meet again -/
set_option maxRecDepth 20000 in
theorem b2_X8_copy_0 {d : Nat} {Q : RES} {sh : SHP} {R M : MEM} {v0 v1 : Int}
    (h : ook sh 8 v1 (ook sh 8 v0 (ook sh 8 v0 (bud (Nat.ble 100 (shk sh (R v0 0)).1 && Nat.ble (shk sh (R v0 0)).1 105 && Nat.ble (shk sh (R v0 0)).2 100000) (aok sh 100 (R v1 0) 0 (aok sh 100 (R v0 0) 0 ((0 : Int) ≤ (Int.ofNat (shk sh (R v0 0)).2) ∧ 0 + (Int.ofNat (shk sh (R v0 0)).2) ≤ Int.ofNat (shk sh (R v1 0)).2 ∧ 0 + (Int.ofNat (shk sh (R v0 0)).2) ≤ Int.ofNat (shk sh (R v0 0)).2 ∧ ook sh 8 v1 (ook sh 8 v0 (aok sh 100 (R v1 2) 0 (aok sh 100 (R v0 2) 0 ((0 : Int) ≤ 10 ∧ 0 + 10 ≤ Int.ofNat (shk sh (R v1 2)).2 ∧ 0 + 10 ≤ Int.ofNat (shk sh (R v0 2)).2 ∧ ook sh 8 v1 (ook sh 8 v0 (aok sh 100 (R v1 3) 0 (aok sh 100 (R v0 3) 0 ((0 : Int) ≤ 10 ∧ 0 + 10 ≤ Int.ofNat (shk sh (R v1 3)).2 ∧ 0 + 10 ≤ Int.ofNat (shk sh (R v0 3)).2 ∧ Go d 68 Q 26 [vr v0, vr v1] [] sh R (cpm (cpm (cpm M (R v1 0) 0 (R v0 0) 0 (Int.ofNat (shk sh (R v0 0)).2)) (R v1 2) 0 (R v0 2) 0 10) (R v1 3) 0 (R v0 3) 0 10) 0 0))))))))))))))) :
    Go d 68 Q 0 [vr v0, vr v1] [] sh R M 0 0 :=
  Go_wp (cuts := [(26, [1, 1]), (30, [1, 1]), (34, [1, 1]), (38, [1, 1]), (42, [1, 1]), (46, [1, 1]), (50, [1, 1])]) 29 0 mok68 rfl h
set_option maxRecDepth 20000 in
theorem b2_X8_copy_26 {d : Nat} {Q : RES} {sh : SHP} {R M : MEM} {v0 v1 : Int}
    (h : ook sh 8 v1 (ook sh 8 v0 (Go d 68 Q 30 [vr v0, vr v1] [] sh R (stm M v0 4 (M v1 4)) 0 0))) :
    Go d 68 Q 26 [vr v0, vr v1] [] sh R M 0 0 :=
  Go_wp (cuts := [(26, [1, 1]), (30, [1, 1]), (34, [1, 1]), (38, [1, 1]), (42, [1, 1]), (46, [1, 1]), (50, [1, 1])]) 7 26 mok68 rfl h
set_option maxRecDepth 20000 in
theorem b2_X8_copy_30 {d : Nat} {Q : RES} {sh : SHP} {R M : MEM} {v0 v1 : Int}
    (h : ook sh 8 v1 (ook sh 8 v0 (Go d 68 Q 34 [vr v0, vr v1] [] sh R (stm M v0 5 (M v1 5)) 0 0))) :
    Go d 68 Q 30 [vr v0, vr v1] [] sh R M 0 0 :=
  Go_wp (cuts := [(26, [1, 1]), (30, [1, 1]), (34, [1, 1]), (38, [1, 1]), (42, [1, 1]), (46, [1, 1]), (50, [1, 1])]) 7 30 mok68 rfl h
set_option maxRecDepth 20000 in
theorem b2_X8_copy_34 {d : Nat} {Q : RES} {sh : SHP} {R M : MEM} {v0 v1 : Int}
    (h : ook sh 8 v1 (ook sh 8 v0 (Go d 68 Q 38 [vr v0, vr v1] [] sh R (stm M v0 6 (M v1 6)) 0 0))) :
    Go d 68 Q 34 [vr v0, vr v1] [] sh R M 0 0 :=
  Go_wp (cuts := [(26, [1, 1]), (30, [1, 1]), (34, [1, 1]), (38, [1, 1]), (42, [1, 1]), (46, [1, 1]), (50, [1, 1])]) 7 34 mok68 rfl h
set_option maxRecDepth 20000 in
theorem b2_X8_copy_38 {d : Nat} {Q : RES} {sh : SHP} {R M : MEM} {v0 v1 : Int}
    (h : ook sh 8 v1 (ook sh 8 v0 (Go d 68 Q 42 [vr v0, vr v1] [] sh R (stm M v0 7 (M v1 7)) 0 0))) :
    Go d 68 Q 38 [vr v0, vr v1] [] sh R M 0 0 :=
  Go_wp (cuts := [(26, [1, 1]), (30, [1, 1]), (34, [1, 1]), (38, [1, 1]), (42, [1, 1]), (46, [1, 1]), (50, [1, 1])]) 7 38 mok68 rfl h
set_option maxRecDepth 20000 in
theorem b2_X8_copy_42 {d : Nat} {Q : RES} {sh : SHP} {R M : MEM} {v0 v1 : Int}
    (h : ook sh 8 v1 (ook sh 8 v0 (Go d 68 Q 46 [vr v0, vr v1] [] sh R (stm M v0 8 (M v1 8)) 0 0))) :
    Go d 68 Q 42 [vr v0, vr v1] [] sh R M 0 0 :=
  Go_wp (cuts := [(26, [1, 1]), (30, [1, 1]), (34, [1, 1]), (38, [1, 1]), (42, [1, 1]), (46, [1, 1]), (50, [1, 1])]) 7 42 mok68 rfl h
set_option maxRecDepth 20000 in
theorem b2_X8_copy_46 {d : Nat} {Q : RES} {sh : SHP} {R M : MEM} {v0 v1 : Int}
    (h : ook sh 8 v1 (ook sh 8 v0 (Go d 68 Q 50 [vr v0, vr v1] [] sh R (stm M v0 9 (M v1 9)) 0 0))) :
    Go d 68 Q 46 [vr v0, vr v1] [] sh R M 0 0 :=
  Go_wp (cuts := [(26, [1, 1]), (30, [1, 1]), (34, [1, 1]), (38, [1, 1]), (42, [1, 1]), (46, [1, 1]), (50, [1, 1])]) 7 46 mok68 rfl h
set_option maxRecDepth 20000 in
theorem b2_X8_copy_50 {d : Nat} {Q : RES} {sh : SHP} {R M : MEM} {v0 v1 : Int}
    (h : ook sh 8 v1 (ook sh 8 v0 (Q 0 sh R (stm M v0 10 (M v1 10))))) :
    Go d 68 Q 50 [vr v0, vr v1] [] sh R M 0 0 :=
  Go_wp (cuts := [(26, [1, 1]), (30, [1, 1]), (34, [1, 1]), (38, [1, 1]), (42, [1, 1]), (46, [1, 1]), (50, [1, 1])]) 7 50 mok68 rfl h
