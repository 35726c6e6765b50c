/-! BLOCKS: from a cut to the next ones -/
theorem b_X9_init_0 {d : Nat} {Q : RES} {sh : SHP} {R M : MEM} {v0 : Int}
    (h : 0 ≤ v0 ∧ (0 : Int) ≤ 1600 ∧ (fun (sh1 : SHP) (R1 M1 : MEM) => ook sh1 9 v0 ((0 : Int) ≤ 18 ∧ (fun (sh2 : SHP) (R2 M2 : MEM) => ook sh2 9 v0 ((0 : Int) ≤ 1601 ∧ (fun (sh3 : SHP) (R3 M3 : MEM) => ook sh3 9 v0 ((0 : Int) ≤ 1601 ∧ (fun (sh4 : SHP) (R4 M4 : MEM) => ook sh4 9 v0 ((0 : Int) ≤ 1601 ∧ (fun (sh5 : SHP) (R5 M5 : MEM) => ook sh5 9 v0 (Go d 81 Q 26 [vr v0, vi 0, vi 0] [] sh5 (stm R5 v0 5 (sh4.length : Int)) M5 0 0)) (newk 101 1601 sh4 (stm R4 v0 4 (sh3.length : Int)) M4).1 (newk 101 1601 sh4 (stm R4 v0 4 (sh3.length : Int)) M4).2.1 (newk 101 1601 sh4 (stm R4 v0 4 (sh3.length : Int)) M4).2.2)) (newk 100 1601 sh3 (stm R3 v0 3 (sh2.length : Int)) M3).1 (newk 100 1601 sh3 (stm R3 v0 3 (sh2.length : Int)) M3).2.1 (newk 100 1601 sh3 (stm R3 v0 3 (sh2.length : Int)) M3).2.2)) (newk 100 1601 sh2 (stm R2 v0 2 (sh1.length : Int)) M2).1 (newk 100 1601 sh2 (stm R2 v0 2 (sh1.length : Int)) M2).2.1 (newk 100 1601 sh2 (stm R2 v0 2 (sh1.length : Int)) M2).2.2)) (newk 101 18 sh1 (stm R1 v0 0 (sh.length : Int)) M1).1 (newk 101 18 sh1 (stm R1 v0 0 (sh.length : Int)) M1).2.1 (newk 101 18 sh1 (stm R1 v0 0 (sh.length : Int)) M1).2.2)) (newk 100 1600 sh R M).1 (newk 100 1600 sh R M).2.1 (newk 100 1600 sh R M).2.2) :
    Go d 81 Q 0 [vr v0, vn, vn] [] sh R M 5 6421 :=
  Go_wp (cuts := [(26, [1, 1, 1])]) 29 0 mok81 rfl h
theorem b_X9_init_26 {d : Nat} {Q : RES} {sh : SHP} {R M : MEM} {v0 v1 v2 : Int}
    (h : (if v2 < 81 then (if v1 < 18 then (0 : Int) ≤ v2 ∧ v2 < 81 ∧ (if ((strB 1).getD (v2).toNat 0) = 32 then Go d 81 Q 26 [vr v0, vi (iadd v1 1), vi (iadd v2 1)] [] sh R M 0 0 else ook sh 9 v0 (ook sh 9 v0 (aok sh 101 (R v0 2) v1 ((0 : Int) ≤ v2 ∧ v2 < 81 ∧ Cd d 91 [vl (M (R v0 2) v1), vi ((strB 1).getD (v2).toNat 0)] sh R M 0 0 (fun (x1 : Int) (sh1 : SHP) (R1 M1 : MEM) => aok sh1 101 (R v0 2) v1 (Go d 81 Q 26 [vr v0, vi v1, vi (iadd v2 1)] [] sh1 R1 (stm M1 (R v0 2) v1 x1) 0 0)))))) else Q 0 sh R M) else Q 0 sh R M)) :
    Go d 81 Q 26 [vr v0, vi v1, vi v2] [] sh R M 0 0 :=
  Go_wp (cuts := [(26, [1, 1, 1])]) 29 26 mok81 rfl h
theorem b_X9_put_0 {d : Nat} {Q : RES} {sh : SHP} {R M : MEM} {v0 v1 : Int}
    (h : Go d 82 Q 2 [vr v0, vi v1, vi 24] [] sh R M 0 0) :
    Go d 82 Q 0 [vr v0, vi v1, vn] [] sh R M 0 0 :=
  Go_wp (cuts := [(2, [1, 1, 1])]) 5 0 mok82 rfl h
theorem b_X9_put_2 {d : Nat} {Q : RES} {sh : SHP} {R M : MEM} {v0 v1 v2 : Int}
    (h : (if v2 < 0 then Q 0 sh R M else ook sh 9 v0 ((if (M v0 1) < 1600 then ook sh 9 v0 (ook sh 9 v0 (aok sh 100 (R v0 0) (M v0 1) (ook sh 9 v0 (ook sh 9 v0 (Go d 82 Q 2 [vr v0, vi v1, vi (iadd v2 (-8))] [] sh R (stm (stm M (R v0 0) (M v0 1) (iand (ishr v1 v2) 255)) v0 1 (iadd ((stm M (R v0 0) (M v0 1) (iand (ishr v1 v2) 255)) v0 1) 1)) 0 0))))) else Q 0 sh R M)))) :
    Go d 82 Q 2 [vr v0, vi v1, vi v2] [] sh R M 0 0 :=
  Go_wp (cuts := [(2, [1, 1, 1])]) 27 2 mok82 rfl h
theorem b_X9_part_0 {d : Nat} {Q : RES} {sh : SHP} {R M : MEM} {v0 : Int}
    (h : ook sh 9 v0 (Go d 83 Q 7 [vr v0, vi 0, vi 0] [] sh R (stm M v0 6 0) 0 0)) :
    Go d 83 Q 0 [vr v0, vn, vn] [] sh R M 0 0 :=
  Go_wp (cuts := [(7, [1, 1, 1])]) 10 0 mok83 rfl h
theorem b_X9_part_7 {d : Nat} {Q : RES} {sh : SHP} {R M : MEM} {v0 v1 v2 : Int}
    (h : (if v2 < 1600 then ook sh 9 v0 ((if v1 < (M v0 1) then ook sh 9 v0 (Cd d 84 [vr v0, vi v1] sh R M 0 0 (fun (x5 : Int) (sh5 : SHP) (R5 M5 : MEM) => Go d 83 Q 7 [vr v0, vi x5, vi (iadd v2 1)] [] sh5 R5 M5 0 0)) else ook sh 9 v0 (ook sh 9 v0 (Cd d 88 [vr v0, vi 1, vi (M v0 1), vl 0] sh R M 0 0 (fun (_ : Int) (sh3 : SHP) (R3 M3 : MEM) => ook sh3 9 v0 (ook sh3 9 v0 (Cd d 94 [vr v0] sh3 R3 (stm M3 v0 7 (-1)) 0 0 (fun (_ : Int) (sh4 : SHP) (R4 M4 : MEM) => Q 0 sh4 R4 M4)))))))) else ook sh 9 v0 (ook sh 9 v0 (Cd d 88 [vr v0, vi 1, vi (M v0 1), vl 0] sh R M 0 0 (fun (_ : Int) (sh1 : SHP) (R1 M1 : MEM) => ook sh1 9 v0 (ook sh1 9 v0 (Cd d 94 [vr v0] sh1 R1 (stm M1 v0 7 (-1)) 0 0 (fun (_ : Int) (sh2 : SHP) (R2 M2 : MEM) => Q 0 sh2 R2 M2)))))))) :
    Go d 83 Q 7 [vr v0, vi v1, vi v2] [] sh R M 0 0 :=
  Go_wp (cuts := [(7, [1, 1, 1])]) 21 7 mok83 rfl h
theorem b_X9_partOne_0 {d : Nat} {Q : RES} {sh : SHP} {R M : MEM} {v0 v1 : Int}
    (h : ook sh 9 v0 (aok sh 100 (R v0 0) v1 ((if (M (R v0 0) v1) = 32 then Q (iadd v1 1) sh R M else (if (M (R v0 0) v1) = 10 then Q (iadd v1 1) sh R M else Cd d 89 [vi (M (R v0 0) v1)] sh R M 0 0 (fun (x1 : Int) (sh1 : SHP) (R1 M1 : MEM) => (x1 = 0 ∨ x1 = 1) → (if x1 = 0 then Cd d 90 [vi (M (R v0 0) v1)] sh1 R1 M1 0 0 (fun (x2 : Int) (sh2 : SHP) (R2 M2 : MEM) => (x2 = 0 ∨ x2 = 1) → (if x2 = 0 then (if (idxOf (w16 (M (R v0 0) v1)) (strB 2) 0) < 0 then ook sh2 9 v0 (Cd d 87 [vr v0, vi v1] sh2 R2 M2 0 0 (fun (x3 : Int) (sh3 : SHP) (R3 M3 : MEM) => Q x3 sh3 R3 M3)) else ook sh2 9 v0 (Cd d 88 [vr v0, vi 5, vi v1, vl (M (R v0 0) v1)] sh2 R2 M2 0 0 (fun (_ : Int) (sh4 : SHP) (R4 M4 : MEM) => Q (iadd v1 1) sh4 R4 M4))) else ook sh2 9 v0 (Cd d 86 [vr v0, vi v1] sh2 R2 M2 0 0 (fun (x5 : Int) (sh5 : SHP) (R5 M5 : MEM) => Q x5 sh5 R5 M5)))) else ook sh1 9 v0 (Cd d 85 [vr v0, vi v1] sh1 R1 M1 0 0 (fun (x6 : Int) (sh6 : SHP) (R6 M6 : MEM) => Q x6 sh6 R6 M6))))))))) :
    Go d 84 Q 0 [vr v0, vi v1, vn] [] sh R M 0 0 :=
  Go_wp (cuts := []) 34 0 mok84 rfl h
theorem b_X9_partWord_0 {d : Nat} {Q : RES} {sh : SHP} {R M : MEM} {v0 v1 : Int}
    (h : Go d 85 Q 6 [vr v0, vi v1, vi v1, vl 0, vn, vi v1] [] sh R M 0 0) :
    Go d 85 Q 0 [vr v0, vi v1, vn, vn, vn, vn] [] sh R M 0 0 :=
  Go_wp (cuts := [(6, [1, 1, 1, 1, 0, 1]), (40, [1, 1, 1, 1, 0, 1])]) 9 0 mok85 rfl h
theorem b_X9_partWord_6 {d : Nat} {Q : RES} {sh : SHP} {R M : MEM} {v0 v1 v2 v3 v5 : Int}
    (h : ook sh 9 v0 ((if v5 < (M v0 1) then ook sh 9 v0 (aok sh 100 (R v0 0) v5 (Cd d 89 [vi (M (R v0 0) v5)] sh R M 0 0 (fun (x2 : Int) (sh2 : SHP) (R2 M2 : MEM) => (x2 = 0 ∨ x2 = 1) → (if x2 = 0 then (if 8 < (isub v2 v1) then ook sh2 9 v0 (Cd d 87 [vr v0, vi v1] sh2 R2 M2 0 0 (fun (x3 : Int) (sh3 : SHP) (R3 M3 : MEM) => Q x3 sh3 R3 M3)) else Go d 85 Q 40 [vr v0, vi v1, vi v2, vl v3, vn, vi 0] [] sh2 R2 M2 0 0) else ook sh2 9 v0 (aok sh2 100 (R2 v0 0) v5 (Cd d 91 [vl v3, vi (M2 (R2 v0 0) v5)] sh2 R2 M2 0 0 (fun (x4 : Int) (sh4 : SHP) (R4 M4 : MEM) => Go d 85 Q 6 [vr v0, vi v1, vi (iadd v5 1), vl x4, vn, vi (iadd v5 1)] [] sh4 R4 M4 0 0))))))) else (if 8 < (isub v2 v1) then ook sh 9 v0 (Cd d 87 [vr v0, vi v1] sh R M 0 0 (fun (x1 : Int) (sh1 : SHP) (R1 M1 : MEM) => Q x1 sh1 R1 M1)) else Go d 85 Q 40 [vr v0, vi v1, vi v2, vl v3, vn, vi 0] [] sh R M 0 0)))) :
    Go d 85 Q 6 [vr v0, vi v1, vi v2, vl v3, vn, vi v5] [] sh R M 0 0 :=
  Go_wp (cuts := [(6, [1, 1, 1, 1, 0, 1]), (40, [1, 1, 1, 1, 0, 1])]) 26 6 mok85 rfl h
theorem b_X9_partWord_40 {d : Nat} {Q : RES} {sh : SHP} {R M : MEM} {v0 v1 v2 v3 v5 : Int}
    (h : (if v5 < 18 then ook sh 9 v0 (aok sh 101 (R v0 2) v5 ((if (lcmp (M (R v0 2) v5) v3) = 0 then ook sh 9 v0 (Cd d 88 [vr v0, vi 2, vi v1, vl v5] sh R M 0 0 (fun (_ : Int) (sh2 : SHP) (R2 M2 : MEM) => Q v2 sh2 R2 M2)) else Go d 85 Q 40 [vr v0, vi v1, vi v2, vl v3, vn, vi (iadd v5 1)] [] sh R M 0 0))) else ook sh 9 v0 (Cd d 88 [vr v0, vi 3, vi v1, vl v3] sh R M 0 0 (fun (_ : Int) (sh1 : SHP) (R1 M1 : MEM) => Q v2 sh1 R1 M1)))) :
    Go d 85 Q 40 [vr v0, vi v1, vi v2, vl v3, vn, vi v5] [] sh R M 0 0 :=
  Go_wp (cuts := [(6, [1, 1, 1, 1, 0, 1]), (40, [1, 1, 1, 1, 0, 1])]) 20 40 mok85 rfl h
theorem b_X9_partNumber_0 {d : Nat} {Q : RES} {sh : SHP} {R M : MEM} {v0 v1 : Int}
    (h : Go d 86 Q 6 [vr v0, vi v1, vi v1, vi 0, vi v1] [] sh R M 0 0) :
    Go d 86 Q 0 [vr v0, vi v1, vn, vn, vn] [] sh R M 0 0 :=
  Go_wp (cuts := [(6, [1, 1, 1, 1, 1])]) 9 0 mok86 rfl h
theorem b_X9_partNumber_6 {d : Nat} {Q : RES} {sh : SHP} {R M : MEM} {v0 v1 v2 v3 v4 : Int}
    (h : ook sh 9 v0 ((if v4 < (M v0 1) then ook sh 9 v0 (aok sh 100 (R v0 0) v4 (Cd d 90 [vi (M (R v0 0) v4)] sh R M 0 0 (fun (x7 : Int) (sh7 : SHP) (R7 M7 : MEM) => (x7 = 0 ∨ x7 = 1) → (if x7 = 0 then ook sh7 9 v0 ((if v2 < (M7 v0 1) then ook sh7 9 v0 (aok sh7 100 (R7 v0 0) v2 (Cd d 89 [vi (M7 (R7 v0 0) v2)] sh7 R7 M7 0 0 (fun (x10 : Int) (sh10 : SHP) (R10 M10 : MEM) => (x10 = 0 ∨ x10 = 1) → (if x10 = 0 then (if 4 < (isub v2 v1) then ook sh10 9 v0 (Cd d 87 [vr v0, vi v1] sh10 R10 M10 0 0 (fun (x12 : Int) (sh12 : SHP) (R12 M12 : MEM) => Q x12 sh12 R12 M12)) else ook sh10 9 v0 (Cd d 88 [vr v0, vi 4, vi v1, vl v3] sh10 R10 M10 0 0 (fun (_ : Int) (sh11 : SHP) (R11 M11 : MEM) => Q v2 sh11 R11 M11))) else ook sh10 9 v0 (Cd d 87 [vr v0, vi v1] sh10 R10 M10 0 0 (fun (x13 : Int) (sh13 : SHP) (R13 M13 : MEM) => Q x13 sh13 R13 M13)))))) else (if 4 < (isub v2 v1) then ook sh7 9 v0 (Cd d 87 [vr v0, vi v1] sh7 R7 M7 0 0 (fun (x9 : Int) (sh9 : SHP) (R9 M9 : MEM) => Q x9 sh9 R9 M9)) else ook sh7 9 v0 (Cd d 88 [vr v0, vi 4, vi v1, vl v3] sh7 R7 M7 0 0 (fun (_ : Int) (sh8 : SHP) (R8 M8 : MEM) => Q v2 sh8 R8 M8))))) else ook sh7 9 v0 (aok sh7 100 (R7 v0 0) v4 (Go d 86 Q 6 [vr v0, vi v1, vi (iadd v4 1), vi (iadd (imul v3 10) (isub (M7 (R7 v0 0) v4) 48)), vi (iadd v4 1)] [] sh7 R7 M7 0 0)))))) else ook sh 9 v0 ((if v2 < (M v0 1) then ook sh 9 v0 (aok sh 100 (R v0 0) v2 (Cd d 89 [vi (M (R v0 0) v2)] sh R M 0 0 (fun (x3 : Int) (sh3 : SHP) (R3 M3 : MEM) => (x3 = 0 ∨ x3 = 1) → (if x3 = 0 then (if 4 < (isub v2 v1) then ook sh3 9 v0 (Cd d 87 [vr v0, vi v1] sh3 R3 M3 0 0 (fun (x5 : Int) (sh5 : SHP) (R5 M5 : MEM) => Q x5 sh5 R5 M5)) else ook sh3 9 v0 (Cd d 88 [vr v0, vi 4, vi v1, vl v3] sh3 R3 M3 0 0 (fun (_ : Int) (sh4 : SHP) (R4 M4 : MEM) => Q v2 sh4 R4 M4))) else ook sh3 9 v0 (Cd d 87 [vr v0, vi v1] sh3 R3 M3 0 0 (fun (x6 : Int) (sh6 : SHP) (R6 M6 : MEM) => Q x6 sh6 R6 M6)))))) else (if 4 < (isub v2 v1) then ook sh 9 v0 (Cd d 87 [vr v0, vi v1] sh R M 0 0 (fun (x2 : Int) (sh2 : SHP) (R2 M2 : MEM) => Q x2 sh2 R2 M2)) else ook sh 9 v0 (Cd d 88 [vr v0, vi 4, vi v1, vl v3] sh R M 0 0 (fun (_ : Int) (sh1 : SHP) (R1 M1 : MEM) => Q v2 sh1 R1 M1)))))))) :
    Go d 86 Q 6 [vr v0, vi v1, vi v2, vi v3, vi v4] [] sh R M 0 0 :=
  Go_wp (cuts := [(6, [1, 1, 1, 1, 1])]) 39 6 mok86 rfl h
theorem b_X9_partBad_0 {d : Nat} {Q : RES} {sh : SHP} {R M : MEM} {v0 v1 : Int}
    (h : ook sh 9 v0 (Cd d 88 [vr v0, vi 0, vi v1, vl 0] sh R M 0 0 (fun (_ : Int) (sh1 : SHP) (R1 M1 : MEM) => ook sh1 9 v0 (Q (M1 v0 1) sh1 R1 M1)))) :
    Go d 87 Q 0 [vr v0, vi v1] [] sh R M 0 0 :=
  Go_wp (cuts := []) 10 0 mok87 rfl h
theorem b_X9_add_0 {d : Nat} {Q : RES} {sh : SHP} {R M : MEM} {v0 v1 v2 v3 : Int}
    (h : ook sh 9 v0 ((if 1600 < (M v0 6) then Q 0 sh R M else ook sh 9 v0 (ook sh 9 v0 (aok sh 100 (R v0 3) (M v0 6) (ook sh 9 v0 (ook sh 9 v0 (aok sh 100 (R v0 4) ((stm M (R v0 3) (M v0 6) v1) v0 6) (ook sh 9 v0 (ook sh 9 v0 (aok sh 101 (R v0 5) ((stm (stm M (R v0 3) (M v0 6) v1) (R v0 4) ((stm M (R v0 3) (M v0 6) v1) v0 6) v2) v0 6) (ook sh 9 v0 (ook sh 9 v0 (Q 0 sh R (stm (stm (stm (stm M (R v0 3) (M v0 6) v1) (R v0 4) ((stm M (R v0 3) (M v0 6) v1) v0 6) v2) (R v0 5) ((stm (stm M (R v0 3) (M v0 6) v1) (R v0 4) ((stm M (R v0 3) (M v0 6) v1) v0 6) v2) v0 6) v3) v0 6 (iadd ((stm (stm (stm M (R v0 3) (M v0 6) v1) (R v0 4) ((stm M (R v0 3) (M v0 6) v1) v0 6) v2) (R v0 5) ((stm (stm M (R v0 3) (M v0 6) v1) (R v0 4) ((stm M (R v0 3) (M v0 6) v1) v0 6) v2) v0 6) v3) v0 6) 1)))))))))))))))) :
    Go d 88 Q 0 [vr v0, vi v1, vi v2, vl v3, vn] [] sh R M 0 0 :=
  Go_wp (cuts := []) 31 0 mok88 rfl h
theorem b_X9_isLetter_0 {d : Nat} {Q : RES} {sh : SHP} {R M : MEM} {v0 : Int}
    (h : (if v0 < 97 then Q 0 sh R M else (if 122 < v0 then Q 0 sh R M else Q 1 sh R M))) :
    Go d 89 Q 0 [vi v0] [] sh R M 0 0 :=
  Go_wp (cuts := []) 11 0 mok89 rfl h
theorem b_X9_isDigit_0 {d : Nat} {Q : RES} {sh : SHP} {R M : MEM} {v0 : Int}
    (h : (if v0 < 48 then Q 0 sh R M else (if 57 < v0 then Q 0 sh R M else Q 1 sh R M))) :
    Go d 90 Q 0 [vi v0] [] sh R M 0 0 :=
  Go_wp (cuts := []) 11 0 mok90 rfl h
theorem b_X9_withLetter_0 {d : Nat} {Q : RES} {sh : SHP} {R M : MEM} {v0 v2 : Int}
    (h : Q (ladd (lmul v0 32) (iadd (isub v2 97) 1)) sh R M) :
    Go d 91 Q 0 [vl v0, vn, vi v2] [] sh R M 0 0 :=
  Go_wp (cuts := []) 13 0 mok91 rfl h
theorem b_X9_isKeyword_0 {d : Nat} {Q : RES} {sh : SHP} {R M : MEM} {v0 v1 : Int}
    (h : ook sh 9 v0 ((if (M v0 8) = 2 then ook sh 9 v0 ((if (lcmp (M v0 10) v1) = 0 then Q 1 sh R M else Q 0 sh R M)) else Q 0 sh R M))) :
    Go d 92 Q 0 [vr v0, vi v1] [] sh R M 0 0 :=
  Go_wp (cuts := []) 15 0 mok92 rfl h
theorem b_X9_isSign_0 {d : Nat} {Q : RES} {sh : SHP} {R M : MEM} {v0 v1 : Int}
    (h : ook sh 9 v0 ((if (M v0 8) = 5 then ook sh 9 v0 ((if (lcmp (M v0 10) v1) = 0 then Q 1 sh R M else Q 0 sh R M)) else Q 0 sh R M))) :
    Go d 93 Q 0 [vr v0, vi v1] [] sh R M 0 0 :=
  Go_wp (cuts := []) 15 0 mok93 rfl h
theorem b_X9_step_0 {d : Nat} {Q : RES} {sh : SHP} {R M : MEM} {v0 : Int}
    (h : ook sh 9 v0 (ook sh 9 v0 ((if (M v0 7) < (isub (M v0 6) 1) then ook sh 9 v0 (ook sh 9 v0 (ook sh 9 v0 (ook sh 9 v0 (aok sh 100 (R v0 3) ((stm M v0 7 (iadd (M v0 7) 1)) v0 7) (ook sh 9 v0 (ook sh 9 v0 (ook sh 9 v0 (aok sh 100 (R v0 4) ((stm (stm M v0 7 (iadd (M v0 7) 1)) v0 8 ((stm M v0 7 (iadd (M v0 7) 1)) (R v0 3) ((stm M v0 7 (iadd (M v0 7) 1)) v0 7))) v0 7) (ook sh 9 v0 (ook sh 9 v0 (ook sh 9 v0 (aok sh 101 (R v0 5) ((stm (stm (stm M v0 7 (iadd (M v0 7) 1)) v0 8 ((stm M v0 7 (iadd (M v0 7) 1)) (R v0 3) ((stm M v0 7 (iadd (M v0 7) 1)) v0 7))) v0 9 ((stm (stm M v0 7 (iadd (M v0 7) 1)) v0 8 ((stm M v0 7 (iadd (M v0 7) 1)) (R v0 3) ((stm M v0 7 (iadd (M v0 7) 1)) v0 7))) (R v0 4) ((stm (stm M v0 7 (iadd (M v0 7) 1)) v0 8 ((stm M v0 7 (iadd (M v0 7) 1)) (R v0 3) ((stm M v0 7 (iadd (M v0 7) 1)) v0 7))) v0 7))) v0 7) (ook sh 9 v0 (Q 0 sh R (stm (stm (stm (stm M v0 7 (iadd (M v0 7) 1)) v0 8 ((stm M v0 7 (iadd (M v0 7) 1)) (R v0 3) ((stm M v0 7 (iadd (M v0 7) 1)) v0 7))) v0 9 ((stm (stm M v0 7 (iadd (M v0 7) 1)) v0 8 ((stm M v0 7 (iadd (M v0 7) 1)) (R v0 3) ((stm M v0 7 (iadd (M v0 7) 1)) v0 7))) (R v0 4) ((stm (stm M v0 7 (iadd (M v0 7) 1)) v0 8 ((stm M v0 7 (iadd (M v0 7) 1)) (R v0 3) ((stm M v0 7 (iadd (M v0 7) 1)) v0 7))) v0 7))) v0 10 ((stm (stm (stm M v0 7 (iadd (M v0 7) 1)) v0 8 ((stm M v0 7 (iadd (M v0 7) 1)) (R v0 3) ((stm M v0 7 (iadd (M v0 7) 1)) v0 7))) v0 9 ((stm (stm M v0 7 (iadd (M v0 7) 1)) v0 8 ((stm M v0 7 (iadd (M v0 7) 1)) (R v0 3) ((stm M v0 7 (iadd (M v0 7) 1)) v0 7))) (R v0 4) ((stm (stm M v0 7 (iadd (M v0 7) 1)) v0 8 ((stm M v0 7 (iadd (M v0 7) 1)) (R v0 3) ((stm M v0 7 (iadd (M v0 7) 1)) v0 7))) v0 7))) (R v0 5) ((stm (stm (stm M v0 7 (iadd (M v0 7) 1)) v0 8 ((stm M v0 7 (iadd (M v0 7) 1)) (R v0 3) ((stm M v0 7 (iadd (M v0 7) 1)) v0 7))) v0 9 ((stm (stm M v0 7 (iadd (M v0 7) 1)) v0 8 ((stm M v0 7 (iadd (M v0 7) 1)) (R v0 3) ((stm M v0 7 (iadd (M v0 7) 1)) v0 7))) (R v0 4) ((stm (stm M v0 7 (iadd (M v0 7) 1)) v0 8 ((stm M v0 7 (iadd (M v0 7) 1)) (R v0 3) ((stm M v0 7 (iadd (M v0 7) 1)) v0 7))) v0 7))) v0 7))))))))))))))))) else Q 0 sh R M)))) :
    Go d 94 Q 0 [vr v0] [] sh R M 0 0 :=
  Go_wp (cuts := []) 37 0 mok94 rfl h
theorem b_X10_init_0 {d : Nat} {Q : RES} {sh : SHP} {R M : MEM} {v0 : Int}
    (h : 0 ≤ v0 ∧ (fun (sh1 : SHP) (R1 M1 : MEM) => ook sh1 8 (sh.length : Int) (Cd d 66 [vr (sh.length : Int)] sh1 R1 M1 4 286 (fun (_ : Int) (sh2 : SHP) (R2 M2 : MEM) => ook sh2 10 v0 ((fun (sh3 : SHP) (R3 M3 : MEM) => ook sh3 8 (sh2.length : Int) (Cd d 66 [vr (sh2.length : Int)] sh3 R3 M3 4 286 (fun (_ : Int) (sh4 : SHP) (R4 M4 : MEM) => ook sh4 10 v0 ((0 : Int) ≤ 3 ∧ (fun (sh5 : SHP) (R5 M5 : MEM) => ook sh5 10 v0 ((0 : Int) ≤ 41 ∧ (fun (sh6 : SHP) (R6 M6 : MEM) => ook sh6 10 v0 (Q 0 sh6 (stm R6 v0 3 (sh5.length : Int)) M6)) (newk 100 41 sh5 (stm R5 v0 2 (sh4.length : Int)) M5).1 (newk 100 41 sh5 (stm R5 v0 2 (sh4.length : Int)) M5).2.1 (newk 100 41 sh5 (stm R5 v0 2 (sh4.length : Int)) M5).2.2)) (newk 100 3 sh4 (stm R4 v0 1 (sh2.length : Int)) M4).1 (newk 100 3 sh4 (stm R4 v0 1 (sh2.length : Int)) M4).2.1 (newk 100 3 sh4 (stm R4 v0 1 (sh2.length : Int)) M4).2.2)))) (newk 8 0 sh2 (stm R2 v0 0 (sh.length : Int)) M2).1 (newk 8 0 sh2 (stm R2 v0 0 (sh.length : Int)) M2).2.1 (newk 8 0 sh2 (stm R2 v0 0 (sh.length : Int)) M2).2.2)))) (newk 8 0 sh R M).1 (newk 8 0 sh R M).2.1 (newk 8 0 sh R M).2.2) :
    Go d 95 Q 0 [vr v0] [] sh R M 12 638 :=
  Go_wp (cuts := []) 23 0 mok95 rfl h
theorem b_X10_open_0 {d : Nat} {Q : RES} {sh : SHP} {R M : MEM} {v0 v1 v2 : Int}
    (h : ook sh 10 v0 (ook sh 8 (R v0 0) (Cd d 67 [vr (R v0 0), vi 0] sh R M 0 0 (fun (_ : Int) (sh1 : SHP) (R1 M1 : MEM) => Go d 96 Q 6 [vr v0, vr v1, vr v2, vi 0] [] sh1 R1 M1 0 0)))) :
    Go d 96 Q 0 [vr v0, vr v1, vr v2, vn] [] sh R M 0 0 :=
  Go_wp (cuts := [(6, [1, 1, 1, 1])]) 9 0 mok96 rfl h
theorem b_X10_open_6 {d : Nat} {Q : RES} {sh : SHP} {R M : MEM} {v0 v1 v2 v3 : Int}
    (h : ook sh 4 v1 ((if v3 < (M v1 5) then ook sh 10 v0 (ook sh 4 v1 (aok sh 100 (R v1 6) v3 (aok sh 100 v2 v3 (ook sh 8 (R v0 0) (Cd d 73 [vr (R v0 0), vi (M (R v1 6) v3), vi (M v2 v3)] sh R M 0 0 (fun (_ : Int) (sh1 : SHP) (R1 M1 : MEM) => Go d 96 Q 6 [vr v0, vr v1, vr v2, vi (iadd v3 1)] [] sh1 R1 M1 0 0)))))) else Q 0 sh R M))) :
    Go d 96 Q 6 [vr v0, vr v1, vr v2, vi v3] [] sh R M 0 0 :=
  Go_wp (cuts := [(6, [1, 1, 1, 1])]) 19 6 mok96 rfl h
theorem b_X10_reckoned_0 {d : Nat} {Q : RES} {sh : SHP} {R M : MEM} {v0 v1 v2 v3 v4 : Int}
    (h : ook sh 10 v0 (Cd d 96 [vr v0, vr v1, vr v2] sh R M 0 0 (fun (_ : Int) (sh1 : SHP) (R1 M1 : MEM) => Go d 97 Q 6 [vr v0, vr v1, vn, vi v3, vi v4, vi 0] [] sh1 R1 M1 0 0))) :
    Go d 97 Q 0 [vr v0, vr v1, vr v2, vi v3, vi v4, vn] [] sh R M 0 0 :=
  Go_wp (cuts := [(6, [1, 1, 0, 1, 1, 1])]) 9 0 mok97 rfl h
theorem b_X10_reckoned_6 {d : Nat} {Q : RES} {sh : SHP} {R M : MEM} {v0 v1 v3 v4 v5 : Int}
    (h : (if v5 < v4 then ook sh 10 v0 (ook sh 8 (R v0 0) (Cd d 80 [vr (R v0 0), vr v1] sh R M 0 0 (fun (x1 : Int) (sh1 : SHP) (R1 M1 : MEM) => (x1 = 0 ∨ x1 = 1) → (if x1 = 0 then ook sh1 10 v0 (ook sh1 8 (R1 v0 0) (Cd d 75 [vr (R1 v0 0), vr v1] sh1 R1 M1 0 0 (fun (_ : Int) (sh2 : SHP) (R2 M2 : MEM) => Go d 97 Q 6 [vr v0, vr v1, vn, vi v3, vi v4, vi (iadd v5 1)] [] sh2 R2 M2 0 0))) else ook sh1 10 v0 (ook sh1 8 (R1 v0 0) (aok sh1 100 (R1 (R1 v0 0) 2) v3 (Q (M1 (R1 (R1 v0 0) 2) v3) sh1 R1 M1))))))) else ook sh 10 v0 (ook sh 8 (R v0 0) (aok sh 100 (R (R v0 0) 2) v3 (Q (M (R (R v0 0) 2) v3) sh R M))))) :
    Go d 97 Q 6 [vr v0, vr v1, vn, vi v3, vi v4, vi v5] [] sh R M 0 0 :=
  Go_wp (cuts := [(6, [1, 1, 0, 1, 1, 1])]) 17 6 mok97 rfl h
theorem b_X10_stillAt_0 {d : Nat} {Q : RES} {sh : SHP} {R M : MEM} {v0 v1 v2 : Int}
    (h : ook sh 10 v0 (Cd d 96 [vr v0, vr v1, vr v2] sh R M 0 0 (fun (_ : Int) (sh1 : SHP) (R1 M1 : MEM) => Go d 98 Q 6 [vr v0, vr v1, vn, vi 0] [] sh1 R1 M1 0 0))) :
    Go d 98 Q 0 [vr v0, vr v1, vr v2, vn] [] sh R M 0 0 :=
  Go_wp (cuts := [(6, [1, 1, 0, 1])]) 9 0 mok98 rfl h
theorem b_X10_stillAt_6 {d : Nat} {Q : RES} {sh : SHP} {R M : MEM} {v0 v1 v3 : Int}
    (h : (if 200 < v3 then Q (-1) sh R M else ook sh 10 v0 (ook sh 8 (R v0 0) (Cd d 80 [vr (R v0 0), vr v1] sh R M 0 0 (fun (x1 : Int) (sh1 : SHP) (R1 M1 : MEM) => (x1 = 0 ∨ x1 = 1) → (if x1 = 0 then ook sh1 10 v0 (ook sh1 8 (R1 v0 0) (Cd d 75 [vr (R1 v0 0), vr v1] sh1 R1 M1 0 0 (fun (_ : Int) (sh2 : SHP) (R2 M2 : MEM) => Go d 98 Q 6 [vr v0, vr v1, vn, vi (iadd v3 1)] [] sh2 R2 M2 0 0))) else Q v3 sh1 R1 M1)))))) :
    Go d 98 Q 6 [vr v0, vr v1, vn, vi v3] [] sh R M 0 0 :=
  Go_wp (cuts := [(6, [1, 1, 0, 1])]) 17 6 mok98 rfl h
theorem b_X10_reckonedWithout_0 {d : Nat} {Q : RES} {sh : SHP} {R M : MEM} {v0 v1 v2 v3 v4 : Int}
    (h : ook sh 10 v0 (ook sh 10 v0 (ook sh 8 (R v0 1) (Cd d 68 [vr (R v0 1), vr (R v0 0)] sh R M 0 0 (fun (_ : Int) (sh1 : SHP) (R1 M1 : MEM) => ook sh1 10 v0 (ook sh1 4 v1 (aok sh1 100 (R1 v1 10) v2 (ook sh1 8 (R1 v0 1) (Cd d 74 [vr (R1 v0 1), vi v2, vi (M1 (R1 v1 10) v2)] sh1 R1 M1 0 0 (fun (_ : Int) (sh2 : SHP) (R2 M2 : MEM) => Go d 99 Q 15 [vr v0, vr v1, vn, vi v3, vi v4, vi 0] [] sh2 R2 M2 0 0)))))))))) :
    Go d 99 Q 0 [vr v0, vr v1, vi v2, vi v3, vi v4, vn] [] sh R M 0 0 :=
  Go_wp (cuts := [(15, [1, 1, 0, 1, 1, 1])]) 18 0 mok99 rfl h
theorem b_X10_reckonedWithout_15 {d : Nat} {Q : RES} {sh : SHP} {R M : MEM} {v0 v1 v3 v4 v5 : Int}
    (h : (if v5 < v4 then ook sh 10 v0 (ook sh 8 (R v0 1) (Cd d 80 [vr (R v0 1), vr v1] sh R M 0 0 (fun (x1 : Int) (sh1 : SHP) (R1 M1 : MEM) => (x1 = 0 ∨ x1 = 1) → (if x1 = 0 then ook sh1 10 v0 (ook sh1 8 (R1 v0 1) (Cd d 75 [vr (R1 v0 1), vr v1] sh1 R1 M1 0 0 (fun (_ : Int) (sh2 : SHP) (R2 M2 : MEM) => Go d 99 Q 15 [vr v0, vr v1, vn, vi v3, vi v4, vi (iadd v5 1)] [] sh2 R2 M2 0 0))) else ook sh1 10 v0 (ook sh1 8 (R1 v0 1) (aok sh1 100 (R1 (R1 v0 1) 2) v3 (Q (M1 (R1 (R1 v0 1) 2) v3) sh1 R1 M1))))))) else ook sh 10 v0 (ook sh 8 (R v0 1) (aok sh 100 (R (R v0 1) 2) v3 (Q (M (R (R v0 1) 2) v3) sh R M))))) :
    Go d 99 Q 15 [vr v0, vr v1, vn, vi v3, vi v4, vi v5] [] sh R M 0 0 :=
  Go_wp (cuts := [(15, [1, 1, 0, 1, 1, 1])]) 17 15 mok99 rfl h
theorem b_X10_hasSetOut_0 {d : Nat} {Q : RES} {sh : SHP} {R M : MEM} {v0 v1 v2 : Int}
    (h : ook sh 10 v0 (ook sh 4 v1 (aok sh 100 (R v1 10) v2 (ook sh 8 (R v0 0) (Cd d 70 [vr (R v0 0), vi v2, vi (M (R v1 10) v2)] sh R M 0 0 (fun (x1 : Int) (sh1 : SHP) (R1 M1 : MEM) => (if 0 < x1 then Q 1 sh1 R1 M1 else Q 0 sh1 R1 M1))))))) :
    Go d 100 Q 0 [vr v0, vr v1, vi v2] [] sh R M 0 0 :=
  Go_wp (cuts := []) 14 0 mok100 rfl h
theorem b_X10_lossOf_0 {d : Nat} {Q : RES} {sh : SHP} {R M : MEM} {v0 v1 v2 v3 v4 v5 v6 : Int}
    (h : ook sh 10 v0 (Cd d 97 [vr v0, vr v1, vr v2, vi v5, vi v6] sh R M 0 0 (fun (x1 : Int) (sh1 : SHP) (R1 M1 : MEM) => ook sh1 10 v0 (Cd d 96 [vr v0, vr v1, vr v2] sh1 R1 M1 0 0 (fun (_ : Int) (sh2 : SHP) (R2 M2 : MEM) => Go d 101 Q 13 [vr v0, vr v1, vn, vi v3, vi v4, vi v5, vi v6, vi x1, vi 0] [] sh2 R2 M2 0 0))))) :
    Go d 101 Q 0 [vr v0, vr v1, vr v2, vi v3, vi v4, vi v5, vi v6, vn, vn] [] sh R M 0 0 :=
  Go_wp (cuts := [(13, [1, 1, 0, 1, 1, 1, 1, 1, 1])]) 16 0 mok101 rfl h
theorem b_X10_lossOf_13 {d : Nat} {Q : RES} {sh : SHP} {R M : MEM} {v0 v1 v3 v4 v5 v6 v7 v8 : Int}
    (h : (if v8 < v4 then ook sh 10 v0 (ook sh 8 (R v0 0) (Cd d 75 [vr (R v0 0), vr v1] sh R M 0 0 (fun (_ : Int) (sh3 : SHP) (R3 M3 : MEM) => Go d 101 Q 13 [vr v0, vr v1, vn, vi v3, vi v4, vi v5, vi v6, vi v7, vi (iadd v8 1)] [] sh3 R3 M3 0 0))) else ook sh 10 v0 (Cd d 100 [vr v0, vr v1, vi v3] sh R M 0 0 (fun (x1 : Int) (sh1 : SHP) (R1 M1 : MEM) => (x1 = 0 ∨ x1 = 1) → (if x1 = 0 then Q 0 sh1 R1 M1 else ook sh1 10 v0 (Cd d 99 [vr v0, vr v1, vi v3, vi v5, vi (isub v6 v4)] sh1 R1 M1 0 0 (fun (x2 : Int) (sh2 : SHP) (R2 M2 : MEM) => Q (isub v7 x2) sh2 R2 M2))))))) :
    Go d 101 Q 13 [vr v0, vr v1, vn, vi v3, vi v4, vi v5, vi v6, vi v7, vi v8] [] sh R M 0 0 :=
  Go_wp (cuts := [(13, [1, 1, 0, 1, 1, 1, 1, 1, 1])]) 21 13 mok101 rfl h
theorem b_X10_unseen_0 {d : Nat} {Q : RES} {sh : SHP} {R M : MEM} {v0 v1 v2 v3 v4 : Int}
    (h : ook sh 10 v0 (Cd d 97 [vr v0, vr v1, vr v2, vi v3, vi v4] sh R M 0 0 (fun (x1 : Int) (sh1 : SHP) (R1 M1 : MEM) => ook sh1 10 v0 (Cd d 96 [vr v0, vr v1, vr v2] sh1 R1 M1 0 0 (fun (_ : Int) (sh2 : SHP) (R2 M2 : MEM) => Go d 102 Q 15 [vr v0, vr v1, vn, vi v3, vi v4, vi x1, vi 0, vi 1, vn] [] sh2 R2 M2 0 0))))) :
    Go d 102 Q 0 [vr v0, vr v1, vr v2, vi v3, vi v4, vn, vn, vn, vn] [] sh R M 0 0 :=
  Go_wp (cuts := [(15, [1, 1, 0, 1, 1, 1, 1, 1, 0]), (29, [1, 1, 0, 1, 1, 1, 1, 1, 1])]) 18 0 mok102 rfl h
theorem b_X10_unseen_15 {d : Nat} {Q : RES} {sh : SHP} {R M : MEM} {v0 v1 v3 v4 v5 v6 v7 : Int}
    (h : (if v4 < v7 then Q v6 sh R M else ook sh 10 v0 (ook sh 8 (R v0 0) (Cd d 80 [vr (R v0 0), vr v1] sh R M 0 0 (fun (x1 : Int) (sh1 : SHP) (R1 M1 : MEM) => (x1 = 0 ∨ x1 = 1) → (if x1 = 0 then ook sh1 10 v0 (ook sh1 8 (R1 v0 0) (Cd d 75 [vr (R1 v0 0), vr v1] sh1 R1 M1 0 0 (fun (_ : Int) (sh2 : SHP) (R2 M2 : MEM) => Go d 102 Q 29 [vr v0, vr v1, vn, vi v3, vi v4, vi v5, vi v6, vi v7, vi 0] [] sh2 R2 M2 0 0))) else Q v6 sh1 R1 M1)))))) :
    Go d 102 Q 15 [vr v0, vr v1, vn, vi v3, vi v4, vi v5, vi v6, vi v7, vn] [] sh R M 0 0 :=
  Go_wp (cuts := [(15, [1, 1, 0, 1, 1, 1, 1, 1, 0]), (29, [1, 1, 0, 1, 1, 1, 1, 1, 1])]) 17 15 mok102 rfl h
theorem b_X10_unseen_29 {d : Nat} {Q : RES} {sh : SHP} {R M : MEM} {v0 v1 v3 v4 v5 v6 v7 v8 : Int}
    (h : ook sh 4 v1 ((if v8 < (M v1 7) then ook sh 10 v0 (Cd d 100 [vr v0, vr v1, vi v8] sh R M 0 0 (fun (x1 : Int) (sh1 : SHP) (R1 M1 : MEM) => (x1 = 0 ∨ x1 = 1) → (if x1 = 0 then Go d 102 Q 29 [vr v0, vr v1, vn, vi v3, vi v4, vi v5, vi v6, vi v7, vi (iadd v8 1)] [] sh1 R1 M1 0 0 else ook sh1 10 v0 (Cd d 99 [vr v0, vr v1, vi v8, vi v3, vi (isub v4 v7)] sh1 R1 M1 0 0 (fun (x2 : Int) (sh2 : SHP) (R2 M2 : MEM) => (if x2 = v5 then Go d 102 Q 29 [vr v0, vr v1, vn, vi v3, vi v4, vi v5, vi (iadd v6 1), vi v7, vi (iadd v8 1)] [] sh2 R2 M2 0 0 else Go d 102 Q 29 [vr v0, vr v1, vn, vi v3, vi v4, vi v5, vi v6, vi v7, vi (iadd v8 1)] [] sh2 R2 M2 0 0)))))) else Go d 102 Q 15 [vr v0, vr v1, vn, vi v3, vi v4, vi v5, vi v6, vi (iadd v7 1), vn] [] sh R M 0 0))) :
    Go d 102 Q 29 [vr v0, vr v1, vn, vi v3, vi v4, vi v5, vi v6, vi v7, vi v8] [] sh R M 0 0 :=
  Go_wp (cuts := [(15, [1, 1, 0, 1, 1, 1, 1, 1, 0]), (29, [1, 1, 0, 1, 1, 1, 1, 1, 1])]) 25 29 mok102 rfl h
theorem b_X10_unadded_0 {d : Nat} {Q : RES} {sh : SHP} {R M : MEM} {v0 v1 v2 v3 v4 v5 v6 : Int}
    (h : Go d 103 Q 2 [vr v0, vr v1, vi v2, vi v3, vi v4, vi v5, vi v6, vi 0, vn, vn] [] sh R M 0 0) :
    Go d 103 Q 0 [vr v0, vr v1, vi v2, vi v3, vi v4, vi v5, vi v6, vn, vn, vn] [] sh R M 0 0 :=
  Go_wp (cuts := [(2, [1, 1, 1, 1, 1, 1, 1, 1, 0, 0]), (14, [1, 1, 1, 1, 1, 1, 1, 1, 0, 0]), (42, [1, 0, 0, 0, 1, 0, 1, 1, 1, 0]), (50, [1, 0, 0, 0, 1, 0, 1, 1, 1, 1])]) 5 0 mok103 rfl h
theorem b_X10_unadded_2 {d : Nat} {Q : RES} {sh : SHP} {R M : MEM} {v0 v1 v2 v3 v4 v5 v6 v7 : Int}
    (h : (if v7 < 3 then ook sh 10 v0 (aok sh 100 (R v0 2) v7 (Go d 103 Q 2 [vr v0, vr v1, vi v2, vi v3, vi v4, vi v5, vi v6, vi (iadd v7 1), vn, vn] [] sh R (stm M (R v0 2) v7 0) 0 0)) else Go d 103 Q 14 [vr v0, vr v1, vi v2, vi v3, vi v4, vi v5, vi v6, vi 1, vn, vn] [] sh R M 0 0)) :
    Go d 103 Q 2 [vr v0, vr v1, vi v2, vi v3, vi v4, vi v5, vi v6, vi v7, vn, vn] [] sh R M 0 0 :=
  Go_wp (cuts := [(2, [1, 1, 1, 1, 1, 1, 1, 1, 0, 0]), (14, [1, 1, 1, 1, 1, 1, 1, 1, 0, 0]), (42, [1, 0, 0, 0, 1, 0, 1, 1, 1, 0]), (50, [1, 0, 0, 0, 1, 0, 1, 1, 1, 1])]) 13 2 mok103 rfl h
theorem b_X10_unadded_14 {d : Nat} {Q : RES} {sh : SHP} {R M : MEM} {v0 v1 v2 v3 v4 v5 v6 v7 : Int}
    (h : (if v4 < v7 then Go d 103 Q 42 [vr v0, vn, vn, vn, vi v4, vn, vi v6, vi 0, vi 1, vn] [] sh R M 0 0 else (if 40 < v7 then Go d 103 Q 42 [vr v0, vn, vn, vn, vi v4, vn, vi v6, vi 0, vi 1, vn] [] sh R M 0 0 else ook sh 10 v0 (aok sh 100 (R v0 2) v2 (ook sh 10 v0 (ook sh 10 v0 (ook sh 10 v0 (Cd d 97 [vr v0, vr v1, vr (R v0 2), vi v3, vi v5] sh R (stm M (R v0 2) v2 v7) 0 0 (fun (x1 : Int) (sh1 : SHP) (R1 M1 : MEM) => aok sh1 100 (R v0 3) v7 (Go d 103 Q 14 [vr v0, vr v1, vi v2, vi v3, vi v4, vi v5, vi v6, vi (iadd v7 1), vn, vn] [] sh1 R1 (stm M1 (R v0 3) v7 x1) 0 0)))))))))) :
    Go d 103 Q 14 [vr v0, vr v1, vi v2, vi v3, vi v4, vi v5, vi v6, vi v7, vn, vn] [] sh R M 0 0 :=
  Go_wp (cuts := [(2, [1, 1, 1, 1, 1, 1, 1, 1, 0, 0]), (14, [1, 1, 1, 1, 1, 1, 1, 1, 0, 0]), (42, [1, 0, 0, 0, 1, 0, 1, 1, 1, 0]), (50, [1, 0, 0, 0, 1, 0, 1, 1, 1, 1])]) 27 14 mok103 rfl h
theorem b_X10_unadded_42 {d : Nat} {Q : RES} {sh : SHP} {R M : MEM} {v0 v4 v6 v7 v8 : Int}
    (h : (if v4 < v8 then (if 0 < v6 then Q (-1) sh R M else Q v7 sh R M) else (if 40 < v4 then (if 0 < v6 then Q (-1) sh R M else Q v7 sh R M) else Go d 103 Q 50 [vr v0, vn, vn, vn, vi v4, vn, vi v6, vi v7, vi v8, vi v8] [] sh R M 0 0))) :
    Go d 103 Q 42 [vr v0, vn, vn, vn, vi v4, vn, vi v6, vi v7, vi v8, vn] [] sh R M 0 0 :=
  Go_wp (cuts := [(2, [1, 1, 1, 1, 1, 1, 1, 1, 0, 0]), (14, [1, 1, 1, 1, 1, 1, 1, 1, 0, 0]), (42, [1, 0, 0, 0, 1, 0, 1, 1, 1, 0]), (50, [1, 0, 0, 0, 1, 0, 1, 1, 1, 1])]) 13 42 mok103 rfl h
theorem b_X10_unadded_50 {d : Nat} {Q : RES} {sh : SHP} {R M : MEM} {v0 v4 v6 v7 v8 v9 : Int}
    (h : (if (isub v4 v8) < v9 then Go d 103 Q 42 [vr v0, vn, vn, vn, vi v4, vn, vi v6, vi v7, vi (iadd v8 1), vn] [] sh R M 0 0 else ook sh 10 v0 (aok sh 100 (R v0 3) (iadd v8 v9) (ook sh 10 v0 (aok sh 100 (R v0 3) v8 (ook sh 10 v0 (aok sh 100 (R v0 3) v9 ((if (M (R v0 3) (iadd v8 v9)) = (iadd (M (R v0 3) v8) (M (R v0 3) v9)) then Go d 103 Q 50 [vr v0, vn, vn, vn, vi v4, vn, vi v6, vi v7, vi v8, vi (iadd v9 1)] [] sh R M 0 0 else (if 0 < v6 then (if v6 = 1 then Q v8 sh R M else Q v9 sh R M) else Go d 103 Q 50 [vr v0, vn, vn, vn, vi v4, vn, vi v6, vi (iadd v7 1), vi v8, vi (iadd v9 1)] [] sh R M 0 0)))))))))) :
    Go d 103 Q 50 [vr v0, vn, vn, vn, vi v4, vn, vi v6, vi v7, vi v8, vi v9] [] sh R M 0 0 :=
  Go_wp (cuts := [(2, [1, 1, 1, 1, 1, 1, 1, 1, 0, 0]), (14, [1, 1, 1, 1, 1, 1, 1, 1, 0, 0]), (42, [1, 0, 0, 0, 1, 0, 1, 1, 1, 0]), (50, [1, 0, 0, 0, 1, 0, 1, 1, 1, 1])]) 31 50 mok103 rfl h
theorem b_X11_init_0 {d : Nat} {Q : RES} {sh : SHP} {R M : MEM} {v0 : Int}
    (h : 0 ≤ v0 ∧ (fun (sh1 : SHP) (R1 M1 : MEM) => ook sh1 4 (sh.length : Int) (Cd d 22 [vr (sh.length : Int)] sh1 R1 M1 12 1735 (fun (_ : Int) (sh2 : SHP) (R2 M2 : MEM) => ook sh2 11 v0 ((fun (sh3 : SHP) (R3 M3 : MEM) => ook sh3 4 (sh2.length : Int) (Cd d 22 [vr (sh2.length : Int)] sh3 R3 M3 12 1735 (fun (_ : Int) (sh4 : SHP) (R4 M4 : MEM) => ook sh4 11 v0 ((fun (sh5 : SHP) (R5 M5 : MEM) => ook sh5 9 (sh4.length : Int) (Cd d 81 [vr (sh4.length : Int)] sh5 R5 M5 5 6421 (fun (_ : Int) (sh6 : SHP) (R6 M6 : MEM) => ook sh6 11 v0 ((fun (sh7 : SHP) (R7 M7 : MEM) => ook sh7 11 v0 (ook sh7 11 v0 (ook sh7 5 (sh6.length : Int) (Cd d 33 [vr (sh6.length : Int), vr (R7 v0 0), vr (R7 v0 13)] sh7 R7 M7 2 16 (fun (_ : Int) (sh8 : SHP) (R8 M8 : MEM) => ook sh8 11 v0 ((fun (sh9 : SHP) (R9 M9 : MEM) => ook sh9 0 (sh8.length : Int) (Cd d 0 [vr (sh8.length : Int)] sh9 R9 M9 206 12218 (fun (_ : Int) (sh10 : SHP) (R10 M10 : MEM) => ook sh10 11 v0 ((0 : Int) ≤ 3 ∧ (fun (sh11 : SHP) (R11 M11 : MEM) => ook sh11 11 v0 (Go d 104 Q 37 [vr v0, vi 0] [] sh11 (stm R11 v0 3 (sh10.length : Int)) M11 120 2427)) (newk 104 3 sh10 (stm R10 v0 2 (sh8.length : Int)) M10).1 (newk 104 3 sh10 (stm R10 v0 2 (sh8.length : Int)) M10).2.1 (newk 104 3 sh10 (stm R10 v0 2 (sh8.length : Int)) M10).2.2)))) (newk 0 0 sh8 (stm R8 v0 1 (sh6.length : Int)) M8).1 (newk 0 0 sh8 (stm R8 v0 1 (sh6.length : Int)) M8).2.1 (newk 0 0 sh8 (stm R8 v0 1 (sh6.length : Int)) M8).2.2)))))) (newk 5 0 sh6 (stm R6 v0 0 (sh4.length : Int)) M6).1 (newk 5 0 sh6 (stm R6 v0 0 (sh4.length : Int)) M6).2.1 (newk 5 0 sh6 (stm R6 v0 0 (sh4.length : Int)) M6).2.2)))) (newk 9 0 sh4 (stm R4 v0 13 (sh2.length : Int)) M4).1 (newk 9 0 sh4 (stm R4 v0 13 (sh2.length : Int)) M4).2.1 (newk 9 0 sh4 (stm R4 v0 13 (sh2.length : Int)) M4).2.2)))) (newk 4 0 sh2 (stm R2 v0 12 (sh.length : Int)) M2).1 (newk 4 0 sh2 (stm R2 v0 12 (sh.length : Int)) M2).2.1 (newk 4 0 sh2 (stm R2 v0 12 (sh.length : Int)) M2).2.2)))) (newk 4 0 sh R M).1 (newk 4 0 sh R M).2.1 (newk 4 0 sh R M).2.2) :
    Go d 104 Q 0 [vr v0, vn] [] sh R M 363 24617 :=
  Go_wp (cuts := [(37, [1, 1])]) 40 0 mok104 rfl h
set_option maxRecDepth 20000 in
theorem b_X11_init_37_0 {d : Nat} {Q : RES} {sh : SHP} {R M : MEM} {v0 v1 : Int}
    (h : (if v1 < 3 then ook sh 11 v0 ((fun (sh15 : SHP) (R15 M15 : MEM) => ook sh15 8 (sh.length : Int) (Cd d 66 [vr (sh.length : Int)] sh15 R15 M15 4 286 (fun (_ : Int) (sh16 : SHP) (R16 M16 : MEM) => aok sh16 104 (R v0 3) v1 (ook sh16 8 (sh.length : Int) (Go d 104 Q 37 [vr v0, vi (iadd v1 1)] [] sh16 (stm R16 (R v0 3) v1 (sh.length : Int)) M16 115 2130))))) (newk 8 0 sh R M).1 (newk 8 0 sh R M).2.1 (newk 8 0 sh R M).2.2) else (0 : Int) ≤ 3 ∧ (fun (sh1 : SHP) (R1 M1 : MEM) => ook sh1 11 v0 ((0 : Int) ≤ 3 ∧ (fun (sh2 : SHP) (R2 M2 : MEM) => ook sh2 11 v0 ((fun (sh3 : SHP) (R3 M3 : MEM) => ook sh3 10 (sh2.length : Int) (Cd d 95 [vr (sh2.length : Int)] sh3 R3 M3 12 638 (fun (_ : Int) (sh4 : SHP) (R4 M4 : MEM) => ook sh4 11 v0 ((fun (sh5 : SHP) (R5 M5 : MEM) => ook sh5 6 (sh4.length : Int) (Cd d 52 [vr (sh4.length : Int)] sh5 R5 M5 63 681 (fun (_ : Int) (sh6 : SHP) (R6 M6 : MEM) => ook sh6 11 v0 ((fun (sh7 : SHP) (R7 M7 : MEM) => ook sh7 3 (sh6.length : Int) (Cd d 20 [vr (sh6.length : Int)] sh7 R7 M7 1 8 (fun (_ : Int) (sh8 : SHP) (R8 M8 : MEM) => ook sh8 11 v0 ((fun (sh9 : SHP) (R9 M9 : MEM) => ook sh9 11 v0 (ook sh9 11 v0 (ook sh9 11 v0 (ook sh9 2 (sh8.length : Int) (Cd d 13 [vr (sh8.length : Int), vr (R9 v0 6), vr (R9 v0 8), vr (R9 v0 11)] sh9 R9 M9 1 3 (fun (_ : Int) (sh10 : SHP) (R10 M10 : MEM) => ook sh10 11 v0 ((fun (sh11 : SHP) (R11 M11 : MEM) => ook sh11 11 v0 (ook sh11 1 (sh10.length : Int) (Cd d 7 [vr (sh10.length : Int), vr (R11 v0 11)] sh11 R11 M11 12 57 (fun (_ : Int) (sh12 : SHP) (R12 M12 : MEM) => ook sh12 11 v0 ((fun (sh13 : SHP) (R13 M13 : MEM) => ook sh13 11 v0 (ook sh13 7 (sh12.length : Int) (Cd d 60 [vr (sh12.length : Int), vr (R13 v0 6)] sh13 R13 M13 8 109 (fun (_ : Int) (sh14 : SHP) (R14 M14 : MEM) => ook sh14 11 v0 (Q 0 sh14 (stm R14 v0 10 (sh12.length : Int)) M14))))) (newk 7 0 sh12 (stm R12 v0 9 (sh10.length : Int)) M12).1 (newk 7 0 sh12 (stm R12 v0 9 (sh10.length : Int)) M12).2.1 (newk 7 0 sh12 (stm R12 v0 9 (sh10.length : Int)) M12).2.2))))) (newk 1 0 sh10 (stm R10 v0 7 (sh8.length : Int)) M10).1 (newk 1 0 sh10 (stm R10 v0 7 (sh8.length : Int)) M10).2.1 (newk 1 0 sh10 (stm R10 v0 7 (sh8.length : Int)) M10).2.2))))))) (newk 2 0 sh8 (stm R8 v0 11 (sh6.length : Int)) M8).1 (newk 2 0 sh8 (stm R8 v0 11 (sh6.length : Int)) M8).2.1 (newk 2 0 sh8 (stm R8 v0 11 (sh6.length : Int)) M8).2.2)))) (newk 3 0 sh6 (stm R6 v0 8 (sh4.length : Int)) M6).1 (newk 3 0 sh6 (stm R6 v0 8 (sh4.length : Int)) M6).2.1 (newk 3 0 sh6 (stm R6 v0 8 (sh4.length : Int)) M6).2.2)))) (newk 6 0 sh4 (stm R4 v0 6 (sh2.length : Int)) M4).1 (newk 6 0 sh4 (stm R4 v0 6 (sh2.length : Int)) M4).2.1 (newk 6 0 sh4 (stm R4 v0 6 (sh2.length : Int)) M4).2.2)))) (newk 10 0 sh2 (stm R2 v0 5 (sh1.length : Int)) M2).1 (newk 10 0 sh2 (stm R2 v0 5 (sh1.length : Int)) M2).2.1 (newk 10 0 sh2 (stm R2 v0 5 (sh1.length : Int)) M2).2.2)) (newk 100 3 sh1 (stm R1 v0 4 (sh.length : Int)) M1).1 (newk 100 3 sh1 (stm R1 v0 4 (sh.length : Int)) M1).2.1 (newk 100 3 sh1 (stm R1 v0 4 (sh.length : Int)) M1).2.2)) (newk 103 3 sh R M).1 (newk 103 3 sh R M).2.1 (newk 103 3 sh R M).2.2)) :
    Go d 104 Q 37 [vr v0, vi v1] [] sh R M 120 2427 :=
  Go_wp (cuts := [(37, [1, 1])]) 54 37 mok104 rfl h
set_option maxRecDepth 20000 in
theorem b_X11_init_37_1 {d : Nat} {Q : RES} {sh : SHP} {R M : MEM} {v0 v1 : Int}
    (h : (if v1 < 3 then ook sh 11 v0 ((fun (sh15 : SHP) (R15 M15 : MEM) => ook sh15 8 (sh.length : Int) (Cd d 66 [vr (sh.length : Int)] sh15 R15 M15 4 286 (fun (_ : Int) (sh16 : SHP) (R16 M16 : MEM) => aok sh16 104 (R v0 3) v1 (ook sh16 8 (sh.length : Int) (Go d 104 Q 37 [vr v0, vi (iadd v1 1)] [] sh16 (stm R16 (R v0 3) v1 (sh.length : Int)) M16 110 1833))))) (newk 8 0 sh R M).1 (newk 8 0 sh R M).2.1 (newk 8 0 sh R M).2.2) else (0 : Int) ≤ 3 ∧ (fun (sh1 : SHP) (R1 M1 : MEM) => ook sh1 11 v0 ((0 : Int) ≤ 3 ∧ (fun (sh2 : SHP) (R2 M2 : MEM) => ook sh2 11 v0 ((fun (sh3 : SHP) (R3 M3 : MEM) => ook sh3 10 (sh2.length : Int) (Cd d 95 [vr (sh2.length : Int)] sh3 R3 M3 12 638 (fun (_ : Int) (sh4 : SHP) (R4 M4 : MEM) => ook sh4 11 v0 ((fun (sh5 : SHP) (R5 M5 : MEM) => ook sh5 6 (sh4.length : Int) (Cd d 52 [vr (sh4.length : Int)] sh5 R5 M5 63 681 (fun (_ : Int) (sh6 : SHP) (R6 M6 : MEM) => ook sh6 11 v0 ((fun (sh7 : SHP) (R7 M7 : MEM) => ook sh7 3 (sh6.length : Int) (Cd d 20 [vr (sh6.length : Int)] sh7 R7 M7 1 8 (fun (_ : Int) (sh8 : SHP) (R8 M8 : MEM) => ook sh8 11 v0 ((fun (sh9 : SHP) (R9 M9 : MEM) => ook sh9 11 v0 (ook sh9 11 v0 (ook sh9 11 v0 (ook sh9 2 (sh8.length : Int) (Cd d 13 [vr (sh8.length : Int), vr (R9 v0 6), vr (R9 v0 8), vr (R9 v0 11)] sh9 R9 M9 1 3 (fun (_ : Int) (sh10 : SHP) (R10 M10 : MEM) => ook sh10 11 v0 ((fun (sh11 : SHP) (R11 M11 : MEM) => ook sh11 11 v0 (ook sh11 1 (sh10.length : Int) (Cd d 7 [vr (sh10.length : Int), vr (R11 v0 11)] sh11 R11 M11 12 57 (fun (_ : Int) (sh12 : SHP) (R12 M12 : MEM) => ook sh12 11 v0 ((fun (sh13 : SHP) (R13 M13 : MEM) => ook sh13 11 v0 (ook sh13 7 (sh12.length : Int) (Cd d 60 [vr (sh12.length : Int), vr (R13 v0 6)] sh13 R13 M13 8 109 (fun (_ : Int) (sh14 : SHP) (R14 M14 : MEM) => ook sh14 11 v0 (Q 0 sh14 (stm R14 v0 10 (sh12.length : Int)) M14))))) (newk 7 0 sh12 (stm R12 v0 9 (sh10.length : Int)) M12).1 (newk 7 0 sh12 (stm R12 v0 9 (sh10.length : Int)) M12).2.1 (newk 7 0 sh12 (stm R12 v0 9 (sh10.length : Int)) M12).2.2))))) (newk 1 0 sh10 (stm R10 v0 7 (sh8.length : Int)) M10).1 (newk 1 0 sh10 (stm R10 v0 7 (sh8.length : Int)) M10).2.1 (newk 1 0 sh10 (stm R10 v0 7 (sh8.length : Int)) M10).2.2))))))) (newk 2 0 sh8 (stm R8 v0 11 (sh6.length : Int)) M8).1 (newk 2 0 sh8 (stm R8 v0 11 (sh6.length : Int)) M8).2.1 (newk 2 0 sh8 (stm R8 v0 11 (sh6.length : Int)) M8).2.2)))) (newk 3 0 sh6 (stm R6 v0 8 (sh4.length : Int)) M6).1 (newk 3 0 sh6 (stm R6 v0 8 (sh4.length : Int)) M6).2.1 (newk 3 0 sh6 (stm R6 v0 8 (sh4.length : Int)) M6).2.2)))) (newk 6 0 sh4 (stm R4 v0 6 (sh2.length : Int)) M4).1 (newk 6 0 sh4 (stm R4 v0 6 (sh2.length : Int)) M4).2.1 (newk 6 0 sh4 (stm R4 v0 6 (sh2.length : Int)) M4).2.2)))) (newk 10 0 sh2 (stm R2 v0 5 (sh1.length : Int)) M2).1 (newk 10 0 sh2 (stm R2 v0 5 (sh1.length : Int)) M2).2.1 (newk 10 0 sh2 (stm R2 v0 5 (sh1.length : Int)) M2).2.2)) (newk 100 3 sh1 (stm R1 v0 4 (sh.length : Int)) M1).1 (newk 100 3 sh1 (stm R1 v0 4 (sh.length : Int)) M1).2.1 (newk 100 3 sh1 (stm R1 v0 4 (sh.length : Int)) M1).2.2)) (newk 103 3 sh R M).1 (newk 103 3 sh R M).2.1 (newk 103 3 sh R M).2.2)) :
    Go d 104 Q 37 [vr v0, vi v1] [] sh R M 115 2130 :=
  Go_wp (cuts := [(37, [1, 1])]) 54 37 mok104 rfl h
set_option maxRecDepth 20000 in
theorem b_X11_init_37_2 {d : Nat} {Q : RES} {sh : SHP} {R M : MEM} {v0 v1 : Int}
    (h : (if v1 < 3 then ook sh 11 v0 ((fun (sh15 : SHP) (R15 M15 : MEM) => ook sh15 8 (sh.length : Int) (Cd d 66 [vr (sh.length : Int)] sh15 R15 M15 4 286 (fun (_ : Int) (sh16 : SHP) (R16 M16 : MEM) => aok sh16 104 (R v0 3) v1 (ook sh16 8 (sh.length : Int) (Go d 104 Q 37 [vr v0, vi (iadd v1 1)] [] sh16 (stm R16 (R v0 3) v1 (sh.length : Int)) M16 105 1536))))) (newk 8 0 sh R M).1 (newk 8 0 sh R M).2.1 (newk 8 0 sh R M).2.2) else (0 : Int) ≤ 3 ∧ (fun (sh1 : SHP) (R1 M1 : MEM) => ook sh1 11 v0 ((0 : Int) ≤ 3 ∧ (fun (sh2 : SHP) (R2 M2 : MEM) => ook sh2 11 v0 ((fun (sh3 : SHP) (R3 M3 : MEM) => ook sh3 10 (sh2.length : Int) (Cd d 95 [vr (sh2.length : Int)] sh3 R3 M3 12 638 (fun (_ : Int) (sh4 : SHP) (R4 M4 : MEM) => ook sh4 11 v0 ((fun (sh5 : SHP) (R5 M5 : MEM) => ook sh5 6 (sh4.length : Int) (Cd d 52 [vr (sh4.length : Int)] sh5 R5 M5 63 681 (fun (_ : Int) (sh6 : SHP) (R6 M6 : MEM) => ook sh6 11 v0 ((fun (sh7 : SHP) (R7 M7 : MEM) => ook sh7 3 (sh6.length : Int) (Cd d 20 [vr (sh6.length : Int)] sh7 R7 M7 1 8 (fun (_ : Int) (sh8 : SHP) (R8 M8 : MEM) => ook sh8 11 v0 ((fun (sh9 : SHP) (R9 M9 : MEM) => ook sh9 11 v0 (ook sh9 11 v0 (ook sh9 11 v0 (ook sh9 2 (sh8.length : Int) (Cd d 13 [vr (sh8.length : Int), vr (R9 v0 6), vr (R9 v0 8), vr (R9 v0 11)] sh9 R9 M9 1 3 (fun (_ : Int) (sh10 : SHP) (R10 M10 : MEM) => ook sh10 11 v0 ((fun (sh11 : SHP) (R11 M11 : MEM) => ook sh11 11 v0 (ook sh11 1 (sh10.length : Int) (Cd d 7 [vr (sh10.length : Int), vr (R11 v0 11)] sh11 R11 M11 12 57 (fun (_ : Int) (sh12 : SHP) (R12 M12 : MEM) => ook sh12 11 v0 ((fun (sh13 : SHP) (R13 M13 : MEM) => ook sh13 11 v0 (ook sh13 7 (sh12.length : Int) (Cd d 60 [vr (sh12.length : Int), vr (R13 v0 6)] sh13 R13 M13 8 109 (fun (_ : Int) (sh14 : SHP) (R14 M14 : MEM) => ook sh14 11 v0 (Q 0 sh14 (stm R14 v0 10 (sh12.length : Int)) M14))))) (newk 7 0 sh12 (stm R12 v0 9 (sh10.length : Int)) M12).1 (newk 7 0 sh12 (stm R12 v0 9 (sh10.length : Int)) M12).2.1 (newk 7 0 sh12 (stm R12 v0 9 (sh10.length : Int)) M12).2.2))))) (newk 1 0 sh10 (stm R10 v0 7 (sh8.length : Int)) M10).1 (newk 1 0 sh10 (stm R10 v0 7 (sh8.length : Int)) M10).2.1 (newk 1 0 sh10 (stm R10 v0 7 (sh8.length : Int)) M10).2.2))))))) (newk 2 0 sh8 (stm R8 v0 11 (sh6.length : Int)) M8).1 (newk 2 0 sh8 (stm R8 v0 11 (sh6.length : Int)) M8).2.1 (newk 2 0 sh8 (stm R8 v0 11 (sh6.length : Int)) M8).2.2)))) (newk 3 0 sh6 (stm R6 v0 8 (sh4.length : Int)) M6).1 (newk 3 0 sh6 (stm R6 v0 8 (sh4.length : Int)) M6).2.1 (newk 3 0 sh6 (stm R6 v0 8 (sh4.length : Int)) M6).2.2)))) (newk 6 0 sh4 (stm R4 v0 6 (sh2.length : Int)) M4).1 (newk 6 0 sh4 (stm R4 v0 6 (sh2.length : Int)) M4).2.1 (newk 6 0 sh4 (stm R4 v0 6 (sh2.length : Int)) M4).2.2)))) (newk 10 0 sh2 (stm R2 v0 5 (sh1.length : Int)) M2).1 (newk 10 0 sh2 (stm R2 v0 5 (sh1.length : Int)) M2).2.1 (newk 10 0 sh2 (stm R2 v0 5 (sh1.length : Int)) M2).2.2)) (newk 100 3 sh1 (stm R1 v0 4 (sh.length : Int)) M1).1 (newk 100 3 sh1 (stm R1 v0 4 (sh.length : Int)) M1).2.1 (newk 100 3 sh1 (stm R1 v0 4 (sh.length : Int)) M1).2.2)) (newk 103 3 sh R M).1 (newk 103 3 sh R M).2.1 (newk 103 3 sh R M).2.2)) :
    Go d 104 Q 37 [vr v0, vi v1] [] sh R M 110 1833 :=
  Go_wp (cuts := [(37, [1, 1])]) 54 37 mok104 rfl h
set_option maxRecDepth 20000 in
theorem b_X11_init_37_3 {d : Nat} {Q : RES} {sh : SHP} {R M : MEM} {v0 v1 : Int}
    (h : (if v1 < 3 then ook sh 11 v0 ((fun (sh15 : SHP) (R15 M15 : MEM) => ook sh15 8 (sh.length : Int) (Cd d 66 [vr (sh.length : Int)] sh15 R15 M15 4 286 (fun (_ : Int) (sh16 : SHP) (R16 M16 : MEM) => aok sh16 104 (R v0 3) v1 (ook sh16 8 (sh.length : Int) (Go d 104 Q 37 [vr v0, vi (iadd v1 1)] [] sh16 (stm R16 (R v0 3) v1 (sh.length : Int)) M16 100 1239))))) (newk 8 0 sh R M).1 (newk 8 0 sh R M).2.1 (newk 8 0 sh R M).2.2) else (0 : Int) ≤ 3 ∧ (fun (sh1 : SHP) (R1 M1 : MEM) => ook sh1 11 v0 ((0 : Int) ≤ 3 ∧ (fun (sh2 : SHP) (R2 M2 : MEM) => ook sh2 11 v0 ((fun (sh3 : SHP) (R3 M3 : MEM) => ook sh3 10 (sh2.length : Int) (Cd d 95 [vr (sh2.length : Int)] sh3 R3 M3 12 638 (fun (_ : Int) (sh4 : SHP) (R4 M4 : MEM) => ook sh4 11 v0 ((fun (sh5 : SHP) (R5 M5 : MEM) => ook sh5 6 (sh4.length : Int) (Cd d 52 [vr (sh4.length : Int)] sh5 R5 M5 63 681 (fun (_ : Int) (sh6 : SHP) (R6 M6 : MEM) => ook sh6 11 v0 ((fun (sh7 : SHP) (R7 M7 : MEM) => ook sh7 3 (sh6.length : Int) (Cd d 20 [vr (sh6.length : Int)] sh7 R7 M7 1 8 (fun (_ : Int) (sh8 : SHP) (R8 M8 : MEM) => ook sh8 11 v0 ((fun (sh9 : SHP) (R9 M9 : MEM) => ook sh9 11 v0 (ook sh9 11 v0 (ook sh9 11 v0 (ook sh9 2 (sh8.length : Int) (Cd d 13 [vr (sh8.length : Int), vr (R9 v0 6), vr (R9 v0 8), vr (R9 v0 11)] sh9 R9 M9 1 3 (fun (_ : Int) (sh10 : SHP) (R10 M10 : MEM) => ook sh10 11 v0 ((fun (sh11 : SHP) (R11 M11 : MEM) => ook sh11 11 v0 (ook sh11 1 (sh10.length : Int) (Cd d 7 [vr (sh10.length : Int), vr (R11 v0 11)] sh11 R11 M11 12 57 (fun (_ : Int) (sh12 : SHP) (R12 M12 : MEM) => ook sh12 11 v0 ((fun (sh13 : SHP) (R13 M13 : MEM) => ook sh13 11 v0 (ook sh13 7 (sh12.length : Int) (Cd d 60 [vr (sh12.length : Int), vr (R13 v0 6)] sh13 R13 M13 8 109 (fun (_ : Int) (sh14 : SHP) (R14 M14 : MEM) => ook sh14 11 v0 (Q 0 sh14 (stm R14 v0 10 (sh12.length : Int)) M14))))) (newk 7 0 sh12 (stm R12 v0 9 (sh10.length : Int)) M12).1 (newk 7 0 sh12 (stm R12 v0 9 (sh10.length : Int)) M12).2.1 (newk 7 0 sh12 (stm R12 v0 9 (sh10.length : Int)) M12).2.2))))) (newk 1 0 sh10 (stm R10 v0 7 (sh8.length : Int)) M10).1 (newk 1 0 sh10 (stm R10 v0 7 (sh8.length : Int)) M10).2.1 (newk 1 0 sh10 (stm R10 v0 7 (sh8.length : Int)) M10).2.2))))))) (newk 2 0 sh8 (stm R8 v0 11 (sh6.length : Int)) M8).1 (newk 2 0 sh8 (stm R8 v0 11 (sh6.length : Int)) M8).2.1 (newk 2 0 sh8 (stm R8 v0 11 (sh6.length : Int)) M8).2.2)))) (newk 3 0 sh6 (stm R6 v0 8 (sh4.length : Int)) M6).1 (newk 3 0 sh6 (stm R6 v0 8 (sh4.length : Int)) M6).2.1 (newk 3 0 sh6 (stm R6 v0 8 (sh4.length : Int)) M6).2.2)))) (newk 6 0 sh4 (stm R4 v0 6 (sh2.length : Int)) M4).1 (newk 6 0 sh4 (stm R4 v0 6 (sh2.length : Int)) M4).2.1 (newk 6 0 sh4 (stm R4 v0 6 (sh2.length : Int)) M4).2.2)))) (newk 10 0 sh2 (stm R2 v0 5 (sh1.length : Int)) M2).1 (newk 10 0 sh2 (stm R2 v0 5 (sh1.length : Int)) M2).2.1 (newk 10 0 sh2 (stm R2 v0 5 (sh1.length : Int)) M2).2.2)) (newk 100 3 sh1 (stm R1 v0 4 (sh.length : Int)) M1).1 (newk 100 3 sh1 (stm R1 v0 4 (sh.length : Int)) M1).2.1 (newk 100 3 sh1 (stm R1 v0 4 (sh.length : Int)) M1).2.2)) (newk 103 3 sh R M).1 (newk 103 3 sh R M).2.1 (newk 103 3 sh R M).2.2)) :
    Go d 104 Q 37 [vr v0, vi v1] [] sh R M 105 1536 :=
  Go_wp (cuts := [(37, [1, 1])]) 54 37 mok104 rfl h
theorem b_X11_feed_0 {d : Nat} {Q : RES} {sh : SHP} {R M : MEM} {v0 v1 v2 v3 v4 v5 : Int}
    (h : ook sh 11 v0 (ook sh 9 (R v0 0) ((if 1580 < (M (R v0 0) 1) then Q (-1) sh R M else ook sh 11 v0 (ook sh 9 (R v0 0) (Cd d 82 [vr (R v0 0), vi v1] sh R M 0 0 (fun (_ : Int) (sh1 : SHP) (R1 M1 : MEM) => ook sh1 11 v0 (ook sh1 9 (R1 v0 0) (Cd d 82 [vr (R1 v0 0), vi v2] sh1 R1 M1 0 0 (fun (_ : Int) (sh2 : SHP) (R2 M2 : MEM) => ook sh2 11 v0 (ook sh2 9 (R2 v0 0) (Cd d 82 [vr (R2 v0 0), vi v3] sh2 R2 M2 0 0 (fun (_ : Int) (sh3 : SHP) (R3 M3 : MEM) => ook sh3 11 v0 (ook sh3 9 (R3 v0 0) (Cd d 82 [vr (R3 v0 0), vi v4] sh3 R3 M3 0 0 (fun (_ : Int) (sh4 : SHP) (R4 M4 : MEM) => ook sh4 11 v0 (ook sh4 9 (R4 v0 0) (Cd d 82 [vr (R4 v0 0), vi v5] sh4 R4 M4 0 0 (fun (_ : Int) (sh5 : SHP) (R5 M5 : MEM) => ook sh5 11 v0 (ook sh5 9 (R5 v0 0) (Q (M5 (R5 v0 0) 1) sh5 R5 M5))))))))))))))))))))) :
    Go d 105 Q 0 [vr v0, vi v1, vi v2, vi v3, vi v4, vi v5] [] sh R M 0 0 :=
  Go_wp (cuts := []) 31 0 mok105 rfl h
theorem b_X11_end_0 {d : Nat} {Q : RES} {sh : SHP} {R M : MEM} {v0 v1 : Int}
    (h : (if v1 < 0 then Q (-1) sh R M else ook sh 11 v0 (ook sh 9 (R v0 0) ((if (M (R v0 0) 1) < v1 then Q (-1) sh R M else ook sh 11 v0 (ook sh 9 (R v0 0) (Q v1 sh R (stm M (R v0 0) 1 v1)))))))) :
    Go d 106 Q 0 [vr v0, vi v1] [] sh R M 0 0 :=
  Go_wp (cuts := []) 15 0 mok106 rfl h
theorem b_X11_net_0 {d : Nat} {Q : RES} {sh : SHP} {R M : MEM} {v0 : Int}
    (h : ook sh 11 v0 (ook sh 11 v0 (ook sh 5 (R v0 1) (Cd d 34 [vr (R v0 1), vr (R v0 13)] sh R M 0 0 (fun (x1 : Int) (sh1 : SHP) (R1 M1 : MEM) => (x1 = 0 ∨ x1 = 1) → ook sh1 11 v0 (ook sh1 9 (R1 v0 0) ((if x1 = 0 then Q (-1) sh1 R1 (stm M1 (R1 v0 0) 1 0) else ook sh1 11 v0 (ook sh1 11 v0 (ook sh1 11 v0 (ook sh1 11 v0 (ook sh1 11 v0 (ook sh1 11 v0 (ook sh1 4 ((stm (stm R1 v0 12 (R1 v0 13)) v0 13 (R1 v0 12)) v0 12) (ook sh1 0 ((stm (stm R1 v0 12 (R1 v0 13)) v0 13 (R1 v0 12)) v0 2) (Cd d 5 [vr ((stm (stm R1 v0 12 (R1 v0 13)) v0 13 (R1 v0 12)) v0 2), vi ((stm M1 (R1 v0 0) 1 0) ((stm (stm R1 v0 12 (R1 v0 13)) v0 13 (R1 v0 12)) v0 12) 18)] sh1 (stm (stm R1 v0 12 (R1 v0 13)) v0 13 (R1 v0 12)) (stm M1 (R1 v0 0) 1 0) 0 0 (fun (_ : Int) (sh2 : SHP) (R2 M2 : MEM) => Go d 107 Q 32 [vr v0, vn, vn, vi 0] [] sh2 R2 M2 0 0))))))))))))))))) :
    Go d 107 Q 0 [vr v0, vn, vn, vn] [] sh R M 0 0 :=
  Go_wp (cuts := [(32, [1, 0, 0, 1]), (44, [1, 0, 0, 1])]) 33 0 mok107 rfl h
theorem b_X11_net_32 {d : Nat} {Q : RES} {sh : SHP} {R M : MEM} {v0 v3 : Int}
    (h : (if v3 < 3 then ook sh 11 v0 (aok sh 103 (R v0 4) v3 (Go d 107 Q 32 [vr v0, vn, vn, vi (iadd v3 1)] [] sh R (stm M (R v0 4) v3 0) 0 0)) else Go d 107 Q 44 [vr v0, vn, vn, vi 0] [] sh R M 0 0)) :
    Go d 107 Q 32 [vr v0, vn, vn, vi v3] [] sh R M 0 0 :=
  Go_wp (cuts := [(32, [1, 0, 0, 1]), (44, [1, 0, 0, 1])]) 13 32 mok107 rfl h
theorem b_X11_net_44 {d : Nat} {Q : RES} {sh : SHP} {R M : MEM} {v0 v3 : Int}
    (h : (if v3 < 3 then ook sh 11 v0 (aok sh 100 (R v0 5) v3 (Go d 107 Q 44 [vr v0, vn, vn, vi (iadd v3 1)] [] sh R (stm M (R v0 5) v3 0) 0 0)) else ook sh 11 v0 (ook sh 1 (R v0 9) (ook sh 11 v0 (ook sh 7 (R v0 10) (ook sh 11 v0 (ook sh 3 (R v0 11) (ook sh 11 v0 (ook sh 4 (R v0 12) (Q ((stm (stm (stm M (R v0 9) 0 0) (R v0 10) 0 0) (R v0 11) 1 0) (R v0 12) 0) sh R (stm (stm (stm M (R v0 9) 0 0) (R v0 10) 0 0) (R v0 11) 1 0))))))))))) :
    Go d 107 Q 44 [vr v0, vn, vn, vi v3] [] sh R M 0 0 :=
  Go_wp (cuts := [(32, [1, 0, 0, 1]), (44, [1, 0, 0, 1])]) 21 44 mok107 rfl h
theorem b_X11_fault_0 {d : Nat} {Q : RES} {sh : SHP} {R M : MEM} {v0 v1 : Int}
    (h : (if v1 = 0 then ook sh 11 v0 (ook sh 5 (R v0 1) (Q (M (R v0 1) 0) sh R M)) else (if v1 = 1 then ook sh 11 v0 (ook sh 5 (R v0 1) (Q (M (R v0 1) 1) sh R M)) else Q (-1) sh R M))) :
    Go d 108 Q 0 [vr v0, vi v1] [] sh R M 0 0 :=
  Go_wp (cuts := []) 12 0 mok108 rfl h
theorem b_X11_tower_0 {d : Nat} {Q : RES} {sh : SHP} {R M : MEM} {v0 v1 v2 : Int}
    (h : ook sh 11 v0 (Cd d 145 [vr v0, vi v1] sh R M 0 0 (fun (x1 : Int) (sh1 : SHP) (R1 M1 : MEM) => (x1 = 0 ∨ x1 = 1) → (if x1 = 0 then Q (-1) sh1 R1 M1 else (if v2 = 0 then ook sh1 11 v0 (ook sh1 4 (R1 v0 12) (aok sh1 100 (R1 (R1 v0 12) 1) v1 (Q (M1 (R1 (R1 v0 12) 1) v1) sh1 R1 M1))) else if v2 = 1 then ook sh1 11 v0 (ook sh1 4 (R1 v0 12) (aok sh1 100 (R1 (R1 v0 12) 2) v1 (Q (M1 (R1 (R1 v0 12) 2) v1) sh1 R1 M1))) else if v2 = 2 then ook sh1 11 v0 (ook sh1 0 (R1 v0 2) (Cd d 1 [vr (R1 v0 2)] sh1 R1 M1 0 0 (fun (x2 : Int) (sh2 : SHP) (R2 M2 : MEM) => ook sh2 8 x2 (aok sh2 100 (R2 x2 2) v1 (Q (M2 (R2 x2 2) v1) sh2 R2 M2))))) else if v2 = 3 then ook sh1 11 v0 (ook sh1 0 (R1 v0 2) (Cd d 1 [vr (R1 v0 2)] sh1 R1 M1 0 0 (fun (x3 : Int) (sh3 : SHP) (R3 M3 : MEM) => ook sh3 8 x3 (aok sh3 100 (R3 x3 3) v1 (Q (M3 (R3 x3 3) v1) sh3 R3 M3))))) else Q (-1) sh1 R1 M1))))) :
    Go d 109 Q 0 [vr v0, vi v1, vi v2] [] sh R M 0 0 :=
  Go_wp (cuts := []) 15 0 mok109 rfl h
theorem b_X11_way_0 {d : Nat} {Q : RES} {sh : SHP} {R M : MEM} {v0 v1 v2 : Int}
    (h : ook sh 11 v0 (Cd d 148 [vr v0, vi v1] sh R M 0 0 (fun (x1 : Int) (sh1 : SHP) (R1 M1 : MEM) => (x1 = 0 ∨ x1 = 1) → (if x1 = 0 then Q (-1) sh1 R1 M1 else (if v2 = 0 then ook sh1 11 v0 (ook sh1 4 (R1 v0 12) (aok sh1 100 (R1 (R1 v0 12) 8) v1 (Q (M1 (R1 (R1 v0 12) 8) v1) sh1 R1 M1))) else if v2 = 1 then ook sh1 11 v0 (ook sh1 4 (R1 v0 12) (aok sh1 100 (R1 (R1 v0 12) 9) v1 (Q (M1 (R1 (R1 v0 12) 9) v1) sh1 R1 M1))) else if v2 = 2 then ook sh1 11 v0 (ook sh1 4 (R1 v0 12) (aok sh1 100 (R1 (R1 v0 12) 10) v1 (Q (M1 (R1 (R1 v0 12) 10) v1) sh1 R1 M1))) else if v2 = 3 then ook sh1 11 v0 (ook sh1 0 (R1 v0 2) (Cd d 1 [vr (R1 v0 2)] sh1 R1 M1 0 0 (fun (x2 : Int) (sh2 : SHP) (R2 M2 : MEM) => ook sh2 8 x2 (Cd d 71 [vr x2, vi v1] sh2 R2 M2 0 0 (fun (x3 : Int) (sh3 : SHP) (R3 M3 : MEM) => Q x3 sh3 R3 M3))))) else Q (-1) sh1 R1 M1))))) :
    Go d 110 Q 0 [vr v0, vi v1, vi v2] [] sh R M 0 0 :=
  Go_wp (cuts := []) 14 0 mok110 rfl h
theorem b_X11_flock_0 {d : Nat} {Q : RES} {sh : SHP} {R M : MEM} {v0 v1 v2 : Int}
    (h : ook sh 11 v0 (Cd d 148 [vr v0, vi v1] sh R M 0 0 (fun (x1 : Int) (sh1 : SHP) (R1 M1 : MEM) => (x1 = 0 ∨ x1 = 1) → (if x1 = 0 then Q (-1) sh1 R1 M1 else Cd d 144 [vi v2, vi 1, vi 12] sh1 R1 M1 0 0 (fun (x2 : Int) (sh2 : SHP) (R2 M2 : MEM) => (x2 = 0 ∨ x2 = 1) → (if x2 = 0 then Q (-1) sh2 R2 M2 else ook sh2 11 v0 (ook sh2 0 (R2 v0 2) (Cd d 1 [vr (R2 v0 2)] sh2 R2 M2 0 0 (fun (x3 : Int) (sh3 : SHP) (R3 M3 : MEM) => ook sh3 8 x3 (Cd d 70 [vr x3, vi v1, vi v2] sh3 R3 M3 0 0 (fun (x4 : Int) (sh4 : SHP) (R4 M4 : MEM) => Q x4 sh4 R4 M4))))))))))) :
    Go d 111 Q 0 [vr v0, vi v1, vi v2] [] sh R M 0 0 :=
  Go_wp (cuts := []) 18 0 mok111 rfl h
theorem b_X11_geese_0 {d : Nat} {Q : RES} {sh : SHP} {R M : MEM} {v0 v1 : Int}
    (h : ook sh 11 v0 (ook sh 0 (R v0 2) (Cd d 1 [vr (R v0 2)] sh R M 0 0 (fun (x1 : Int) (sh1 : SHP) (R1 M1 : MEM) => (if v1 = 0 then ook sh1 8 x1 (Q (M1 x1 4) sh1 R1 M1) else if v1 = 1 then ook sh1 8 x1 (Q (M1 x1 5) sh1 R1 M1) else if v1 = 2 then ook sh1 8 x1 (Q (M1 x1 6) sh1 R1 M1) else if v1 = 3 then ook sh1 8 x1 (Cd d 72 [vr x1] sh1 R1 M1 0 0 (fun (x2 : Int) (sh2 : SHP) (R2 M2 : MEM) => Q x2 sh2 R2 M2)) else if v1 = 4 then ook sh1 8 x1 (Q (M1 x1 7) sh1 R1 M1) else if v1 = 5 then ook sh1 8 x1 (Q (M1 x1 8) sh1 R1 M1) else Q (-1) sh1 R1 M1))))) :
    Go d 112 Q 0 [vr v0, vi v1, vn] [] sh R M 0 0 :=
  Go_wp (cuts := []) 11 0 mok112 rfl h
theorem b_X11_begin_0 {d : Nat} {Q : RES} {sh : SHP} {R M : MEM} {v0 v1 v2 : Int}
    (h : ook sh 11 v0 (Cd d 147 [vr v0, vi v1] sh R M 0 0 (fun (x1 : Int) (sh1 : SHP) (R1 M1 : MEM) => (x1 = 0 ∨ x1 = 1) → (if x1 = 0 then Q (-1) sh1 R1 M1 else Cd d 144 [vi v2, vi 1, vi 999] sh1 R1 M1 0 0 (fun (x2 : Int) (sh2 : SHP) (R2 M2 : MEM) => (x2 = 0 ∨ x2 = 1) → (if x2 = 0 then Q (-1) sh2 R2 M2 else ook sh2 11 v0 (ook sh2 4 (R2 v0 12) (aok sh2 100 (R2 (R2 v0 12) 6) v1 (ook sh2 11 v0 (ook sh2 0 (R2 v0 2) (Cd d 1 [vr (R2 v0 2)] sh2 R2 M2 0 0 (fun (x3 : Int) (sh3 : SHP) (R3 M3 : MEM) => ook sh3 8 x3 (aok sh3 100 (R3 x3 2) (M2 (R2 (R2 v0 12) 6) v1) ((if (isub 999999 v2) < (M3 (R3 x3 2) (M2 (R2 (R2 v0 12) 6) v1)) then Q (-1) sh3 R3 M3 else ook sh3 11 v0 (ook sh3 0 (R3 v0 2) (Cd d 2 [vr (R3 v0 2)] sh3 R3 M3 0 0 (fun (x4 : Int) (sh4 : SHP) (R4 M4 : MEM) => ook sh4 8 x4 (Cd d 73 [vr x4, vi (M2 (R2 (R2 v0 12) 6) v1), vi v2] sh4 R4 M4 0 0 (fun (_ : Int) (sh5 : SHP) (R5 M5 : MEM) => ook sh5 8 x4 (aok sh5 100 (R5 x4 2) (M2 (R2 (R2 v0 12) 6) v1) (Q (M5 (R5 x4 2) (M2 (R2 (R2 v0 12) 6) v1)) sh5 R5 M5)))))))))))))))))))))) :
    Go d 113 Q 0 [vr v0, vi v1, vi v2, vn, vn] [] sh R M 0 0 :=
  Go_wp (cuts := []) 40 0 mok113 rfl h
theorem b_X11_beats_0 {d : Nat} {Q : RES} {sh : SHP} {R M : MEM} {v0 v1 : Int}
    (h : Cd d 144 [vi v1, vi 0, vi 60] sh R M 0 0 (fun (x1 : Int) (sh1 : SHP) (R1 M1 : MEM) => (x1 = 0 ∨ x1 = 1) → (if x1 = 0 then Q (-1) sh1 R1 M1 else ook sh1 11 v0 (ook sh1 0 (R1 v0 2) (Cd d 1 [vr (R1 v0 2)] sh1 R1 M1 0 0 (fun (x2 : Int) (sh2 : SHP) (R2 M2 : MEM) => ook sh2 8 x2 ((if (isub 1000 v1) < (M2 x2 10) then Q (-1) sh2 R2 M2 else ook sh2 11 v0 (ook sh2 0 (R2 v0 2) (Cd d 2 [vr (R2 v0 2)] sh2 R2 M2 0 0 (fun (x3 : Int) (sh3 : SHP) (R3 M3 : MEM) => Go d 114 Q 21 [vr v0, vi v1, vr x3, vi 0] [] sh3 R3 M3 0 0))))))))))) :
    Go d 114 Q 0 [vr v0, vi v1, vn, vn] [] sh R M 0 0 :=
  Go_wp (cuts := [(21, [1, 1, 1, 1])]) 22 0 mok114 rfl h
theorem b_X11_beats_21 {d : Nat} {Q : RES} {sh : SHP} {R M : MEM} {v0 v1 v2 v3 : Int}
    (h : (if v3 < v1 then ook sh 11 v0 (ook sh 8 v2 (Cd d 75 [vr v2, vr (R v0 12)] sh R M 0 0 (fun (_ : Int) (sh1 : SHP) (R1 M1 : MEM) => Go d 114 Q 21 [vr v0, vi v1, vr v2, vi (iadd v3 1)] [] sh1 R1 M1 0 0))) else ook sh 8 v2 (Q (M v2 10) sh R M))) :
    Go d 114 Q 21 [vr v0, vi v1, vr v2, vi v3] [] sh R M 0 0 :=
  Go_wp (cuts := [(21, [1, 1, 1, 1])]) 12 21 mok114 rfl h
theorem b_X11_gust_0 {d : Nat} {Q : RES} {sh : SHP} {R M : MEM} {v0 : Int}
    (h : ook sh 11 v0 (ook sh 4 (R v0 12) ((if (M (R v0 12) 7) = 0 then Q (-1) sh R M else ook sh 11 v0 (ook sh 0 (R v0 2) (Cd d 2 [vr (R v0 2)] sh R M 0 0 (fun (x1 : Int) (sh1 : SHP) (R1 M1 : MEM) => ook sh1 11 v0 (ook sh1 4 (R1 v0 12) (ook sh1 8 x1 (Cd d 79 [vr x1, vi (M1 (R1 v0 12) 7)] sh1 R1 M1 0 0 (fun (x2 : Int) (sh2 : SHP) (R2 M2 : MEM) => Q x2 sh2 R2 M2))))))))))) :
    Go d 115 Q 0 [vr v0] [] sh R M 0 0 :=
  Go_wp (cuts := []) 14 0 mok115 rfl h
theorem b_X11_undo_0 {d : Nat} {Q : RES} {sh : SHP} {R M : MEM} {v0 : Int}
    (h : ook sh 11 v0 (ook sh 0 (R v0 2) (Cd d 3 [vr (R v0 2)] sh R M 0 0 (fun (x1 : Int) (sh1 : SHP) (R1 M1 : MEM) => (x1 = 0 ∨ x1 = 1) → bq x1 (Q x1 sh1 R1 M1))))) :
    Go d 116 Q 0 [vr v0] [] sh R M 0 0 :=
  Go_wp (cuts := []) 6 0 mok116 rfl h
theorem b_X11_redo_0 {d : Nat} {Q : RES} {sh : SHP} {R M : MEM} {v0 : Int}
    (h : ook sh 11 v0 (ook sh 0 (R v0 2) (Cd d 4 [vr (R v0 2)] sh R M 0 0 (fun (x1 : Int) (sh1 : SHP) (R1 M1 : MEM) => (x1 = 0 ∨ x1 = 1) → bq x1 (Q x1 sh1 R1 M1))))) :
    Go d 117 Q 0 [vr v0] [] sh R M 0 0 :=
  Go_wp (cuts := []) 6 0 mok117 rfl h
theorem b_X11_row_0 {d : Nat} {Q : RES} {sh : SHP} {R M : MEM} {v0 v1 v2 : Int}
    (h : ook sh 11 v0 (Cd d 147 [vr v0, vi v1] sh R M 0 0 (fun (x1 : Int) (sh1 : SHP) (R1 M1 : MEM) => (x1 = 0 ∨ x1 = 1) → (if x1 = 0 then Q (-1) sh1 R1 M1 else Cd d 144 [vi v2, vi 0, vi 999] sh1 R1 M1 0 0 (fun (x2 : Int) (sh2 : SHP) (R2 M2 : MEM) => (x2 = 0 ∨ x2 = 1) → (if x2 = 0 then Q (-1) sh2 R2 M2 else ook sh2 11 v0 (aok sh2 100 (R2 v0 5) v1 (ook sh2 11 v0 (aok sh2 100 (R2 v0 5) v1 (Q (M2 (R2 v0 5) v1) sh2 R2 (stm M2 (R2 v0 5) v1 v2))))))))))) :
    Go d 118 Q 0 [vr v0, vi v1, vi v2, vn] [] sh R M 0 0 :=
  Go_wp (cuts := []) 23 0 mok118 rfl h
theorem b_X11_reckon_0 {d : Nat} {Q : RES} {sh : SHP} {R M : MEM} {v0 v1 v2 : Int}
    (h : ook sh 11 v0 (Cd d 150 [vr v0, vi v1, vi v2] sh R M 0 0 (fun (x1 : Int) (sh1 : SHP) (R1 M1 : MEM) => (x1 = 0 ∨ x1 = 1) → (if x1 = 0 then Q (-1) sh1 R1 M1 else ook sh1 11 v0 (ook sh1 11 v0 (ook sh1 11 v0 (ook sh1 10 (R1 v0 6) (Cd d 97 [vr (R1 v0 6), vr (R1 v0 12), vr (R1 v0 5), vi v1, vi v2] sh1 R1 M1 0 0 (fun (x2 : Int) (sh2 : SHP) (R2 M2 : MEM) => Q x2 sh2 R2 M2))))))))) :
    Go d 119 Q 0 [vr v0, vi v1, vi v2] [] sh R M 0 0 :=
  Go_wp (cuts := []) 17 0 mok119 rfl h
theorem b_X11_still_0 {d : Nat} {Q : RES} {sh : SHP} {R M : MEM} {v0 : Int}
    (h : ook sh 11 v0 (ook sh 11 v0 (ook sh 11 v0 (ook sh 10 (R v0 6) (Cd d 98 [vr (R v0 6), vr (R v0 12), vr (R v0 5)] sh R M 0 0 (fun (x1 : Int) (sh1 : SHP) (R1 M1 : MEM) => Q x1 sh1 R1 M1)))))) :
    Go d 120 Q 0 [vr v0] [] sh R M 0 0 :=
  Go_wp (cuts := []) 10 0 mok120 rfl h
theorem b_X11_says_0 {d : Nat} {Q : RES} {sh : SHP} {R M : MEM} {v0 v1 : Int}
    (h : ook sh 11 v0 (Cd d 149 [vr v0, vi v1] sh R M 0 0 (fun (x1 : Int) (sh1 : SHP) (R1 M1 : MEM) => (x1 = 0 ∨ x1 = 1) → (if x1 = 0 then Q 0 sh1 R1 M1 else ook sh1 11 v0 (ook sh1 11 v0 (ook sh1 4 (R1 v0 12) (Cd d 31 [vr (R1 v0 12), vi v1, vr (R1 v0 5)] sh1 R1 M1 0 0 (fun (x2 : Int) (sh2 : SHP) (R2 M2 : MEM) => Q x2 sh2 R2 M2)))))))) :
    Go d 121 Q 0 [vr v0, vi v1] [] sh R M 0 0 :=
  Go_wp (cuts := []) 14 0 mok121 rfl h
theorem b_X11_wrong_0 {d : Nat} {Q : RES} {sh : SHP} {R M : MEM} {v0 v1 v2 v3 : Int}
    (h : ook sh 11 v0 (Cd d 151 [vr v0, vi v1, vi v2, vi v3] sh R M 0 0 (fun (x1 : Int) (sh1 : SHP) (R1 M1 : MEM) => (x1 = 0 ∨ x1 = 1) → (if x1 = 0 then Q (-1) sh1 R1 M1 else ook sh1 11 v0 (ook sh1 11 v0 (ook sh1 2 (R1 v0 7) (Cd d 14 [vr (R1 v0 7), vr (R1 v0 12), vi v1, vi v2, vi v3] sh1 R1 M1 0 0 (fun (x2 : Int) (sh2 : SHP) (R2 M2 : MEM) => (if 1000 < x2 then Q (-2) sh2 R2 M2 else ook sh2 11 v0 (ook sh2 11 v0 (ook sh2 2 (R2 v0 7) (Cd d 16 [vr (R2 v0 7), vr (R2 v0 12)] sh2 R2 M2 0 0 (fun (x3 : Int) (sh3 : SHP) (R3 M3 : MEM) => Q x3 sh3 R3 M3))))))))))))) :
    Go d 122 Q 0 [vr v0, vi v1, vi v2, vi v3] [] sh R M 0 0 :=
  Go_wp (cuts := []) 24 0 mok122 rfl h
theorem b_X11_against_0 {d : Nat} {Q : RES} {sh : SHP} {R M : MEM} {v0 v1 v2 v3 : Int}
    (h : ook sh 11 v0 (ook sh 3 (R v0 11) (ook sh 11 v0 (Cd d 151 [vr v0, vi v1, vi v2, vi v3] sh R (stm M (R v0 11) 1 0) 0 0 (fun (x1 : Int) (sh1 : SHP) (R1 M1 : MEM) => (x1 = 0 ∨ x1 = 1) → (if x1 = 0 then Q (-1) sh1 R1 M1 else ook sh1 11 v0 (ook sh1 11 v0 (ook sh1 2 (R1 v0 7) (Cd d 14 [vr (R1 v0 7), vr (R1 v0 12), vi v1, vi v2, vi v3] sh1 R1 M1 0 0 (fun (x2 : Int) (sh2 : SHP) (R2 M2 : MEM) => (if 1000 < x2 then Q (-2) sh2 R2 M2 else ook sh2 11 v0 (ook sh2 11 v0 (ook sh2 2 (R2 v0 7) (Cd d 17 [vr (R2 v0 7), vr (R2 v0 12)] sh2 R2 M2 0 0 (fun (x3 : Int) (sh3 : SHP) (R3 M3 : MEM) => Q x3 sh3 R3 M3))))))))))))))) :
    Go d 123 Q 0 [vr v0, vi v1, vi v2, vi v3] [] sh R M 0 0 :=
  Go_wp (cuts := []) 28 0 mok123 rfl h
theorem b_X11_mend_0 {d : Nat} {Q : RES} {sh : SHP} {R M : MEM} {v0 v1 v2 v3 : Int}
    (h : ook sh 11 v0 (ook sh 3 (R v0 11) (ook sh 11 v0 (Cd d 151 [vr v0, vi v1, vi v2, vi v3] sh R (stm M (R v0 11) 1 0) 0 0 (fun (x1 : Int) (sh1 : SHP) (R1 M1 : MEM) => (x1 = 0 ∨ x1 = 1) → (if x1 = 0 then Q (-1) sh1 R1 M1 else ook sh1 11 v0 (ook sh1 11 v0 (ook sh1 2 (R1 v0 7) (Cd d 14 [vr (R1 v0 7), vr (R1 v0 12), vi v1, vi v2, vi v3] sh1 R1 M1 0 0 (fun (x2 : Int) (sh2 : SHP) (R2 M2 : MEM) => (if 16 < x2 then Q (-2) sh2 R2 M2 else ook sh2 11 v0 (ook sh2 11 v0 (ook sh2 2 (R2 v0 7) (Cd d 18 [vr (R2 v0 7), vr (R2 v0 12)] sh2 R2 M2 0 0 (fun (x3 : Int) (sh3 : SHP) (R3 M3 : MEM) => Q x3 sh3 R3 M3))))))))))))))) :
    Go d 124 Q 0 [vr v0, vi v1, vi v2, vi v3] [] sh R M 0 0 :=
  Go_wp (cuts := []) 28 0 mok124 rfl h
theorem b_X11_loss_0 {d : Nat} {Q : RES} {sh : SHP} {R M : MEM} {v0 v1 v2 v3 v4 : Int}
    (h : ook sh 11 v0 (Cd d 148 [vr v0, vi v1] sh R M 0 0 (fun (x1 : Int) (sh1 : SHP) (R1 M1 : MEM) => (x1 = 0 ∨ x1 = 1) → (if x1 = 0 then Q (-1) sh1 R1 M1 else ook sh1 11 v0 (Cd d 150 [vr v0, vi v3, vi v4] sh1 R1 M1 0 0 (fun (x2 : Int) (sh2 : SHP) (R2 M2 : MEM) => (x2 = 0 ∨ x2 = 1) → (if x2 = 0 then Q (-1) sh2 R2 M2 else Cd d 144 [vi v2, vi 1, vi v4] sh2 R2 M2 0 0 (fun (x3 : Int) (sh3 : SHP) (R3 M3 : MEM) => (x3 = 0 ∨ x3 = 1) → (if x3 = 0 then Q (-1) sh3 R3 M3 else ook sh3 11 v0 (ook sh3 11 v0 (ook sh3 11 v0 (ook sh3 10 (R3 v0 6) (Cd d 101 [vr (R3 v0 6), vr (R3 v0 12), vr (R3 v0 5), vi v1, vi v2, vi v3, vi v4] sh3 R3 M3 0 0 (fun (x4 : Int) (sh4 : SHP) (R4 M4 : MEM) => Q x4 sh4 R4 M4)))))))))))))) :
    Go d 125 Q 0 [vr v0, vi v1, vi v2, vi v3, vi v4] [] sh R M 0 0 :=
  Go_wp (cuts := []) 28 0 mok125 rfl h
theorem b_X11_blind_0 {d : Nat} {Q : RES} {sh : SHP} {R M : MEM} {v0 v1 v2 : Int}
    (h : ook sh 11 v0 (Cd d 150 [vr v0, vi v1, vi v2] sh R M 0 0 (fun (x1 : Int) (sh1 : SHP) (R1 M1 : MEM) => (x1 = 0 ∨ x1 = 1) → (if x1 = 0 then Q (-1) sh1 R1 M1 else ook sh1 11 v0 (ook sh1 11 v0 (ook sh1 11 v0 (ook sh1 10 (R1 v0 6) (Cd d 102 [vr (R1 v0 6), vr (R1 v0 12), vr (R1 v0 5), vi v1, vi v2] sh1 R1 M1 0 0 (fun (x2 : Int) (sh2 : SHP) (R2 M2 : MEM) => Q x2 sh2 R2 M2))))))))) :
    Go d 126 Q 0 [vr v0, vi v1, vi v2] [] sh R M 0 0 :=
  Go_wp (cuts := []) 17 0 mok126 rfl h
theorem b_X11_adds_0 {d : Nat} {Q : RES} {sh : SHP} {R M : MEM} {v0 v1 v2 v3 v4 v5 : Int}
    (h : ook sh 11 v0 (Cd d 147 [vr v0, vi v1] sh R M 0 0 (fun (x1 : Int) (sh1 : SHP) (R1 M1 : MEM) => (x1 = 0 ∨ x1 = 1) → (if x1 = 0 then Q (-1) sh1 R1 M1 else ook sh1 11 v0 (Cd d 150 [vr v0, vi v2, vi v4] sh1 R1 M1 0 0 (fun (x2 : Int) (sh2 : SHP) (R2 M2 : MEM) => (x2 = 0 ∨ x2 = 1) → (if x2 = 0 then Q (-1) sh2 R2 M2 else Cd d 144 [vi v3, vi 0, vi 40] sh2 R2 M2 0 0 (fun (x3 : Int) (sh3 : SHP) (R3 M3 : MEM) => (x3 = 0 ∨ x3 = 1) → (if x3 = 0 then Q (-1) sh3 R3 M3 else Cd d 144 [vi v5, vi 0, vi 2] sh3 R3 M3 0 0 (fun (x4 : Int) (sh4 : SHP) (R4 M4 : MEM) => (x4 = 0 ∨ x4 = 1) → (if x4 = 0 then Q (-1) sh4 R4 M4 else ook sh4 11 v0 (ook sh4 11 v0 (ook sh4 10 (R4 v0 6) (Cd d 103 [vr (R4 v0 6), vr (R4 v0 12), vi v1, vi v2, vi v3, vi v4, vi v5] sh4 R4 M4 0 0 (fun (x5 : Int) (sh5 : SHP) (R5 M5 : MEM) => Q x5 sh5 R5 M5))))))))))))))) :
    Go d 127 Q 0 [vr v0, vi v1, vi v2, vi v3, vi v4, vi v5] [] sh R M 0 0 :=
  Go_wp (cuts := []) 32 0 mok127 rfl h
theorem b_X11_paths_0 {d : Nat} {Q : RES} {sh : SHP} {R M : MEM} {v0 v1 v2 v3 : Int}
    (h : ook sh 11 v0 (Cd d 145 [vr v0, vi v1] sh R M 0 0 (fun (x1 : Int) (sh1 : SHP) (R1 M1 : MEM) => (x1 = 0 ∨ x1 = 1) → (if x1 = 0 then Q (-1) sh1 R1 M1 else ook sh1 11 v0 (Cd d 145 [vr v0, vi v2] sh1 R1 M1 0 0 (fun (x2 : Int) (sh2 : SHP) (R2 M2 : MEM) => (x2 = 0 ∨ x2 = 1) → (if x2 = 0 then Q (-1) sh2 R2 M2 else Cd d 144 [vi v3, vi 0, vi 60] sh2 R2 M2 0 0 (fun (x3 : Int) (sh3 : SHP) (R3 M3 : MEM) => (x3 = 0 ∨ x3 = 1) → (if x3 = 0 then Q (-1) sh3 R3 M3 else ook sh3 11 v0 (ook sh3 11 v0 (ook sh3 6 (R3 v0 8) (Cd d 54 [vr (R3 v0 8), vr (R3 v0 12), vi v1, vi v2, vi v3] sh3 R3 M3 0 0 (fun (x4 : Int) (sh4 : SHP) (R4 M4 : MEM) => Q x4 sh4 R4 M4))))))))))))) :
    Go d 128 Q 0 [vr v0, vi v1, vi v2, vi v3] [] sh R M 0 0 :=
  Go_wp (cuts := []) 24 0 mok128 rfl h
theorem b_X11_meet_0 {d : Nat} {Q : RES} {sh : SHP} {R M : MEM} {v0 v1 v2 v3 : Int}
    (h : ook sh 11 v0 (Cd d 145 [vr v0, vi v1] sh R M 0 0 (fun (x1 : Int) (sh1 : SHP) (R1 M1 : MEM) => (x1 = 0 ∨ x1 = 1) → (if x1 = 0 then Q (-1) sh1 R1 M1 else ook sh1 11 v0 (Cd d 145 [vr v0, vi v2] sh1 R1 M1 0 0 (fun (x2 : Int) (sh2 : SHP) (R2 M2 : MEM) => (x2 = 0 ∨ x2 = 1) → (if x2 = 0 then Q (-1) sh2 R2 M2 else ook sh2 11 v0 (Cd d 145 [vr v0, vi v3] sh2 R2 M2 0 0 (fun (x3 : Int) (sh3 : SHP) (R3 M3 : MEM) => (x3 = 0 ∨ x3 = 1) → (if x3 = 0 then Q (-1) sh3 R3 M3 else ook sh3 11 v0 (ook sh3 11 v0 (ook sh3 6 (R3 v0 8) (Cd d 55 [vr (R3 v0 8), vr (R3 v0 12), vi v1, vi v2, vi v3] sh3 R3 M3 0 0 (fun (x4 : Int) (sh4 : SHP) (R4 M4 : MEM) => Q x4 sh4 R4 M4)))))))))))))) :
    Go d 129 Q 0 [vr v0, vi v1, vi v2, vi v3] [] sh R M 0 0 :=
  Go_wp (cuts := []) 23 0 mok129 rfl h
theorem b_X11_spread_0 {d : Nat} {Q : RES} {sh : SHP} {R M : MEM} {v0 v1 v2 : Int}
    (h : ook sh 11 v0 (Cd d 145 [vr v0, vi v1] sh R M 0 0 (fun (x1 : Int) (sh1 : SHP) (R1 M1 : MEM) => (x1 = 0 ∨ x1 = 1) → (if x1 = 0 then Q (-1) sh1 R1 M1 else ook sh1 11 v0 (Cd d 145 [vr v0, vi v2] sh1 R1 M1 0 0 (fun (x2 : Int) (sh2 : SHP) (R2 M2 : MEM) => (x2 = 0 ∨ x2 = 1) → (if x2 = 0 then Q (-1) sh2 R2 M2 else ook sh2 11 v0 (ook sh2 11 v0 (ook sh2 6 (R2 v0 8) (Cd d 56 [vr (R2 v0 8), vr (R2 v0 12), vi v1, vi v2] sh2 R2 M2 0 0 (fun (x3 : Int) (sh3 : SHP) (R3 M3 : MEM) => Q x3 sh3 R3 M3))))))))))) :
    Go d 130 Q 0 [vr v0, vi v1, vi v2] [] sh R M 0 0 :=
  Go_wp (cuts := []) 18 0 mok130 rfl h
theorem b_X11_ring_0 {d : Nat} {Q : RES} {sh : SHP} {R M : MEM} {v0 : Int}
    (h : ook sh 11 v0 (ook sh 11 v0 (ook sh 6 (R v0 8) (Cd d 58 [vr (R v0 8), vr (R v0 12)] sh R M 0 0 (fun (x1 : Int) (sh1 : SHP) (R1 M1 : MEM) => Q x1 sh1 R1 M1))))) :
    Go d 131 Q 0 [vr v0] [] sh R M 0 0 :=
  Go_wp (cuts := []) 8 0 mok131 rfl h
theorem b_X11_pair_0 {d : Nat} {Q : RES} {sh : SHP} {R M : MEM} {v0 v1 v2 : Int}
    (h : Cd d 144 [vi v1, vi 0, vi 999] sh R M 0 0 (fun (x1 : Int) (sh1 : SHP) (R1 M1 : MEM) => (x1 = 0 ∨ x1 = 1) → (if x1 = 0 then Q (-1) sh1 R1 M1 else Cd d 144 [vi v2, vi 0, vi 999] sh1 R1 M1 0 0 (fun (x2 : Int) (sh2 : SHP) (R2 M2 : MEM) => (x2 = 0 ∨ x2 = 1) → (if x2 = 0 then Q (-1) sh2 R2 M2 else ook sh2 11 v0 (ook sh2 1 (R2 v0 9) (Cd d 8 [vr (R2 v0 9), vi v1, vi v2] sh2 R2 M2 0 0 (fun (x3 : Int) (sh3 : SHP) (R3 M3 : MEM) => Q x3 sh3 R3 M3)))))))) :
    Go d 132 Q 0 [vr v0, vi v1, vi v2] [] sh R M 0 0 :=
  Go_wp (cuts := []) 18 0 mok132 rfl h
theorem b_X11_hush_0 {d : Nat} {Q : RES} {sh : SHP} {R M : MEM} {v0 : Int}
    (h : ook sh 11 v0 (ook sh 1 (R v0 9) (ook sh 11 v0 (ook sh 1 (R v0 9) (Q (M (R v0 9) 0) sh R (stm M (R v0 9) 0 0)))))) :
    Go d 133 Q 0 [vr v0, vn] [] sh R M 0 0 :=
  Go_wp (cuts := []) 12 0 mok133 rfl h
theorem b_X11_chain_0 {d : Nat} {Q : RES} {sh : SHP} {R M : MEM} {v0 : Int}
    (h : ook sh 11 v0 (ook sh 3 (R v0 11) (ook sh 11 v0 (ook sh 1 (R v0 9) (Cd d 9 [vr (R v0 9)] sh R (stm M (R v0 11) 1 0) 0 0 (fun (x1 : Int) (sh1 : SHP) (R1 M1 : MEM) => Q x1 sh1 R1 M1)))))) :
    Go d 134 Q 0 [vr v0] [] sh R M 0 0 :=
  Go_wp (cuts := []) 10 0 mok134 rfl h
theorem b_X11_lies_0 {d : Nat} {Q : RES} {sh : SHP} {R M : MEM} {v0 v1 : Int}
    (h : ook sh 11 v0 (ook sh 3 (R v0 11) (Cd d 144 [vi v1, vi 0, vi (isub (M (R v0 11) 1) 1)] sh R M 0 0 (fun (x1 : Int) (sh1 : SHP) (R1 M1 : MEM) => (x1 = 0 ∨ x1 = 1) → (if x1 = 0 then Q (-1) sh1 R1 M1 else ook sh1 11 v0 (ook sh1 3 (R1 v0 11) (aok sh1 100 (R1 (R1 v0 11) 0) v1 (Q (M1 (R1 (R1 v0 11) 0) v1) sh1 R1 M1)))))))) :
    Go d 135 Q 0 [vr v0, vi v1] [] sh R M 0 0 :=
  Go_wp (cuts := []) 18 0 mok135 rfl h
theorem b_X11_sight_0 {d : Nat} {Q : RES} {sh : SHP} {R M : MEM} {v0 v1 v2 v3 : Int}
    (h : ook sh 11 v0 (Cd d 146 [vr v0, vi v1] sh R M 0 0 (fun (x1 : Int) (sh1 : SHP) (R1 M1 : MEM) => (x1 = 0 ∨ x1 = 1) → (if x1 = 0 then Q (-1) sh1 R1 M1 else Cd d 144 [vi v2, vi 1, vi 60] sh1 R1 M1 0 0 (fun (x2 : Int) (sh2 : SHP) (R2 M2 : MEM) => (x2 = 0 ∨ x2 = 1) → (if x2 = 0 then Q (-1) sh2 R2 M2 else Cd d 144 [vi v3, vi 0, vi 999999] sh2 R2 M2 0 0 (fun (x3 : Int) (sh3 : SHP) (R3 M3 : MEM) => (x3 = 0 ∨ x3 = 1) → (if x3 = 0 then Q (-1) sh3 R3 M3 else ook sh3 11 v0 (ook sh3 11 v0 (ook sh3 7 (R3 v0 10) (Cd d 61 [vr (R3 v0 10), vi v1, vi v2, vi v3, vi (M3 v0 14)] sh3 R3 M3 0 0 (fun (x4 : Int) (sh4 : SHP) (R4 M4 : MEM) => Q x4 sh4 R4 M4)))))))))))) :
    Go d 136 Q 0 [vr v0, vi v1, vi v2, vi v3] [] sh R M 0 0 :=
  Go_wp (cuts := []) 25 0 mok136 rfl h
theorem b_X11_untell_0 {d : Nat} {Q : RES} {sh : SHP} {R M : MEM} {v0 v1 : Int}
    (h : ook sh 11 v0 (ook sh 11 v0 (ook sh 7 (R v0 10) (Cd d 62 [vr (R v0 10), vi v1, vi (M v0 14)] sh R M 0 0 (fun (x1 : Int) (sh1 : SHP) (R1 M1 : MEM) => (x1 = 0 ∨ x1 = 1) → bq x1 (Q x1 sh1 R1 M1)))))) :
    Go d 137 Q 0 [vr v0, vi v1] [] sh R M 0 0 :=
  Go_wp (cuts := []) 9 0 mok137 rfl h
theorem b_X11_later_0 {d : Nat} {Q : RES} {sh : SHP} {R M : MEM} {v0 v1 : Int}
    (h : Cd d 144 [vi v1, vi 0, vi 1000] sh R M 0 0 (fun (x1 : Int) (sh1 : SHP) (R1 M1 : MEM) => (x1 = 0 ∨ x1 = 1) → (if x1 = 0 then Q (-1) sh1 R1 M1 else ook sh1 11 v0 ((if (isub 100000 v1) < (M1 v0 14) then Q (-1) sh1 R1 M1 else ook sh1 11 v0 (ook sh1 11 v0 (ook sh1 11 v0 (Q ((stm M1 v0 14 (iadd (M1 v0 14) v1)) v0 14) sh1 R1 (stm M1 v0 14 (iadd (M1 v0 14) v1)))))))))) :
    Go d 138 Q 0 [vr v0, vi v1] [] sh R M 0 0 :=
  Go_wp (cuts := []) 22 0 mok138 rfl h
theorem b_X11_begun_0 {d : Nat} {Q : RES} {sh : SHP} {R M : MEM} {v0 v1 v2 : Int}
    (h : ook sh 11 v0 (ook sh 3 (R v0 11) (Cd d 144 [vi v1, vi 0, vi 9] sh R (stm M (R v0 11) 1 0) 0 0 (fun (x1 : Int) (sh1 : SHP) (R1 M1 : MEM) => (x1 = 0 ∨ x1 = 1) → (if x1 = 0 then Q (-1) sh1 R1 M1 else ook sh1 11 v0 (ook sh1 11 v0 (ook sh1 7 (R1 v0 10) (Cd d 64 [vr (R1 v0 10), vr (R1 v0 12), vi v1, vi v2] sh1 R1 M1 0 0 (fun (_ : Int) (sh2 : SHP) (R2 M2 : MEM) => Go d 139 Q 20 [vr v0, vn, vn, vi 0] [] sh2 R2 M2 0 0))))))))) :
    Go d 139 Q 0 [vr v0, vi v1, vi v2, vn] [] sh R M 0 0 :=
  Go_wp (cuts := [(20, [1, 0, 0, 1])]) 21 0 mok139 rfl h
theorem b_X11_begun_20 {d : Nat} {Q : RES} {sh : SHP} {R M : MEM} {v0 v3 : Int}
    (h : ook sh 11 v0 (ook sh 4 (R v0 12) ((if v3 < (M (R v0 12) 5) then ook sh 11 v0 (ook sh 7 (R v0 10) ((if 0 < (M (R v0 10) 8) then ook sh 11 v0 (ook sh 11 v0 (ook sh 7 (R v0 10) (aok sh 100 (R (R v0 10) 9) v3 (ook sh 3 (R v0 11) (Cd d 21 [vr (R v0 11), vi (M (R (R v0 10) 9) v3)] sh R M 0 0 (fun (_ : Int) (sh1 : SHP) (R1 M1 : MEM) => Go d 139 Q 20 [vr v0, vn, vn, vi (iadd v3 1)] [] sh1 R1 M1 0 0)))))) else ook sh 11 v0 (ook sh 7 (R v0 10) (Q (M (R v0 10) 8) sh R M))))) else ook sh 11 v0 (ook sh 7 (R v0 10) (Q (M (R v0 10) 8) sh R M)))))) :
    Go d 139 Q 20 [vr v0, vn, vn, vi v3] [] sh R M 0 0 :=
  Go_wp (cuts := [(20, [1, 0, 0, 1])]) 22 20 mok139 rfl h
theorem b_X11_sure_0 {d : Nat} {Q : RES} {sh : SHP} {R M : MEM} {v0 v1 v2 v3 : Int}
    (h : ook sh 11 v0 (Cd d 147 [vr v0, vi v1] sh R M 0 0 (fun (x1 : Int) (sh1 : SHP) (R1 M1 : MEM) => (x1 = 0 ∨ x1 = 1) → (if x1 = 0 then Q (-1) sh1 R1 M1 else Cd d 144 [vi v2, vi 0, vi 9] sh1 R1 M1 0 0 (fun (x2 : Int) (sh2 : SHP) (R2 M2 : MEM) => (x2 = 0 ∨ x2 = 1) → (if x2 = 0 then Q (-1) sh2 R2 M2 else ook sh2 11 v0 (ook sh2 11 v0 (ook sh2 7 (R2 v0 10) (Cd d 64 [vr (R2 v0 10), vr (R2 v0 12), vi v2, vi v3] sh2 R2 M2 0 0 (fun (_ : Int) (sh3 : SHP) (R3 M3 : MEM) => ook sh3 11 v0 (ook sh3 7 (R3 v0 10) ((if (M3 (R3 v0 10) 8) = 0 then Q (-1) sh3 R3 M3 else ook sh3 11 v0 (ook sh3 7 (R3 v0 10) (aok sh3 103 (R3 (R3 v0 10) 10) v1 ((if (M3 (R3 (R3 v0 10) 10) v1) = 0 then ook sh3 11 v0 (ook sh3 7 (R3 v0 10) (aok sh3 100 (R3 (R3 v0 10) 9) v1 (Q (M3 (R3 (R3 v0 10) 9) v1) sh3 R3 M3))) else Q (-2) sh3 R3 M3))))))))))))))))) :
    Go d 140 Q 0 [vr v0, vi v1, vi v2, vi v3] [] sh R M 0 0 :=
  Go_wp (cuts := []) 34 0 mok140 rfl h
theorem b_X11_image_0 {d : Nat} {Q : RES} {sh : SHP} {R M : MEM} {v0 v1 : Int}
    (h : Cd d 144 [vi v1, vi 0, vi 2] sh R M 0 0 (fun (x1 : Int) (sh1 : SHP) (R1 M1 : MEM) => (x1 = 0 ∨ x1 = 1) → (if x1 = 0 then Q (-1) sh1 R1 M1 else ook sh1 11 v0 (aok sh1 104 (R1 v0 3) v1 (ook sh1 11 v0 (ook sh1 0 (R1 v0 2) (Cd d 1 [vr (R1 v0 2)] sh1 R1 M1 0 0 (fun (x2 : Int) (sh2 : SHP) (R2 M2 : MEM) => ook sh2 8 (R1 (R1 v0 3) v1) (Cd d 68 [vr (R1 (R1 v0 3) v1), vr x2] sh2 R2 M2 0 0 (fun (_ : Int) (sh3 : SHP) (R3 M3 : MEM) => ook sh3 11 v0 (aok sh3 103 (R3 v0 4) v1 (ook sh3 11 v0 (aok sh3 104 (R3 v0 3) v1 (ook sh3 8 (R3 (R3 v0 3) v1) (Q ((stm M3 (R3 v0 4) v1 1) (R3 (R3 v0 3) v1) 10) sh3 R3 (stm M3 (R3 v0 4) v1 1)))))))))))))))) :
    Go d 141 Q 0 [vr v0, vi v1] [] sh R M 0 0 :=
  Go_wp (cuts := []) 26 0 mok141 rfl h
theorem b_X11_back_0 {d : Nat} {Q : RES} {sh : SHP} {R M : MEM} {v0 v1 : Int}
    (h : Cd d 144 [vi v1, vi 0, vi 2] sh R M 0 0 (fun (x1 : Int) (sh1 : SHP) (R1 M1 : MEM) => (x1 = 0 ∨ x1 = 1) → (if x1 = 0 then Q (-1) sh1 R1 M1 else ook sh1 11 v0 (aok sh1 103 (R1 v0 4) v1 ((if (M1 (R1 v0 4) v1) = 0 then Q (-1) sh1 R1 M1 else ook sh1 11 v0 (ook sh1 11 v0 (aok sh1 104 (R1 v0 3) v1 (ook sh1 0 (R1 v0 2) (Cd d 6 [vr (R1 v0 2), vr (R1 (R1 v0 3) v1)] sh1 R1 M1 0 0 (fun (_ : Int) (sh2 : SHP) (R2 M2 : MEM) => ook sh2 11 v0 (aok sh2 104 (R2 v0 3) v1 (ook sh2 8 (R2 (R2 v0 3) v1) (Q (M2 (R2 (R2 v0 3) v1) 10) sh2 R2 M2)))))))))))))) :
    Go d 142 Q 0 [vr v0, vi v1] [] sh R M 0 0 :=
  Go_wp (cuts := []) 25 0 mok142 rfl h
theorem b_X11_about_0 {d : Nat} {Q : RES} {sh : SHP} {R M : MEM} {v0 v1 : Int}
    (h : (if v1 = 0 then ook sh 11 v0 (ook sh 4 (R v0 12) (Q (M (R v0 12) 0) sh R M)) else if v1 = 1 then ook sh 11 v0 (ook sh 4 (R v0 12) (Q (M (R v0 12) 5) sh R M)) else if v1 = 2 then ook sh 11 v0 (ook sh 4 (R v0 12) (Q (M (R v0 12) 7) sh R M)) else if v1 = 3 then ook sh 11 v0 (ook sh 4 (R v0 12) (Q (M (R v0 12) 11) sh R M)) else if v1 = 4 then ook sh 11 v0 (ook sh 0 (R v0 2) (Cd d 1 [vr (R v0 2)] sh R M 0 0 (fun (x1 : Int) (sh1 : SHP) (R1 M1 : MEM) => ook sh1 8 x1 (Q (M1 x1 10) sh1 R1 M1)))) else if v1 = 5 then ook sh 11 v0 (ook sh 0 (R v0 2) (Cd d 1 [vr (R v0 2)] sh R M 0 0 (fun (x2 : Int) (sh2 : SHP) (R2 M2 : MEM) => ook sh2 8 x2 (Q (M2 x2 9) sh2 R2 M2)))) else if v1 = 6 then ook sh 11 v0 (ook sh 0 (R v0 2) (Q (M (R v0 2) 2) sh R M)) else if v1 = 7 then ook sh 11 v0 (ook sh 0 (R v0 2) (Q (M (R v0 2) 3) sh R M)) else if v1 = 8 then ook sh 11 v0 (ook sh 1 (R v0 9) (Q (M (R v0 9) 0) sh R M)) else if v1 = 9 then ook sh 11 v0 (ook sh 7 (R v0 10) (Q (M (R v0 10) 0) sh R M)) else if v1 = 10 then ook sh 11 v0 (Q (M v0 14) sh R M) else if v1 = 11 then ook sh 11 v0 (ook sh 9 (R v0 0) (Q (M (R v0 0) 1) sh R M)) else if v1 = 12 then ook sh 11 v0 (ook sh 4 (R v0 12) (Q (M (R v0 12) 17) sh R M)) else if v1 = 13 then ook sh 11 v0 (ook sh 3 (R v0 11) (Q (M (R v0 11) 1) sh R M)) else Q (-1) sh R M)) :
    Go d 143 Q 0 [vr v0, vi v1] [] sh R M 0 0 :=
  Go_wp (cuts := []) 9 0 mok143 rfl h
theorem b_X11_isWithin_0 {d : Nat} {Q : RES} {sh : SHP} {R M : MEM} {v0 v1 v2 : Int}
    (h : (if v0 < v1 then Q 0 sh R M else (if v2 < v0 then Q 0 sh R M else Q 1 sh R M))) :
    Go d 144 Q 0 [vi v0, vi v1, vi v2] [] sh R M 0 0 :=
  Go_wp (cuts := []) 11 0 mok144 rfl h
theorem b_X11_isTower_0 {d : Nat} {Q : RES} {sh : SHP} {R M : MEM} {v0 v1 : Int}
    (h : ook sh 11 v0 (ook sh 4 (R v0 12) (Cd d 144 [vi v1, vi 0, vi (isub (M (R v0 12) 0) 1)] sh R M 0 0 (fun (x1 : Int) (sh1 : SHP) (R1 M1 : MEM) => (x1 = 0 ∨ x1 = 1) → bq x1 (Q x1 sh1 R1 M1))))) :
    Go d 145 Q 0 [vr v0, vi v1] [] sh R M 0 0 :=
  Go_wp (cuts := []) 11 0 mok145 rfl h
theorem b_X11_isDusk_0 {d : Nat} {Q : RES} {sh : SHP} {R M : MEM} {v0 v1 : Int}
    (h : ook sh 11 v0 (Cd d 145 [vr v0, vi v1] sh R M 0 0 (fun (x1 : Int) (sh1 : SHP) (R1 M1 : MEM) => (x1 = 0 ∨ x1 = 1) → (if x1 = 0 then Q 0 sh1 R1 M1 else ook sh1 11 v0 (ook sh1 4 (R1 v0 12) (aok sh1 100 (R1 (R1 v0 12) 1) v1 ((if (M1 (R1 (R1 v0 12) 1) v1) = 4 then Q 1 sh1 R1 M1 else Q 0 sh1 R1 M1)))))))) :
    Go d 146 Q 0 [vr v0, vi v1] [] sh R M 0 0 :=
  Go_wp (cuts := []) 16 0 mok146 rfl h
theorem b_X11_isStart_0 {d : Nat} {Q : RES} {sh : SHP} {R M : MEM} {v0 v1 : Int}
    (h : ook sh 11 v0 (ook sh 4 (R v0 12) (Cd d 144 [vi v1, vi 0, vi (isub (M (R v0 12) 5) 1)] sh R M 0 0 (fun (x1 : Int) (sh1 : SHP) (R1 M1 : MEM) => (x1 = 0 ∨ x1 = 1) → bq x1 (Q x1 sh1 R1 M1))))) :
    Go d 147 Q 0 [vr v0, vi v1] [] sh R M 0 0 :=
  Go_wp (cuts := []) 11 0 mok147 rfl h
theorem b_X11_isWay_0 {d : Nat} {Q : RES} {sh : SHP} {R M : MEM} {v0 v1 : Int}
    (h : ook sh 11 v0 (ook sh 4 (R v0 12) (Cd d 144 [vi v1, vi 0, vi (isub (M (R v0 12) 7) 1)] sh R M 0 0 (fun (x1 : Int) (sh1 : SHP) (R1 M1 : MEM) => (x1 = 0 ∨ x1 = 1) → bq x1 (Q x1 sh1 R1 M1))))) :
    Go d 148 Q 0 [vr v0, vi v1] [] sh R M 0 0 :=
  Go_wp (cuts := []) 11 0 mok148 rfl h
theorem b_X11_isClaim_0 {d : Nat} {Q : RES} {sh : SHP} {R M : MEM} {v0 v1 : Int}
    (h : ook sh 11 v0 (ook sh 4 (R v0 12) (Cd d 144 [vi v1, vi 0, vi (isub (M (R v0 12) 11) 1)] sh R M 0 0 (fun (x1 : Int) (sh1 : SHP) (R1 M1 : MEM) => (x1 = 0 ∨ x1 = 1) → bq x1 (Q x1 sh1 R1 M1))))) :
    Go d 149 Q 0 [vr v0, vi v1] [] sh R M 0 0 :=
  Go_wp (cuts := []) 11 0 mok149 rfl h
theorem b_X11_isTried_0 {d : Nat} {Q : RES} {sh : SHP} {R M : MEM} {v0 v1 v2 : Int}
    (h : ook sh 11 v0 (Cd d 146 [vr v0, vi v1] sh R M 0 0 (fun (x1 : Int) (sh1 : SHP) (R1 M1 : MEM) => (x1 = 0 ∨ x1 = 1) → (if x1 = 0 then Q 0 sh1 R1 M1 else Cd d 144 [vi v2, vi 1, vi 100] sh1 R1 M1 0 0 (fun (x2 : Int) (sh2 : SHP) (R2 M2 : MEM) => (x2 = 0 ∨ x2 = 1) → (if x2 = 0 then Q 0 sh2 R2 M2 else Q 1 sh2 R2 M2)))))) :
    Go d 150 Q 0 [vr v0, vi v1, vi v2] [] sh R M 0 0 :=
  Go_wp (cuts := []) 14 0 mok150 rfl h
theorem b_X11_isClaimTried_0 {d : Nat} {Q : RES} {sh : SHP} {R M : MEM} {v0 v1 v2 v3 : Int}
    (h : ook sh 11 v0 (Cd d 149 [vr v0, vi v1] sh R M 0 0 (fun (x1 : Int) (sh1 : SHP) (R1 M1 : MEM) => (x1 = 0 ∨ x1 = 1) → (if x1 = 0 then Q 0 sh1 R1 M1 else Cd d 144 [vi v2, vi 0, vi 99] sh1 R1 M1 0 0 (fun (x2 : Int) (sh2 : SHP) (R2 M2 : MEM) => (x2 = 0 ∨ x2 = 1) → (if x2 = 0 then Q 0 sh2 R2 M2 else Cd d 144 [vi v3, vi 1, vi 100] sh2 R2 M2 0 0 (fun (x3 : Int) (sh3 : SHP) (R3 M3 : MEM) => (x3 = 0 ∨ x3 = 1) → (if x3 = 0 then Q 0 sh3 R3 M3 else Q 1 sh3 R3 M3)))))))) :
    Go d 151 Q 0 [vr v0, vi v1, vi v2, vi v3] [] sh R M 0 0 :=
  Go_wp (cuts := []) 19 0 mok151 rfl h
