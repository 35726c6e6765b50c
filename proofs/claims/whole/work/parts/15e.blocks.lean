/-! BLOCKS: from a cut to the next ones -/
set_option maxRecDepth 20000 in
theorem b_X12_flock_0 {d : Nat} {Q : RES} {sh : SHP} {R M : MEM} {v0 v1 v2 : Int}
    (h : ook sh 12 v0 (Cd d 199 [vr v0, vi v1] sh R M 0 0 (fun (x1 : Int) (sh1 : SHP) (R1 M1 : MEM) => (x1 = 0 ∨ x1 = 1) → (if x1 = 0 then Q (-1) sh1 R1 M1 else Cd d 193 [vi v2, vi 1, vi 12] sh1 R1 M1 0 0 (fun (x2 : Int) (sh2 : SHP) (R2 M2 : MEM) => (x2 = 0 ∨ x2 = 1) → (if x2 = 0 then Q (-1) sh2 R2 M2 else ook sh2 12 v0 (aok sh2 100 (R2 v0 42) (isub (iadd (imul 12 v1) v2) 1) (Q (M2 (R2 v0 42) (isub (iadd (imul 12 v1) v2) 1)) sh2 R2 M2)))))))) :
    Go d 215 Q 0 [vr v0, vi v1, vi v2] [] sh R M 0 0 :=
  Go_wp (cuts := []) 23 0 mok215 rfl h
theorem b_X12_geese_0 {d : Nat} {Q : RES} {sh : SHP} {R M : MEM} {v0 v1 : Int}
    (h : (if v1 = 0 then ook sh 12 v0 (aok sh 100 (R v0 42) 212 (Q (M (R v0 42) 212) sh R M)) else if v1 = 1 then ook sh 12 v0 (aok sh 100 (R v0 42) 213 (Q (M (R v0 42) 213) sh R M)) else if v1 = 2 then ook sh 12 v0 (Cd d 211 [vr v0] sh R M 0 0 (fun (x1 : Int) (sh1 : SHP) (R1 M1 : MEM) => Q x1 sh1 R1 M1)) else if v1 = 3 then ook sh 12 v0 (Cd d 212 [vr v0] sh R M 0 0 (fun (x2 : Int) (sh2 : SHP) (R2 M2 : MEM) => Q x2 sh2 R2 M2)) else if v1 = 4 then ook sh 12 v0 (aok sh 100 (R v0 42) 214 (Q (M (R v0 42) 214) sh R M)) else if v1 = 5 then ook sh 12 v0 (aok sh 100 (R v0 42) 215 (Q (M (R v0 42) 215) sh R M)) else Q (-1) sh R M)) :
    Go d 216 Q 0 [vr v0, vi v1] [] sh R M 0 0 :=
  Go_wp (cuts := []) 9 0 mok216 rfl h
theorem b_X12_keepAct_0 {d : Nat} {Q : RES} {sh : SHP} {R M : MEM} {v0 : Int}
    (h : ook sh 12 v0 ((if (M v0 51) = 40 then Go d 217 Q 6 [vr v0, vi 0] [] sh R M 0 0 else Go d 217 Q 29 [vr v0, vi 0] [] sh R M 0 0))) :
    Go d 217 Q 0 [vr v0, vn] [] sh R M 0 0 :=
  Go_wp (cuts := [(6, [1, 1]), (29, [1, 1])]) 9 0 mok217 rfl h
set_option maxRecDepth 20000 in
theorem b_X12_keepAct_6 {d : Nat} {Q : RES} {sh : SHP} {R M : MEM} {v0 v1 : Int}
    (h : (if v1 < 8720 then ook sh 12 v0 (ook sh 12 v0 (aok sh 100 (R v0 50) (iadd v1 218) (aok sh 100 (R v0 50) v1 (Go d 217 Q 6 [vr v0, vi (iadd v1 1)] [] sh R (stm M (R v0 50) v1 (M (R v0 50) (iadd v1 218))) 0 0)))) else ook sh 12 v0 (ook sh 12 v0 (Go d 217 Q 29 [vr v0, vi 0] [] sh R (stm M v0 51 (isub (M v0 51) 1)) 0 0)))) :
    Go d 217 Q 6 [vr v0, vi v1] [] sh R M 0 0 :=
  Go_wp (cuts := [(6, [1, 1]), (29, [1, 1])]) 18 6 mok217 rfl h
set_option maxRecDepth 20000 in
theorem b_X12_keepAct_29 {d : Nat} {Q : RES} {sh : SHP} {R M : MEM} {v0 v1 : Int}
    (h : (if v1 < 218 then ook sh 12 v0 (ook sh 12 v0 (ook sh 12 v0 (aok sh 100 (R v0 42) v1 (aok sh 100 (R v0 50) (iadd (imul 218 (M v0 51)) v1) (Go d 217 Q 29 [vr v0, vi (iadd v1 1)] [] sh R (stm M (R v0 50) (iadd (imul 218 (M v0 51)) v1) (M (R v0 42) v1)) 0 0))))) else ook sh 12 v0 (ook sh 12 v0 (ook sh 12 v0 (Q 0 sh R (stm (stm M v0 51 (iadd (M v0 51) 1)) v0 52 0)))))) :
    Go d 217 Q 29 [vr v0, vi v1] [] sh R M 0 0 :=
  Go_wp (cuts := [(6, [1, 1]), (29, [1, 1])]) 21 29 mok217 rfl h
theorem b_X12_exchange_0 {d : Nat} {Q : RES} {sh : SHP} {R M : MEM} {v0 : Int}
    (h : Go d 218 Q 2 [vr v0, vi 0, vn] [] sh R M 0 0) :
    Go d 218 Q 0 [vr v0, vn, vn] [] sh R M 0 0 :=
  Go_wp (cuts := [(2, [1, 1, 0])]) 5 0 mok218 rfl h
set_option maxRecDepth 20000 in
theorem b_X12_exchange_2 {d : Nat} {Q : RES} {sh : SHP} {R M : MEM} {v0 v1 : Int}
    (h : (if v1 < 218 then ook sh 12 v0 (ook sh 12 v0 (aok sh 100 (R v0 50) (iadd (imul 218 (M v0 51)) v1) (ook sh 12 v0 (ook sh 12 v0 (ook sh 12 v0 (aok sh 100 (R v0 42) v1 (aok sh 100 (R v0 50) (iadd (imul 218 (M v0 51)) v1) (ook sh 12 v0 (aok sh 100 (R v0 42) v1 (Go d 218 Q 2 [vr v0, vi (iadd v1 1), vn] [] sh R (stm (stm M (R v0 50) (iadd (imul 218 (M v0 51)) v1) (M (R v0 42) v1)) (R v0 42) v1 (M (R v0 50) (iadd (imul 218 (M v0 51)) v1))) 0 0)))))))))) else Q 0 sh R M)) :
    Go d 218 Q 2 [vr v0, vi v1, vn] [] sh R M 0 0 :=
  Go_wp (cuts := [(2, [1, 1, 0])]) 36 2 mok218 rfl h
set_option maxRecDepth 20000 in
theorem b_X12_begin_0 {d : Nat} {Q : RES} {sh : SHP} {R M : MEM} {v0 v1 v2 : Int}
    (h : ook sh 12 v0 (Cd d 196 [vr v0] sh R M 0 0 (fun (x1 : Int) (sh1 : SHP) (R1 M1 : MEM) => Cd d 193 [vi v1, vi 0, vi (isub x1 1)] sh1 R1 M1 0 0 (fun (x2 : Int) (sh2 : SHP) (R2 M2 : MEM) => (x2 = 0 ∨ x2 = 1) → (if x2 = 0 then Q (-1) sh2 R2 M2 else Cd d 193 [vi v2, vi 1, vi 999] sh2 R2 M2 0 0 (fun (x3 : Int) (sh3 : SHP) (R3 M3 : MEM) => (x3 = 0 ∨ x3 = 1) → (if x3 = 0 then Q (-1) sh3 R3 M3 else ook sh3 12 v0 (ook sh3 12 v0 (aok sh3 100 (R3 v0 19) (iadd (imul 3 (M3 v0 36)) v1) (ook sh3 12 v0 (aok sh3 100 (R3 v0 42) (iadd 192 (M3 (R3 v0 19) (iadd (imul 3 (M3 v0 36)) v1))) ((if 999999 < (iadd (M3 (R3 v0 42) (iadd 192 (M3 (R3 v0 19) (iadd (imul 3 (M3 v0 36)) v1)))) v2) then Q (-1) sh3 R3 M3 else ook sh3 12 v0 (Cd d 217 [vr v0] sh3 R3 M3 0 0 (fun (_ : Int) (sh4 : SHP) (R4 M4 : MEM) => ook sh4 12 v0 (aok sh4 100 (R4 v0 42) (iadd 192 (M3 (R3 v0 19) (iadd (imul 3 (M3 v0 36)) v1))) (aok sh4 100 (R4 v0 42) (iadd 192 (M3 (R3 v0 19) (iadd (imul 3 (M3 v0 36)) v1))) (ook sh4 12 v0 (aok sh4 100 (R4 v0 42) 212 (aok sh4 100 (R4 v0 42) 212 (ook sh4 12 v0 (aok sh4 100 (R4 v0 42) (iadd 192 (M3 (R3 v0 19) (iadd (imul 3 (M3 v0 36)) v1))) (Q ((stm (stm M4 (R4 v0 42) (iadd 192 (M3 (R3 v0 19) (iadd (imul 3 (M3 v0 36)) v1))) (iadd (M4 (R4 v0 42) (iadd 192 (M3 (R3 v0 19) (iadd (imul 3 (M3 v0 36)) v1)))) v2)) (R4 v0 42) 212 (iadd ((stm M4 (R4 v0 42) (iadd 192 (M3 (R3 v0 19) (iadd (imul 3 (M3 v0 36)) v1))) (iadd (M4 (R4 v0 42) (iadd 192 (M3 (R3 v0 19) (iadd (imul 3 (M3 v0 36)) v1)))) v2)) (R4 v0 42) 212) v2)) (R4 v0 42) (iadd 192 (M3 (R3 v0 19) (iadd (imul 3 (M3 v0 36)) v1)))) sh4 R4 (stm (stm M4 (R4 v0 42) (iadd 192 (M3 (R3 v0 19) (iadd (imul 3 (M3 v0 36)) v1))) (iadd (M4 (R4 v0 42) (iadd 192 (M3 (R3 v0 19) (iadd (imul 3 (M3 v0 36)) v1)))) v2)) (R4 v0 42) 212 (iadd ((stm M4 (R4 v0 42) (iadd 192 (M3 (R3 v0 19) (iadd (imul 3 (M3 v0 36)) v1))) (iadd (M4 (R4 v0 42) (iadd 192 (M3 (R3 v0 19) (iadd (imul 3 (M3 v0 36)) v1)))) v2)) (R4 v0 42) 212) v2))))))))))))))))))))))))) :
    Go d 219 Q 0 [vr v0, vi v1, vi v2, vn] [] sh R M 0 0 :=
  Go_wp (cuts := []) 58 0 mok219 rfl h
set_option maxRecDepth 20000 in
theorem b_X12_beats_0 {d : Nat} {Q : RES} {sh : SHP} {R M : MEM} {v0 v1 : Int}
    (h : Cd d 193 [vi v1, vi 0, vi 60] sh R M 0 0 (fun (x1 : Int) (sh1 : SHP) (R1 M1 : MEM) => (x1 = 0 ∨ x1 = 1) → (if x1 = 0 then Q (-1) sh1 R1 M1 else ook sh1 12 v0 (aok sh1 100 (R1 v0 42) 216 ((if 1000 < (iadd (M1 (R1 v0 42) 216) v1) then Q (-1) sh1 R1 M1 else ook sh1 12 v0 (Cd d 217 [vr v0] sh1 R1 M1 0 0 (fun (_ : Int) (sh2 : SHP) (R2 M2 : MEM) => Go d 220 Q 19 [vr v0, vi v1, vi 0] [] sh2 R2 M2 0 0)))))))) :
    Go d 220 Q 0 [vr v0, vi v1, vn] [] sh R M 0 0 :=
  Go_wp (cuts := [(19, [1, 1, 1])]) 20 0 mok220 rfl h
theorem b_X12_beats_19 {d : Nat} {Q : RES} {sh : SHP} {R M : MEM} {v0 v1 v2 : Int}
    (h : (if v2 < v1 then ook sh 12 v0 (Cd d 209 [vr v0] sh R M 0 0 (fun (_ : Int) (sh1 : SHP) (R1 M1 : MEM) => Go d 220 Q 19 [vr v0, vi v1, vi (iadd v2 1)] [] sh1 R1 M1 0 0)) else ook sh 12 v0 (aok sh 100 (R v0 42) 216 (Q (M (R v0 42) 216) sh R M)))) :
    Go d 220 Q 19 [vr v0, vi v1, vi v2] [] sh R M 0 0 :=
  Go_wp (cuts := [(19, [1, 1, 1])]) 10 19 mok220 rfl h
set_option maxRecDepth 20000 in
theorem b_X12_gust_0 {d : Nat} {Q : RES} {sh : SHP} {R M : MEM} {v0 : Int}
    (h : ook sh 12 v0 (Cd d 195 [vr v0] sh R M 0 0 (fun (x1 : Int) (sh1 : SHP) (R1 M1 : MEM) => (if x1 = 0 then Q (-1) sh1 R1 M1 else ook sh1 12 v0 (Cd d 217 [vr v0] sh1 R1 M1 0 0 (fun (_ : Int) (sh2 : SHP) (R2 M2 : MEM) => ook sh2 12 v0 (ook sh2 12 v0 (aok sh2 100 (R2 v0 42) 217 ((1000 : Int) ≠ 0 ∧ aok sh2 100 (R2 v0 42) 217 (ook sh2 12 v0 (aok sh2 100 (R2 v0 42) 217 (ook sh2 12 v0 (Cd d 195 [vr v0] sh2 R2 (stm M2 (R2 v0 42) 217 (irem (iadd (imul 137 (M2 (R2 v0 42) 217)) 71) 1000)) 0 0 (fun (x3 : Int) (sh3 : SHP) (R3 M3 : MEM) => x3 ≠ 0 ∧ ook sh3 12 v0 (aok sh3 100 (R3 v0 42) (isub (iadd (imul 12 (irem ((stm M2 (R2 v0 42) 217 (irem (iadd (imul 137 (M2 (R2 v0 42) 217)) 71) 1000)) (R2 v0 42) 217) x3)) 12) 1) (ook sh3 12 v0 (aok sh3 100 (R3 v0 42) (isub (iadd (imul 12 (irem ((stm M2 (R2 v0 42) 217 (irem (iadd (imul 137 (M2 (R2 v0 42) 217)) 71) 1000)) (R2 v0 42) 217) x3)) 12) 2) (aok sh3 100 (R3 v0 42) (isub (iadd (imul 12 (irem ((stm M2 (R2 v0 42) 217 (irem (iadd (imul 137 (M2 (R2 v0 42) 217)) 71) 1000)) (R2 v0 42) 217) x3)) 12) 1) (Go d 221 Q 54 [vr v0, vi (irem ((stm M2 (R2 v0 42) 217 (irem (iadd (imul 137 (M2 (R2 v0 42) 217)) 71) 1000)) (R2 v0 42) 217) x3), vi 10] [] sh3 R3 (stm M3 (R3 v0 42) (isub (iadd (imul 12 (irem ((stm M2 (R2 v0 42) 217 (irem (iadd (imul 137 (M2 (R2 v0 42) 217)) 71) 1000)) (R2 v0 42) 217) x3)) 12) 1) (iadd (M3 (R3 v0 42) (isub (iadd (imul 12 (irem ((stm M2 (R2 v0 42) 217 (irem (iadd (imul 137 (M2 (R2 v0 42) 217)) 71) 1000)) (R2 v0 42) 217) x3)) 12) 1)) (M3 (R3 v0 42) (isub (iadd (imul 12 (irem ((stm M2 (R2 v0 42) 217 (irem (iadd (imul 137 (M2 (R2 v0 42) 217)) 71) 1000)) (R2 v0 42) 217) x3)) 12) 2)))) 0 0))))))))))))))))))) :
    Go d 221 Q 0 [vr v0, vn, vn] [] sh R M 0 0 :=
  Go_wp (cuts := [(54, [1, 1, 1])]) 55 0 mok221 rfl h
set_option maxRecDepth 20000 in
theorem b_X12_gust_54 {d : Nat} {Q : RES} {sh : SHP} {R M : MEM} {v0 v1 v2 : Int}
    (h : (if 0 < v2 then ook sh 12 v0 (ook sh 12 v0 (aok sh 100 (R v0 42) (isub (iadd (imul 12 v1) v2) 1) (aok sh 100 (R v0 42) (iadd (imul 12 v1) v2) (Go d 221 Q 54 [vr v0, vi v1, vi (iadd v2 (-1))] [] sh R (stm M (R v0 42) (iadd (imul 12 v1) v2) (M (R v0 42) (isub (iadd (imul 12 v1) v2) 1))) 0 0)))) else ook sh 12 v0 (aok sh 100 (R v0 42) (imul 12 v1) (Q v1 sh R (stm M (R v0 42) (imul 12 v1) 0))))) :
    Go d 221 Q 54 [vr v0, vi v1, vi v2] [] sh R M 0 0 :=
  Go_wp (cuts := [(54, [1, 1, 1])]) 25 54 mok221 rfl h
set_option maxRecDepth 20000 in
theorem b_X12_undo_0 {d : Nat} {Q : RES} {sh : SHP} {R M : MEM} {v0 : Int}
    (h : ook sh 12 v0 ((if (M v0 51) = 0 then Q 0 sh R M else ook sh 12 v0 (ook sh 12 v0 (ook sh 12 v0 (ook sh 12 v0 (ook sh 12 v0 (Cd d 218 [vr v0] sh R (stm (stm M v0 51 (isub (M v0 51) 1)) v0 52 (iadd ((stm M v0 51 (isub (M v0 51) 1)) v0 52) 1)) 0 0 (fun (_ : Int) (sh1 : SHP) (R1 M1 : MEM) => Q 1 sh1 R1 M1))))))))) :
    Go d 222 Q 0 [vr v0] [] sh R M 0 0 :=
  Go_wp (cuts := []) 21 0 mok222 rfl h
set_option maxRecDepth 20000 in
theorem b_X12_redo_0 {d : Nat} {Q : RES} {sh : SHP} {R M : MEM} {v0 : Int}
    (h : ook sh 12 v0 ((if (M v0 52) = 0 then Q 0 sh R M else ook sh 12 v0 (Cd d 218 [vr v0] sh R M 0 0 (fun (_ : Int) (sh1 : SHP) (R1 M1 : MEM) => ook sh1 12 v0 (ook sh1 12 v0 (ook sh1 12 v0 (ook sh1 12 v0 (Q 1 sh1 R1 (stm (stm M1 v0 51 (iadd (M1 v0 51) 1)) v0 52 (isub ((stm M1 v0 51 (iadd (M1 v0 51) 1)) v0 52) 1))))))))))) :
    Go d 223 Q 0 [vr v0] [] sh R M 0 0 :=
  Go_wp (cuts := []) 21 0 mok223 rfl h
set_option maxRecDepth 20000 in
theorem b_X12_lies_0 {d : Nat} {Q : RES} {sh : SHP} {R M : MEM} {v0 v1 : Int}
    (h : ook sh 12 v0 (Cd d 193 [vi v1, vi 0, vi (isub (M v0 55) 1)] sh R M 0 0 (fun (x1 : Int) (sh1 : SHP) (R1 M1 : MEM) => (x1 = 0 ∨ x1 = 1) → (if x1 = 0 then Q (-1) sh1 R1 M1 else ook sh1 12 v0 (aok sh1 100 (R1 v0 53) v1 (Q (M1 (R1 v0 53) v1) sh1 R1 M1)))))) :
    Go d 224 Q 0 [vr v0, vi v1] [] sh R M 0 0 :=
  Go_wp (cuts := []) 16 0 mok224 rfl h
set_option maxRecDepth 20000 in
theorem b_X12_row_0 {d : Nat} {Q : RES} {sh : SHP} {R M : MEM} {v0 v1 v2 : Int}
    (h : ook sh 12 v0 (Cd d 196 [vr v0] sh R M 0 0 (fun (x1 : Int) (sh1 : SHP) (R1 M1 : MEM) => Cd d 193 [vi v1, vi 0, vi (isub x1 1)] sh1 R1 M1 0 0 (fun (x2 : Int) (sh2 : SHP) (R2 M2 : MEM) => (x2 = 0 ∨ x2 = 1) → (if x2 = 0 then Q (-1) sh2 R2 M2 else Cd d 193 [vi v2, vi 0, vi 999] sh2 R2 M2 0 0 (fun (x3 : Int) (sh3 : SHP) (R3 M3 : MEM) => (x3 = 0 ∨ x3 = 1) → (if x3 = 0 then Q (-1) sh3 R3 M3 else ook sh3 12 v0 (aok sh3 100 (R3 v0 46) v1 (ook sh3 12 v0 (aok sh3 100 (R3 v0 46) v1 (Q (M3 (R3 v0 46) v1) sh3 R3 (stm M3 (R3 v0 46) v1 v2)))))))))))) :
    Go d 225 Q 0 [vr v0, vi v1, vi v2, vn] [] sh R M 0 0 :=
  Go_wp (cuts := []) 27 0 mok225 rfl h
theorem b_X12_clearFor_0 {d : Nat} {Q : RES} {sh : SHP} {R M : MEM} {v0 : Int}
    (h : ook sh 12 v0 (Cd d 203 [vr v0] sh R M 0 0 (fun (_ : Int) (sh1 : SHP) (R1 M1 : MEM) => Go d 226 Q 4 [vr v0, vi 0] [] sh1 R1 M1 0 0))) :
    Go d 226 Q 0 [vr v0, vn] [] sh R M 0 0 :=
  Go_wp (cuts := [(4, [1, 1])]) 7 0 mok226 rfl h
set_option maxRecDepth 20000 in
theorem b_X12_clearFor_4 {d : Nat} {Q : RES} {sh : SHP} {R M : MEM} {v0 v1 : Int}
    (h : ook sh 12 v0 (Cd d 196 [vr v0] sh R M 0 0 (fun (x1 : Int) (sh1 : SHP) (R1 M1 : MEM) => (if v1 < x1 then ook sh1 12 v0 (ook sh1 12 v0 (ook sh1 12 v0 (aok sh1 100 (R1 v0 19) (iadd (imul 3 (M1 v0 36)) v1) (ook sh1 12 v0 (aok sh1 100 (R1 v0 46) v1 (aok sh1 100 (R1 v0 42) (iadd 192 (M1 (R1 v0 19) (iadd (imul 3 (M1 v0 36)) v1))) (Go d 226 Q 4 [vr v0, vi (iadd v1 1)] [] sh1 R1 (stm M1 (R1 v0 42) (iadd 192 (M1 (R1 v0 19) (iadd (imul 3 (M1 v0 36)) v1))) (M1 (R1 v0 46) v1)) 0 0))))))) else Q 0 sh1 R1 M1)))) :
    Go d 226 Q 4 [vr v0, vi v1] [] sh R M 0 0 :=
  Go_wp (cuts := [(4, [1, 1])]) 27 4 mok226 rfl h
theorem b_X12_reckoned_0 {d : Nat} {Q : RES} {sh : SHP} {R M : MEM} {v0 v1 v2 : Int}
    (h : ook sh 12 v0 (Cd d 226 [vr v0] sh R M 0 0 (fun (_ : Int) (sh1 : SHP) (R1 M1 : MEM) => Go d 227 Q 4 [vr v0, vi v1, vi v2, vi 0] [] sh1 R1 M1 0 0))) :
    Go d 227 Q 0 [vr v0, vi v1, vi v2, vn] [] sh R M 0 0 :=
  Go_wp (cuts := [(4, [1, 1, 1, 1])]) 7 0 mok227 rfl h
theorem b_X12_reckoned_4 {d : Nat} {Q : RES} {sh : SHP} {R M : MEM} {v0 v1 v2 v3 : Int}
    (h : (if v3 < v2 then ook sh 12 v0 (Cd d 209 [vr v0] sh R M 0 0 (fun (_ : Int) (sh1 : SHP) (R1 M1 : MEM) => Go d 227 Q 4 [vr v0, vi v1, vi v2, vi (iadd v3 1)] [] sh1 R1 M1 0 0)) else ook sh 12 v0 (aok sh 100 (R v0 42) (iadd 192 v1) (Q (M (R v0 42) (iadd 192 v1)) sh R M)))) :
    Go d 227 Q 4 [vr v0, vi v1, vi v2, vi v3] [] sh R M 0 0 :=
  Go_wp (cuts := [(4, [1, 1, 1, 1])]) 12 4 mok227 rfl h
theorem b_X12_isBeats_0 {d : Nat} {Q : RES} {sh : SHP} {R M : MEM} {v0 : Int}
    (h : Cd d 193 [vi v0, vi 1, vi 100] sh R M 0 0 (fun (x1 : Int) (sh1 : SHP) (R1 M1 : MEM) => (x1 = 0 ∨ x1 = 1) → bq x1 (Q x1 sh1 R1 M1))) :
    Go d 228 Q 0 [vi v0] [] sh R M 0 0 :=
  Go_wp (cuts := []) 7 0 mok228 rfl h
set_option maxRecDepth 20000 in
theorem b_X12_reckon_0 {d : Nat} {Q : RES} {sh : SHP} {R M : MEM} {v0 v1 v2 : Int}
    (h : ook sh 12 v0 (Cd d 200 [vr v0, vi v1] sh R M 0 0 (fun (x1 : Int) (sh1 : SHP) (R1 M1 : MEM) => (x1 = 0 ∨ x1 = 1) → (if x1 = 0 then Q (-1) sh1 R1 M1 else Cd d 228 [vi v2] sh1 R1 M1 0 0 (fun (x2 : Int) (sh2 : SHP) (R2 M2 : MEM) => (x2 = 0 ∨ x2 = 1) → (if x2 = 0 then Q (-1) sh2 R2 M2 else ook sh2 12 v0 (Cd d 204 [vr v0] sh2 R2 M2 0 0 (fun (_ : Int) (sh3 : SHP) (R3 M3 : MEM) => ook sh3 12 v0 (Cd d 227 [vr v0, vi v1, vi v2] sh3 R3 M3 0 0 (fun (x4 : Int) (sh4 : SHP) (R4 M4 : MEM) => ook sh4 12 v0 (Cd d 205 [vr v0] sh4 R4 M4 0 0 (fun (_ : Int) (sh5 : SHP) (R5 M5 : MEM) => Q x4 sh5 R5 M5)))))))))))) :
    Go d 229 Q 0 [vr v0, vi v1, vi v2, vn] [] sh R M 0 0 :=
  Go_wp (cuts := []) 20 0 mok229 rfl h
theorem b_X12_isStill_0 {d : Nat} {Q : RES} {sh : SHP} {R M : MEM} {v0 : Int}
    (h : ook sh 12 v0 (Cd d 211 [vr v0] sh R M 0 0 (fun (x1 : Int) (sh1 : SHP) (R1 M1 : MEM) => (if 0 < x1 then Q 0 sh1 R1 M1 else Go d 230 Q 7 [vr v0, vi 0] [] sh1 R1 M1 0 0)))) :
    Go d 230 Q 0 [vr v0, vn] [] sh R M 0 0 :=
  Go_wp (cuts := [(7, [1, 1])]) 8 0 mok230 rfl h
set_option maxRecDepth 20000 in
theorem b_X12_isStill_7 {d : Nat} {Q : RES} {sh : SHP} {R M : MEM} {v0 v1 : Int}
    (h : ook sh 12 v0 (Cd d 194 [vr v0] sh R M 0 0 (fun (x1 : Int) (sh1 : SHP) (R1 M1 : MEM) => (if v1 < x1 then ook sh1 12 v0 (Cd d 197 [vr v0, vi v1] sh1 R1 M1 0 0 (fun (x2 : Int) (sh2 : SHP) (R2 M2 : MEM) => (if x2 = 0 then ook sh2 12 v0 (aok sh2 100 (R2 v0 42) (iadd 192 v1) ((if 0 < (M2 (R2 v0 42) (iadd 192 v1)) then Q 0 sh2 R2 M2 else ook sh2 12 v0 (Cd d 197 [vr v0, vi v1] sh2 R2 M2 0 0 (fun (x4 : Int) (sh4 : SHP) (R4 M4 : MEM) => (if x4 = 5 then ook sh4 12 v0 (aok sh4 100 (R4 v0 42) (iadd 192 v1) (ook sh4 12 v0 (ook sh4 12 v0 (aok sh4 100 (R4 v0 18) (iadd (imul 10 (M4 v0 36)) v1) ((if (M4 (R4 v0 42) (iadd 192 v1)) < (M4 (R4 v0 18) (iadd (imul 10 (M4 v0 36)) v1)) then Go d 230 Q 7 [vr v0, vi (iadd v1 1)] [] sh4 R4 M4 0 0 else Q 0 sh4 R4 M4)))))) else Go d 230 Q 7 [vr v0, vi (iadd v1 1)] [] sh4 R4 M4 0 0)))))) else ook sh2 12 v0 (Cd d 197 [vr v0, vi v1] sh2 R2 M2 0 0 (fun (x3 : Int) (sh3 : SHP) (R3 M3 : MEM) => (if x3 = 5 then ook sh3 12 v0 (aok sh3 100 (R3 v0 42) (iadd 192 v1) (ook sh3 12 v0 (ook sh3 12 v0 (aok sh3 100 (R3 v0 18) (iadd (imul 10 (M3 v0 36)) v1) ((if (M3 (R3 v0 42) (iadd 192 v1)) < (M3 (R3 v0 18) (iadd (imul 10 (M3 v0 36)) v1)) then Go d 230 Q 7 [vr v0, vi (iadd v1 1)] [] sh3 R3 M3 0 0 else Q 0 sh3 R3 M3)))))) else Go d 230 Q 7 [vr v0, vi (iadd v1 1)] [] sh3 R3 M3 0 0)))))) else Q 1 sh1 R1 M1)))) :
    Go d 230 Q 7 [vr v0, vi v1] [] sh R M 0 0 :=
  Go_wp (cuts := [(7, [1, 1])]) 41 7 mok230 rfl h
theorem b_X12_still_0 {d : Nat} {Q : RES} {sh : SHP} {R M : MEM} {v0 : Int}
    (h : ook sh 12 v0 (Cd d 204 [vr v0] sh R M 0 0 (fun (_ : Int) (sh1 : SHP) (R1 M1 : MEM) => ook sh1 12 v0 (Cd d 226 [vr v0] sh1 R1 M1 0 0 (fun (_ : Int) (sh2 : SHP) (R2 M2 : MEM) => Go d 231 Q 8 [vr v0, vi (-1), vi 0] [] sh2 R2 M2 0 0))))) :
    Go d 231 Q 0 [vr v0, vn, vn] [] sh R M 0 0 :=
  Go_wp (cuts := [(8, [1, 1, 1])]) 11 0 mok231 rfl h
set_option maxRecDepth 20000 in
theorem b_X12_still_8 {d : Nat} {Q : RES} {sh : SHP} {R M : MEM} {v0 v1 v2 : Int}
    (h : (if 200 < v2 then ook sh 12 v0 (Cd d 205 [vr v0] sh R M 0 0 (fun (_ : Int) (sh1 : SHP) (R1 M1 : MEM) => Q v1 sh1 R1 M1)) else (if v1 < 0 then (if 0 < v2 then ook sh 12 v0 (Cd d 209 [vr v0] sh R M 0 0 (fun (_ : Int) (sh4 : SHP) (R4 M4 : MEM) => ook sh4 12 v0 (Cd d 230 [vr v0] sh4 R4 M4 0 0 (fun (x5 : Int) (sh5 : SHP) (R5 M5 : MEM) => (x5 = 0 ∨ x5 = 1) → (if x5 = 0 then Go d 231 Q 8 [vr v0, vi v1, vi (iadd v2 1)] [] sh5 R5 M5 0 0 else Go d 231 Q 8 [vr v0, vi v2, vi (iadd v2 1)] [] sh5 R5 M5 0 0))))) else ook sh 12 v0 (Cd d 230 [vr v0] sh R M 0 0 (fun (x3 : Int) (sh3 : SHP) (R3 M3 : MEM) => (x3 = 0 ∨ x3 = 1) → (if x3 = 0 then Go d 231 Q 8 [vr v0, vi v1, vi (iadd v2 1)] [] sh3 R3 M3 0 0 else Go d 231 Q 8 [vr v0, vi v2, vi (iadd v2 1)] [] sh3 R3 M3 0 0)))) else ook sh 12 v0 (Cd d 205 [vr v0] sh R M 0 0 (fun (_ : Int) (sh2 : SHP) (R2 M2 : MEM) => Q v1 sh2 R2 M2))))) :
    Go d 231 Q 8 [vr v0, vi v1, vi v2] [] sh R M 0 0 :=
  Go_wp (cuts := [(8, [1, 1, 1])]) 19 8 mok231 rfl h
theorem b_X12_keepRow_0 {d : Nat} {Q : RES} {sh : SHP} {R M : MEM} {v0 : Int}
    (h : Go d 232 Q 2 [vr v0, vi 0] [] sh R M 0 0) :
    Go d 232 Q 0 [vr v0, vn] [] sh R M 0 0 :=
  Go_wp (cuts := [(2, [1, 1])]) 5 0 mok232 rfl h
set_option maxRecDepth 20000 in
theorem b_X12_keepRow_2 {d : Nat} {Q : RES} {sh : SHP} {R M : MEM} {v0 v1 : Int}
    (h : (if v1 < 3 then ook sh 12 v0 (ook sh 12 v0 (aok sh 100 (R v0 46) v1 (aok sh 100 (R v0 54) v1 (Go d 232 Q 2 [vr v0, vi (iadd v1 1)] [] sh R (stm M (R v0 54) v1 (M (R v0 46) v1)) 0 0)))) else Q 0 sh R M)) :
    Go d 232 Q 2 [vr v0, vi v1] [] sh R M 0 0 :=
  Go_wp (cuts := [(2, [1, 1])]) 16 2 mok232 rfl h
theorem b_X12_bringRow_0 {d : Nat} {Q : RES} {sh : SHP} {R M : MEM} {v0 : Int}
    (h : Go d 233 Q 2 [vr v0, vi 0] [] sh R M 0 0) :
    Go d 233 Q 0 [vr v0, vn] [] sh R M 0 0 :=
  Go_wp (cuts := [(2, [1, 1])]) 5 0 mok233 rfl h
set_option maxRecDepth 20000 in
theorem b_X12_bringRow_2 {d : Nat} {Q : RES} {sh : SHP} {R M : MEM} {v0 v1 : Int}
    (h : (if v1 < 3 then ook sh 12 v0 (ook sh 12 v0 (aok sh 100 (R v0 54) v1 (aok sh 100 (R v0 46) v1 (Go d 233 Q 2 [vr v0, vi (iadd v1 1)] [] sh R (stm M (R v0 46) v1 (M (R v0 54) v1)) 0 0)))) else Q 0 sh R M)) :
    Go d 233 Q 2 [vr v0, vi v1] [] sh R M 0 0 :=
  Go_wp (cuts := [(2, [1, 1])]) 16 2 mok233 rfl h
theorem b_X12_rowsOf_0 {d : Nat} {Q : RES} {sh : SHP} {R M : MEM} {v0 v1 : Int}
    (h : Go d 234 Q 4 [vr v0, vi v1, vi 1, vi 0] [] sh R M 0 0) :
    Go d 234 Q 0 [vr v0, vi v1, vn, vn] [] sh R M 0 0 :=
  Go_wp (cuts := [(4, [1, 1, 1, 1])]) 7 0 mok234 rfl h
set_option maxRecDepth 20000 in
theorem b_X12_rowsOf_4 {d : Nat} {Q : RES} {sh : SHP} {R M : MEM} {v0 v1 v2 v3 : Int}
    (h : ook sh 12 v0 (Cd d 196 [vr v0] sh R M 0 0 (fun (x1 : Int) (sh1 : SHP) (R1 M1 : MEM) => (if v3 < x1 then Go d 234 Q 4 [vr v0, vi v1, vi (imul v2 (iadd v1 1)), vi (iadd v3 1)] [] sh1 R1 M1 0 0 else Q v2 sh1 R1 M1)))) :
    Go d 234 Q 4 [vr v0, vi v1, vi v2, vi v3] [] sh R M 0 0 :=
  Go_wp (cuts := [(4, [1, 1, 1, 1])]) 15 4 mok234 rfl h
theorem b_X12_layRow_0 {d : Nat} {Q : RES} {sh : SHP} {R M : MEM} {v0 v1 v2 : Int}
    (h : ook sh 12 v0 (Cd d 196 [vr v0] sh R M 0 0 (fun (x1 : Int) (sh1 : SHP) (R1 M1 : MEM) => Go d 235 Q 7 [vr v0, vn, vi v2, vi v1, vi (isub x1 1)] [] sh1 R1 M1 0 0))) :
    Go d 235 Q 0 [vr v0, vi v1, vi v2, vn, vn] [] sh R M 0 0 :=
  Go_wp (cuts := [(7, [1, 0, 1, 1, 1])]) 10 0 mok235 rfl h
set_option maxRecDepth 20000 in
theorem b_X12_layRow_7 {d : Nat} {Q : RES} {sh : SHP} {R M : MEM} {v0 v2 v3 v4 : Int}
    (h : (if v4 < 0 then Q 0 sh R M else ook sh 12 v0 ((iadd v2 1) ≠ 0 ∧ aok sh 100 (R v0 46) v4 ((iadd v2 1) ≠ 0 ∧ Go d 235 Q 7 [vr v0, vn, vi v2, vi (idiv v3 (iadd v2 1)), vi (iadd v4 (-1))] [] sh R (stm M (R v0 46) v4 (irem v3 (iadd v2 1))) 0 0)))) :
    Go d 235 Q 7 [vr v0, vn, vi v2, vi v3, vi v4] [] sh R M 0 0 :=
  Go_wp (cuts := [(7, [1, 0, 1, 1, 1])]) 22 7 mok235 rfl h
set_option maxRecDepth 20000 in
theorem b_X12_isRight_0 {d : Nat} {Q : RES} {sh : SHP} {R M : MEM} {v0 v1 v2 : Int}
    (h : ook sh 12 v0 (Cd d 191 [vr v0, vi v1] sh R M 0 0 (fun (x1 : Int) (sh1 : SHP) (R1 M1 : MEM) => ook sh1 12 v0 (ook sh1 12 v0 (aok sh1 100 (R1 v0 25) (iadd (imul 6 (M1 v0 36)) v1) (ook sh1 12 v0 (Cd d 227 [vr v0, vi (M1 (R1 v0 25) (iadd (imul 6 (M1 v0 36)) v1)), vi v2] sh1 R1 M1 0 0 (fun (x2 : Int) (sh2 : SHP) (R2 M2 : MEM) => (if x1 = x2 then Q 1 sh2 R2 M2 else Q 0 sh2 R2 M2))))))))) :
    Go d 236 Q 0 [vr v0, vi v1, vi v2] [] sh R M 0 0 :=
  Go_wp (cuts := []) 21 0 mok236 rfl h
theorem b_X12_says_0 {d : Nat} {Q : RES} {sh : SHP} {R M : MEM} {v0 v1 : Int}
    (h : ook sh 12 v0 (Cd d 201 [vr v0, vi v1] sh R M 0 0 (fun (x1 : Int) (sh1 : SHP) (R1 M1 : MEM) => (x1 = 0 ∨ x1 = 1) → (if x1 = 0 then Q 0 sh1 R1 M1 else ook sh1 12 v0 (Cd d 191 [vr v0, vi v1] sh1 R1 M1 0 0 (fun (x2 : Int) (sh2 : SHP) (R2 M2 : MEM) => Q x2 sh2 R2 M2)))))) :
    Go d 237 Q 0 [vr v0, vi v1] [] sh R M 0 0 :=
  Go_wp (cuts := []) 11 0 mok237 rfl h
set_option maxRecDepth 20000 in
theorem b_X12_canAsk_0 {d : Nat} {Q : RES} {sh : SHP} {R M : MEM} {v0 v1 v2 v3 : Int}
    (h : ook sh 12 v0 (Cd d 201 [vr v0, vi v1] sh R M 0 0 (fun (x1 : Int) (sh1 : SHP) (R1 M1 : MEM) => (x1 = 0 ∨ x1 = 1) → (if x1 = 0 then Q 0 sh1 R1 M1 else Cd d 193 [vi v2, vi 0, vi 99] sh1 R1 M1 0 0 (fun (x2 : Int) (sh2 : SHP) (R2 M2 : MEM) => (x2 = 0 ∨ x2 = 1) → (if x2 = 0 then Q 0 sh2 R2 M2 else Cd d 228 [vi v3] sh2 R2 M2 0 0 (fun (x3 : Int) (sh3 : SHP) (R3 M3 : MEM) => (x3 = 0 ∨ x3 = 1) → (if x3 = 0 then Q 0 sh3 R3 M3 else Q 1 sh3 R3 M3)))))))) :
    Go d 238 Q 0 [vr v0, vi v1, vi v2, vi v3] [] sh R M 0 0 :=
  Go_wp (cuts := []) 17 0 mok238 rfl h
theorem b_X12_wrongRows_0 {d : Nat} {Q : RES} {sh : SHP} {R M : MEM} {v0 v1 v2 v3 v4 : Int}
    (h : ook sh 12 v0 (Cd d 204 [vr v0] sh R M 0 0 (fun (_ : Int) (sh1 : SHP) (R1 M1 : MEM) => ook sh1 12 v0 (Cd d 232 [vr v0] sh1 R1 M1 0 0 (fun (_ : Int) (sh2 : SHP) (R2 M2 : MEM) => Go d 239 Q 10 [vr v0, vi v1, vi v2, vi v3, vi v4, vi 0, vi (-1), vi 0] [] sh2 R2 M2 0 0))))) :
    Go d 239 Q 0 [vr v0, vi v1, vi v2, vi v3, vi v4, vn, vn, vn] [] sh R M 0 0 :=
  Go_wp (cuts := [(10, [1, 1, 1, 1, 1, 1, 1, 1])]) 13 0 mok239 rfl h
set_option maxRecDepth 20000 in
theorem b_X12_wrongRows_10 {d : Nat} {Q : RES} {sh : SHP} {R M : MEM} {v0 v1 v2 v3 v4 v5 v6 v7 : Int}
    (h : ook sh 12 v0 (Cd d 234 [vr v0, vi v2] sh R M 0 0 (fun (x1 : Int) (sh1 : SHP) (R1 M1 : MEM) => (if v7 < x1 then (if v6 < 0 then ook sh1 12 v0 (Cd d 235 [vr v0, vi v7, vi v2] sh1 R1 M1 0 0 (fun (_ : Int) (sh4 : SHP) (R4 M4 : MEM) => ook sh4 12 v0 (Cd d 236 [vr v0, vi v1, vi v3] sh4 R4 M4 0 0 (fun (x5 : Int) (sh5 : SHP) (R5 M5 : MEM) => (x5 = 0 ∨ x5 = 1) → (if x5 = 0 then (if v6 < 0 then Go d 239 Q 10 [vr v0, vi v1, vi v2, vi v3, vi v4, vi (iadd v5 1), vi v7, vi (iadd v7 1)] [] sh5 R5 M5 0 0 else Go d 239 Q 10 [vr v0, vi v1, vi v2, vi v3, vi v4, vi (iadd v5 1), vi v6, vi (iadd v7 1)] [] sh5 R5 M5 0 0) else Go d 239 Q 10 [vr v0, vi v1, vi v2, vi v3, vi v4, vi v5, vi v6, vi (iadd v7 1)] [] sh5 R5 M5 0 0))))) else (if v4 = 0 then ook sh1 12 v0 (Cd d 235 [vr v0, vi v7, vi v2] sh1 R1 M1 0 0 (fun (_ : Int) (sh8 : SHP) (R8 M8 : MEM) => ook sh8 12 v0 (Cd d 236 [vr v0, vi v1, vi v3] sh8 R8 M8 0 0 (fun (x9 : Int) (sh9 : SHP) (R9 M9 : MEM) => (x9 = 0 ∨ x9 = 1) → (if x9 = 0 then (if v6 < 0 then Go d 239 Q 10 [vr v0, vi v1, vi v2, vi v3, vi v4, vi (iadd v5 1), vi v7, vi (iadd v7 1)] [] sh9 R9 M9 0 0 else Go d 239 Q 10 [vr v0, vi v1, vi v2, vi v3, vi v4, vi (iadd v5 1), vi v6, vi (iadd v7 1)] [] sh9 R9 M9 0 0) else Go d 239 Q 10 [vr v0, vi v1, vi v2, vi v3, vi v4, vi v5, vi v6, vi (iadd v7 1)] [] sh9 R9 M9 0 0))))) else ook sh1 12 v0 (Cd d 233 [vr v0] sh1 R1 M1 0 0 (fun (_ : Int) (sh6 : SHP) (R6 M6 : MEM) => ook sh6 12 v0 (Cd d 205 [vr v0] sh6 R6 M6 0 0 (fun (_ : Int) (sh7 : SHP) (R7 M7 : MEM) => (if v4 = 0 then Q v5 sh7 R7 M7 else Q v6 sh7 R7 M7))))))) else ook sh1 12 v0 (Cd d 233 [vr v0] sh1 R1 M1 0 0 (fun (_ : Int) (sh2 : SHP) (R2 M2 : MEM) => ook sh2 12 v0 (Cd d 205 [vr v0] sh2 R2 M2 0 0 (fun (_ : Int) (sh3 : SHP) (R3 M3 : MEM) => (if v4 = 0 then Q v5 sh3 R3 M3 else Q v6 sh3 R3 M3))))))))) :
    Go d 239 Q 10 [vr v0, vi v1, vi v2, vi v3, vi v4, vi v5, vi v6, vi v7] [] sh R M 0 0 :=
  Go_wp (cuts := [(10, [1, 1, 1, 1, 1, 1, 1, 1])]) 29 10 mok239 rfl h
set_option maxRecDepth 20000 in
theorem b_X12_wrong_0 {d : Nat} {Q : RES} {sh : SHP} {R M : MEM} {v0 v1 v2 v3 : Int}
    (h : ook sh 12 v0 (Cd d 238 [vr v0, vi v1, vi v2, vi v3] sh R M 0 0 (fun (x1 : Int) (sh1 : SHP) (R1 M1 : MEM) => (x1 = 0 ∨ x1 = 1) → (if x1 = 0 then Q (-1) sh1 R1 M1 else ook sh1 12 v0 (Cd d 234 [vr v0, vi v2] sh1 R1 M1 0 0 (fun (x2 : Int) (sh2 : SHP) (R2 M2 : MEM) => (if 1000 < x2 then Q (-2) sh2 R2 M2 else ook sh2 12 v0 (Cd d 239 [vr v0, vi v1, vi v2, vi v3, vi 0] sh2 R2 M2 0 0 (fun (x3 : Int) (sh3 : SHP) (R3 M3 : MEM) => Q x3 sh3 R3 M3))))))))) :
    Go d 240 Q 0 [vr v0, vi v1, vi v2, vi v3] [] sh R M 0 0 :=
  Go_wp (cuts := []) 20 0 mok240 rfl h
set_option maxRecDepth 20000 in
theorem b_X12_against_0 {d : Nat} {Q : RES} {sh : SHP} {R M : MEM} {v0 v1 v2 v3 : Int}
    (h : ook sh 12 v0 (ook sh 12 v0 (Cd d 238 [vr v0, vi v1, vi v2, vi v3] sh R (stm M v0 55 0) 0 0 (fun (x1 : Int) (sh1 : SHP) (R1 M1 : MEM) => (x1 = 0 ∨ x1 = 1) → (if x1 = 0 then Q (-1) sh1 R1 M1 else ook sh1 12 v0 (Cd d 234 [vr v0, vi v2] sh1 R1 M1 0 0 (fun (x2 : Int) (sh2 : SHP) (R2 M2 : MEM) => (if 1000 < x2 then Q (-2) sh2 R2 M2 else ook sh2 12 v0 (Cd d 239 [vr v0, vi v1, vi v2, vi v3, vi 1] sh2 R2 M2 0 0 (fun (x3 : Int) (sh3 : SHP) (R3 M3 : MEM) => (if x3 < 0 then Q (-1) sh3 R3 M3 else ook sh3 12 v0 (Cd d 232 [vr v0] sh3 R3 M3 0 0 (fun (_ : Int) (sh4 : SHP) (R4 M4 : MEM) => ook sh4 12 v0 (Cd d 235 [vr v0, vi x3, vi v2] sh4 R4 M4 0 0 (fun (_ : Int) (sh5 : SHP) (R5 M5 : MEM) => Go d 241 Q 37 [vr v0, vn, vn, vn, vi x3, vi 0] [] sh5 R5 M5 0 0))))))))))))))) :
    Go d 241 Q 0 [vr v0, vi v1, vi v2, vi v3, vn, vn] [] sh R M 0 0 :=
  Go_wp (cuts := [(37, [1, 0, 0, 0, 1, 1])]) 34 0 mok241 rfl h
set_option maxRecDepth 20000 in
theorem b_X12_against_37 {d : Nat} {Q : RES} {sh : SHP} {R M : MEM} {v0 v4 v5 : Int}
    (h : ook sh 12 v0 (Cd d 196 [vr v0] sh R M 0 0 (fun (x1 : Int) (sh1 : SHP) (R1 M1 : MEM) => (if v5 < x1 then ook sh1 12 v0 (ook sh1 12 v0 (aok sh1 100 (R1 v0 46) v5 (aok sh1 100 (R1 v0 53) v5 (Go d 241 Q 37 [vr v0, vn, vn, vn, vi v4, vi (iadd v5 1)] [] sh1 R1 (stm M1 (R1 v0 53) v5 (M1 (R1 v0 46) v5)) 0 0)))) else ook sh1 12 v0 (Cd d 196 [vr v0] sh1 R1 M1 0 0 (fun (x2 : Int) (sh2 : SHP) (R2 M2 : MEM) => ook sh2 12 v0 (ook sh2 12 v0 (Cd d 233 [vr v0] sh2 R2 (stm M2 v0 55 x2) 0 0 (fun (_ : Int) (sh3 : SHP) (R3 M3 : MEM) => Q v4 sh3 R3 M3))))))))) :
    Go d 241 Q 37 [vr v0, vn, vn, vn, vi v4, vi v5] [] sh R M 0 0 :=
  Go_wp (cuts := [(37, [1, 0, 0, 0, 1, 1])]) 17 37 mok241 rfl h
theorem b_X12_areAllRight_0 {d : Nat} {Q : RES} {sh : SHP} {R M : MEM} {v0 v1 v2 v3 : Int}
    (h : Go d 242 Q 2 [vr v0, vi v1, vi v2, vi v3, vi 0] [] sh R M 0 0) :
    Go d 242 Q 0 [vr v0, vi v1, vi v2, vi v3, vn] [] sh R M 0 0 :=
  Go_wp (cuts := [(2, [1, 1, 1, 1, 1])]) 5 0 mok242 rfl h
set_option maxRecDepth 20000 in
theorem b_X12_areAllRight_2 {d : Nat} {Q : RES} {sh : SHP} {R M : MEM} {v0 v1 v2 v3 v4 : Int}
    (h : ook sh 12 v0 (Cd d 234 [vr v0, vi v2] sh R M 0 0 (fun (x1 : Int) (sh1 : SHP) (R1 M1 : MEM) => (if v4 < x1 then ook sh1 12 v0 (Cd d 235 [vr v0, vi v4, vi v2] sh1 R1 M1 0 0 (fun (_ : Int) (sh2 : SHP) (R2 M2 : MEM) => ook sh2 12 v0 (Cd d 236 [vr v0, vi v1, vi v3] sh2 R2 M2 0 0 (fun (x3 : Int) (sh3 : SHP) (R3 M3 : MEM) => (x3 = 0 ∨ x3 = 1) → (if x3 = 0 then Q 0 sh3 R3 M3 else Go d 242 Q 2 [vr v0, vi v1, vi v2, vi v3, vi (iadd v4 1)] [] sh3 R3 M3 0 0))))) else Q 1 sh1 R1 M1)))) :
    Go d 242 Q 2 [vr v0, vi v1, vi v2, vi v3, vi v4] [] sh R M 0 0 :=
  Go_wp (cuts := [(2, [1, 1, 1, 1, 1])]) 19 2 mok242 rfl h
theorem b_X12_told_0 {d : Nat} {Q : RES} {sh : SHP} {R M : MEM} {v0 v1 : Int}
    (h : ook sh 12 v0 (ook sh 12 v0 (aok sh 100 (R v0 22) (iadd (imul 16 (M v0 36)) v1) (Q (M (R v0 22) (iadd (imul 16 (M v0 36)) v1)) sh R M)))) :
    Go d 243 Q 0 [vr v0, vi v1] [] sh R M 0 0 :=
  Go_wp (cuts := []) 12 0 mok243 rfl h
theorem b_X12_mendsOne_0 {d : Nat} {Q : RES} {sh : SHP} {R M : MEM} {v0 v1 v2 v3 v4 : Int}
    (h : Go d 244 Q 2 [vr v0, vi v1, vi v2, vi v3, vi v4, vi 0, vn, vn] [] sh R M 0 0) :
    Go d 244 Q 0 [vr v0, vi v1, vi v2, vi v3, vi v4, vn, vn, vn] [] sh R M 0 0 :=
  Go_wp (cuts := [(2, [1, 1, 1, 1, 1, 1, 0, 0]), (8, [1, 1, 1, 1, 1, 1, 1, 0])]) 5 0 mok244 rfl h
theorem b_X12_mendsOne_2 {d : Nat} {Q : RES} {sh : SHP} {R M : MEM} {v0 v1 v2 v3 v4 v5 : Int}
    (h : ook sh 12 v0 (Cd d 195 [vr v0] sh R M 0 0 (fun (x1 : Int) (sh1 : SHP) (R1 M1 : MEM) => (if v5 < x1 then Go d 244 Q 8 [vr v0, vi v1, vi v2, vi v3, vi v4, vi v5, vi 1, vn] [] sh1 R1 M1 0 0 else Q 0 sh1 R1 M1)))) :
    Go d 244 Q 2 [vr v0, vi v1, vi v2, vi v3, vi v4, vi v5, vn, vn] [] sh R M 0 0 :=
  Go_wp (cuts := [(2, [1, 1, 1, 1, 1, 1, 0, 0]), (8, [1, 1, 1, 1, 1, 1, 1, 0])]) 9 2 mok244 rfl h
set_option maxRecDepth 20000 in
theorem b_X12_mendsOne_8 {d : Nat} {Q : RES} {sh : SHP} {R M : MEM} {v0 v1 v2 v3 v4 v5 v6 : Int}
    (h : (if 9 < v6 then Go d 244 Q 2 [vr v0, vi v1, vi v2, vi v3, vi v4, vi (iadd v5 1), vn, vn] [] sh R M 0 0 else ook sh 12 v0 (Cd d 243 [vr v0, vi v5] sh R M 0 0 (fun (x1 : Int) (sh1 : SHP) (R1 M1 : MEM) => (if v6 = x1 then Go d 244 Q 8 [vr v0, vi v1, vi v2, vi v3, vi v4, vi v5, vi (iadd v6 1), vn] [] sh1 R1 M1 0 0 else ook sh1 12 v0 (aok sh1 100 (R1 v0 44) v5 (ook sh1 12 v0 (aok sh1 100 (R1 v0 53) 0 ((if v4 = 0 then ook sh1 12 v0 (Cd d 242 [vr v0, vi v1, vi v2, vi v3] sh1 R1 (stm (stm M1 (R1 v0 44) v5 v6) (R1 v0 53) 0 (iadd (imul 10 v5) v6)) 0 0 (fun (x2 : Int) (sh2 : SHP) (R2 M2 : MEM) => (x2 = 0 ∨ x2 = 1) → ook sh2 12 v0 (ook sh2 12 v0 (Cd d 243 [vr v0, vi v5] sh2 R2 M2 0 0 (fun (x3 : Int) (sh3 : SHP) (R3 M3 : MEM) => aok sh3 100 (R2 v0 44) v5 ((if x2 = 0 then Go d 244 Q 8 [vr v0, vi v1, vi v2, vi v3, vi v4, vi v5, vi (iadd v6 1), vn] [] sh3 R3 (stm M3 (R2 v0 44) v5 x3) 0 0 else Q 1 sh3 R3 (stm M3 (R2 v0 44) v5 x3)))))))) else ook sh1 12 v0 (Cd d 245 [vr v0, vi v1, vi v2, vi v3, vi v5] sh1 R1 (stm (stm M1 (R1 v0 44) v5 v6) (R1 v0 53) 0 (iadd (imul 10 v5) v6)) 0 0 (fun (x4 : Int) (sh4 : SHP) (R4 M4 : MEM) => (x4 = 0 ∨ x4 = 1) → ook sh4 12 v0 (ook sh4 12 v0 (Cd d 243 [vr v0, vi v5] sh4 R4 M4 0 0 (fun (x5 : Int) (sh5 : SHP) (R5 M5 : MEM) => aok sh5 100 (R4 v0 44) v5 ((if x4 = 0 then Go d 244 Q 8 [vr v0, vi v1, vi v2, vi v3, vi v4, vi v5, vi (iadd v6 1), vn] [] sh5 R5 (stm M5 (R4 v0 44) v5 x5) 0 0 else Q 1 sh5 R5 (stm M5 (R4 v0 44) v5 x5)))))))))))))))))) :
    Go d 244 Q 8 [vr v0, vi v1, vi v2, vi v3, vi v4, vi v5, vi v6, vn] [] sh R M 0 0 :=
  Go_wp (cuts := [(2, [1, 1, 1, 1, 1, 1, 0, 0]), (8, [1, 1, 1, 1, 1, 1, 1, 0])]) 46 8 mok244 rfl h
theorem b_X12_mendsTwo_0 {d : Nat} {Q : RES} {sh : SHP} {R M : MEM} {v0 v1 v2 v3 v4 : Int}
    (h : Go d 245 Q 4 [vr v0, vi v1, vi v2, vi v3, vn, vi (iadd v4 1), vn, vn] [] sh R M 0 0) :
    Go d 245 Q 0 [vr v0, vi v1, vi v2, vi v3, vi v4, vn, vn, vn] [] sh R M 0 0 :=
  Go_wp (cuts := [(4, [1, 1, 1, 1, 0, 1, 0, 0]), (10, [1, 1, 1, 1, 0, 1, 1, 0])]) 7 0 mok245 rfl h
theorem b_X12_mendsTwo_4 {d : Nat} {Q : RES} {sh : SHP} {R M : MEM} {v0 v1 v2 v3 v5 : Int}
    (h : ook sh 12 v0 (Cd d 195 [vr v0] sh R M 0 0 (fun (x1 : Int) (sh1 : SHP) (R1 M1 : MEM) => (if v5 < x1 then Go d 245 Q 10 [vr v0, vi v1, vi v2, vi v3, vn, vi v5, vi 1, vn] [] sh1 R1 M1 0 0 else Q 0 sh1 R1 M1)))) :
    Go d 245 Q 4 [vr v0, vi v1, vi v2, vi v3, vn, vi v5, vn, vn] [] sh R M 0 0 :=
  Go_wp (cuts := [(4, [1, 1, 1, 1, 0, 1, 0, 0]), (10, [1, 1, 1, 1, 0, 1, 1, 0])]) 9 4 mok245 rfl h
set_option maxRecDepth 20000 in
theorem b_X12_mendsTwo_10 {d : Nat} {Q : RES} {sh : SHP} {R M : MEM} {v0 v1 v2 v3 v5 v6 : Int}
    (h : (if 9 < v6 then Go d 245 Q 4 [vr v0, vi v1, vi v2, vi v3, vn, vi (iadd v5 1), vn, vn] [] sh R M 0 0 else ook sh 12 v0 (Cd d 243 [vr v0, vi v5] sh R M 0 0 (fun (x1 : Int) (sh1 : SHP) (R1 M1 : MEM) => (if v6 = x1 then Go d 245 Q 10 [vr v0, vi v1, vi v2, vi v3, vn, vi v5, vi (iadd v6 1), vn] [] sh1 R1 M1 0 0 else ook sh1 12 v0 (aok sh1 100 (R1 v0 44) v5 (ook sh1 12 v0 (aok sh1 100 (R1 v0 53) 1 (ook sh1 12 v0 (Cd d 242 [vr v0, vi v1, vi v2, vi v3] sh1 R1 (stm (stm M1 (R1 v0 44) v5 v6) (R1 v0 53) 1 (iadd (imul 10 v5) v6)) 0 0 (fun (x2 : Int) (sh2 : SHP) (R2 M2 : MEM) => (x2 = 0 ∨ x2 = 1) → ook sh2 12 v0 (ook sh2 12 v0 (Cd d 243 [vr v0, vi v5] sh2 R2 M2 0 0 (fun (x3 : Int) (sh3 : SHP) (R3 M3 : MEM) => aok sh3 100 (R2 v0 44) v5 ((if x2 = 0 then Go d 245 Q 10 [vr v0, vi v1, vi v2, vi v3, vn, vi v5, vi (iadd v6 1), vn] [] sh3 R3 (stm M3 (R2 v0 44) v5 x3) 0 0 else Q 1 sh3 R3 (stm M3 (R2 v0 44) v5 x3))))))))))))))))) :
    Go d 245 Q 10 [vr v0, vi v1, vi v2, vi v3, vn, vi v5, vi v6, vn] [] sh R M 0 0 :=
  Go_wp (cuts := [(4, [1, 1, 1, 1, 0, 1, 0, 0]), (10, [1, 1, 1, 1, 0, 1, 1, 0])]) 42 10 mok245 rfl h
set_option maxRecDepth 20000 in
theorem b_X12_mend_0 {d : Nat} {Q : RES} {sh : SHP} {R M : MEM} {v0 v1 v2 v3 : Int}
    (h : ook sh 12 v0 (ook sh 12 v0 (Cd d 238 [vr v0, vi v1, vi v2, vi v3] sh R (stm M v0 55 0) 0 0 (fun (x1 : Int) (sh1 : SHP) (R1 M1 : MEM) => (x1 = 0 ∨ x1 = 1) → (if x1 = 0 then Q (-1) sh1 R1 M1 else ook sh1 12 v0 (Cd d 234 [vr v0, vi v2] sh1 R1 M1 0 0 (fun (x2 : Int) (sh2 : SHP) (R2 M2 : MEM) => (if 16 < x2 then Q (-2) sh2 R2 M2 else ook sh2 12 v0 (Cd d 204 [vr v0] sh2 R2 M2 0 0 (fun (_ : Int) (sh3 : SHP) (R3 M3 : MEM) => ook sh3 12 v0 (Cd d 232 [vr v0] sh3 R3 M3 0 0 (fun (_ : Int) (sh4 : SHP) (R4 M4 : MEM) => ook sh4 12 v0 (Cd d 242 [vr v0, vi v1, vi v2, vi v3] sh4 R4 M4 0 0 (fun (x5 : Int) (sh5 : SHP) (R5 M5 : MEM) => (x5 = 0 ∨ x5 = 1) → (if x5 = 0 then ook sh5 12 v0 (Cd d 244 [vr v0, vi v1, vi v2, vi v3, vi 0] sh5 R5 M5 0 0 (fun (x6 : Int) (sh6 : SHP) (R6 M6 : MEM) => (x6 = 0 ∨ x6 = 1) → (if x6 = 0 then ook sh6 12 v0 (Cd d 244 [vr v0, vi v1, vi v2, vi v3, vi 1] sh6 R6 M6 0 0 (fun (x7 : Int) (sh7 : SHP) (R7 M7 : MEM) => (x7 = 0 ∨ x7 = 1) → (if x7 = 0 then ook sh7 12 v0 (Cd d 233 [vr v0] sh7 R7 M7 0 0 (fun (_ : Int) (sh8 : SHP) (R8 M8 : MEM) => ook sh8 12 v0 (Cd d 205 [vr v0] sh8 R8 M8 0 0 (fun (_ : Int) (sh9 : SHP) (R9 M9 : MEM) => ook sh9 12 v0 (Q (-1) sh9 R9 (stm M9 v0 55 0)))))) else ook sh7 12 v0 (Cd d 233 [vr v0] sh7 R7 M7 0 0 (fun (_ : Int) (sh10 : SHP) (R10 M10 : MEM) => ook sh10 12 v0 (Cd d 205 [vr v0] sh10 R10 M10 0 0 (fun (_ : Int) (sh11 : SHP) (R11 M11 : MEM) => ook sh11 12 v0 (Q 2 sh11 R11 (stm M11 v0 55 2))))))))) else ook sh6 12 v0 (Cd d 233 [vr v0] sh6 R6 M6 0 0 (fun (_ : Int) (sh12 : SHP) (R12 M12 : MEM) => ook sh12 12 v0 (Cd d 205 [vr v0] sh12 R12 M12 0 0 (fun (_ : Int) (sh13 : SHP) (R13 M13 : MEM) => ook sh13 12 v0 (Q 1 sh13 R13 (stm M13 v0 55 1))))))))) else ook sh5 12 v0 (Cd d 233 [vr v0] sh5 R5 M5 0 0 (fun (_ : Int) (sh14 : SHP) (R14 M14 : MEM) => ook sh14 12 v0 (Cd d 205 [vr v0] sh14 R14 M14 0 0 (fun (_ : Int) (sh15 : SHP) (R15 M15 : MEM) => ook sh15 12 v0 (Q 0 sh15 R15 (stm M15 v0 55 0))))))))))))))))))))) :
    Go d 246 Q 0 [vr v0, vi v1, vi v2, vi v3, vn] [] sh R M 0 0 :=
  Go_wp (cuts := []) 54 0 mok246 rfl h
set_option maxRecDepth 20000 in
theorem b_X12_lossOf_0 {d : Nat} {Q : RES} {sh : SHP} {R M : MEM} {v0 v1 v2 v3 v4 v5 : Int}
    (h : ook sh 12 v0 (ook sh 12 v0 (ook sh 12 v0 (ook sh 12 v0 (Cd d 227 [vr v0, vi v3, vi v4] sh R (stm (stm (stm M v0 47 v1) v0 48 v2) v0 49 0) 0 0 (fun (x1 : Int) (sh1 : SHP) (R1 M1 : MEM) => ook sh1 12 v0 (Q (isub v5 x1) sh1 R1 (stm M1 v0 47 (-1))))))))) :
    Go d 247 Q 0 [vr v0, vi v1, vi v2, vi v3, vi v4, vi v5, vn] [] sh R M 0 0 :=
  Go_wp (cuts := []) 23 0 mok247 rfl h
set_option maxRecDepth 20000 in
theorem b_X12_loss_0 {d : Nat} {Q : RES} {sh : SHP} {R M : MEM} {v0 v1 v2 v3 v4 : Int}
    (h : ook sh 12 v0 (Cd d 199 [vr v0, vi v1] sh R M 0 0 (fun (x1 : Int) (sh1 : SHP) (R1 M1 : MEM) => (x1 = 0 ∨ x1 = 1) → (if x1 = 0 then Q (-1) sh1 R1 M1 else ook sh1 12 v0 (Cd d 200 [vr v0, vi v3] sh1 R1 M1 0 0 (fun (x2 : Int) (sh2 : SHP) (R2 M2 : MEM) => (x2 = 0 ∨ x2 = 1) → (if x2 = 0 then Q (-1) sh2 R2 M2 else Cd d 228 [vi v4] sh2 R2 M2 0 0 (fun (x3 : Int) (sh3 : SHP) (R3 M3 : MEM) => (x3 = 0 ∨ x3 = 1) → (if x3 = 0 then Q (-1) sh3 R3 M3 else Cd d 193 [vi v2, vi 1, vi v4] sh3 R3 M3 0 0 (fun (x4 : Int) (sh4 : SHP) (R4 M4 : MEM) => (x4 = 0 ∨ x4 = 1) → (if x4 = 0 then Q (-1) sh4 R4 M4 else ook sh4 12 v0 (Cd d 204 [vr v0] sh4 R4 M4 0 0 (fun (_ : Int) (sh5 : SHP) (R5 M5 : MEM) => ook sh5 12 v0 (Cd d 227 [vr v0, vi v3, vi v4] sh5 R5 M5 0 0 (fun (x6 : Int) (sh6 : SHP) (R6 M6 : MEM) => ook sh6 12 v0 (Cd d 247 [vr v0, vi v1, vi v2, vi v3, vi v4, vi x6] sh6 R6 M6 0 0 (fun (x7 : Int) (sh7 : SHP) (R7 M7 : MEM) => ook sh7 12 v0 (Cd d 205 [vr v0] sh7 R7 M7 0 0 (fun (_ : Int) (sh8 : SHP) (R8 M8 : MEM) => Q x7 sh8 R8 M8))))))))))))))))))) :
    Go d 248 Q 0 [vr v0, vi v1, vi v2, vi v3, vi v4, vn] [] sh R M 0 0 :=
  Go_wp (cuts := []) 35 0 mok248 rfl h
set_option maxRecDepth 20000 in
theorem b_X12_blind_0 {d : Nat} {Q : RES} {sh : SHP} {R M : MEM} {v0 v1 v2 : Int}
    (h : ook sh 12 v0 (Cd d 200 [vr v0, vi v1] sh R M 0 0 (fun (x1 : Int) (sh1 : SHP) (R1 M1 : MEM) => (x1 = 0 ∨ x1 = 1) → (if x1 = 0 then Q (-1) sh1 R1 M1 else Cd d 228 [vi v2] sh1 R1 M1 0 0 (fun (x2 : Int) (sh2 : SHP) (R2 M2 : MEM) => (x2 = 0 ∨ x2 = 1) → (if x2 = 0 then Q (-1) sh2 R2 M2 else ook sh2 12 v0 (Cd d 204 [vr v0] sh2 R2 M2 0 0 (fun (_ : Int) (sh3 : SHP) (R3 M3 : MEM) => ook sh3 12 v0 (Cd d 227 [vr v0, vi v1, vi v2] sh3 R3 M3 0 0 (fun (x4 : Int) (sh4 : SHP) (R4 M4 : MEM) => Go d 249 Q 20 [vr v0, vi v1, vi v2, vi x4, vi 0, vi 0, vn] [] sh4 R4 M4 0 0)))))))))) :
    Go d 249 Q 0 [vr v0, vi v1, vi v2, vn, vn, vn, vn] [] sh R M 0 0 :=
  Go_wp (cuts := [(20, [1, 1, 1, 1, 1, 1, 0]), (26, [1, 1, 1, 1, 1, 1, 1])]) 21 0 mok249 rfl h
theorem b_X12_blind_20 {d : Nat} {Q : RES} {sh : SHP} {R M : MEM} {v0 v1 v2 v3 v4 v5 : Int}
    (h : ook sh 12 v0 (Cd d 195 [vr v0] sh R M 0 0 (fun (x1 : Int) (sh1 : SHP) (R1 M1 : MEM) => (if v5 < x1 then Go d 249 Q 26 [vr v0, vi v1, vi v2, vi v3, vi v4, vi v5, vi 1] [] sh1 R1 M1 0 0 else ook sh1 12 v0 (Cd d 205 [vr v0] sh1 R1 M1 0 0 (fun (_ : Int) (sh2 : SHP) (R2 M2 : MEM) => Q v4 sh2 R2 M2)))))) :
    Go d 249 Q 20 [vr v0, vi v1, vi v2, vi v3, vi v4, vi v5, vn] [] sh R M 0 0 :=
  Go_wp (cuts := [(20, [1, 1, 1, 1, 1, 1, 0]), (26, [1, 1, 1, 1, 1, 1, 1])]) 10 20 mok249 rfl h
set_option maxRecDepth 20000 in
theorem b_X12_blind_26 {d : Nat} {Q : RES} {sh : SHP} {R M : MEM} {v0 v1 v2 v3 v4 v5 v6 : Int}
    (h : (if v2 < v6 then Go d 249 Q 20 [vr v0, vi v1, vi v2, vi v3, vi v4, vi (iadd v5 1), vn] [] sh R M 0 0 else ook sh 12 v0 (Cd d 247 [vr v0, vi v5, vi v6, vi v1, vi v2, vi v3] sh R M 0 0 (fun (x1 : Int) (sh1 : SHP) (R1 M1 : MEM) => (if x1 = 0 then ook sh1 12 v0 ((if (M1 v0 49) = 0 then Go d 249 Q 26 [vr v0, vi v1, vi v2, vi v3, vi v4, vi v5, vi (iadd v6 1)] [] sh1 R1 M1 0 0 else Go d 249 Q 26 [vr v0, vi v1, vi v2, vi v3, vi (iadd v4 1), vi v5, vi (iadd v6 1)] [] sh1 R1 M1 0 0)) else Go d 249 Q 26 [vr v0, vi v1, vi v2, vi v3, vi v4, vi v5, vi (iadd v6 1)] [] sh1 R1 M1 0 0))))) :
    Go d 249 Q 26 [vr v0, vi v1, vi v2, vi v3, vi v4, vi v5, vi v6] [] sh R M 0 0 :=
  Go_wp (cuts := [(20, [1, 1, 1, 1, 1, 1, 0]), (26, [1, 1, 1, 1, 1, 1, 1])]) 20 26 mok249 rfl h
set_option maxRecDepth 20000 in
theorem b_X12_adds_0 {d : Nat} {Q : RES} {sh : SHP} {R M : MEM} {v0 v1 v2 v3 v4 v5 : Int}
    (h : ook sh 12 v0 (Cd d 196 [vr v0] sh R M 0 0 (fun (x1 : Int) (sh1 : SHP) (R1 M1 : MEM) => Cd d 193 [vi v1, vi 0, vi (isub x1 1)] sh1 R1 M1 0 0 (fun (x2 : Int) (sh2 : SHP) (R2 M2 : MEM) => (x2 = 0 ∨ x2 = 1) → (if x2 = 0 then Q (-1) sh2 R2 M2 else ook sh2 12 v0 (Cd d 200 [vr v0, vi v2] sh2 R2 M2 0 0 (fun (x3 : Int) (sh3 : SHP) (R3 M3 : MEM) => (x3 = 0 ∨ x3 = 1) → (if x3 = 0 then Q (-1) sh3 R3 M3 else Cd d 193 [vi v3, vi 0, vi 40] sh3 R3 M3 0 0 (fun (x4 : Int) (sh4 : SHP) (R4 M4 : MEM) => (x4 = 0 ∨ x4 = 1) → (if x4 = 0 then Q (-1) sh4 R4 M4 else Cd d 228 [vi v4] sh4 R4 M4 0 0 (fun (x5 : Int) (sh5 : SHP) (R5 M5 : MEM) => (x5 = 0 ∨ x5 = 1) → (if x5 = 0 then Q (-1) sh5 R5 M5 else Cd d 193 [vi v5, vi 0, vi 2] sh5 R5 M5 0 0 (fun (x6 : Int) (sh6 : SHP) (R6 M6 : MEM) => (x6 = 0 ∨ x6 = 1) → (if x6 = 0 then Q (-1) sh6 R6 M6 else ook sh6 12 v0 (Cd d 204 [vr v0] sh6 R6 M6 0 0 (fun (_ : Int) (sh7 : SHP) (R7 M7 : MEM) => ook sh7 12 v0 (Cd d 232 [vr v0] sh7 R7 M7 0 0 (fun (_ : Int) (sh8 : SHP) (R8 M8 : MEM) => Go d 250 Q 33 [vr v0, vi v1, vi v2, vi v3, vi v4, vi v5, vi 0, vn, vn, vn, vn] [] sh8 R8 M8 0 0)))))))))))))))))) :
    Go d 250 Q 0 [vr v0, vi v1, vi v2, vi v3, vi v4, vi v5, vn, vn, vn, vn, vn] [] sh R M 0 0 :=
  Go_wp (cuts := [(33, [1, 1, 1, 1, 1, 1, 1, 0, 0, 0, 0]), (45, [1, 1, 1, 1, 1, 1, 1, 0, 0, 0, 0]), (75, [1, 0, 0, 1, 0, 1, 1, 1, 1, 1, 0]), (80, [1, 0, 0, 1, 0, 1, 1, 1, 1, 1, 1])]) 34 0 mok250 rfl h
theorem b_X12_adds_33 {d : Nat} {Q : RES} {sh : SHP} {R M : MEM} {v0 v1 v2 v3 v4 v5 v6 : Int}
    (h : (if v6 < 3 then ook sh 12 v0 (aok sh 100 (R v0 46) v6 (Go d 250 Q 33 [vr v0, vi v1, vi v2, vi v3, vi v4, vi v5, vi (iadd v6 1), vn, vn, vn, vn] [] sh R (stm M (R v0 46) v6 0) 0 0)) else Go d 250 Q 45 [vr v0, vi v1, vi v2, vi v3, vi v4, vi v5, vi 0, vn, vn, vn, vn] [] sh R M 0 0)) :
    Go d 250 Q 33 [vr v0, vi v1, vi v2, vi v3, vi v4, vi v5, vi v6, vn, vn, vn, vn] [] sh R M 0 0 :=
  Go_wp (cuts := [(33, [1, 1, 1, 1, 1, 1, 1, 0, 0, 0, 0]), (45, [1, 1, 1, 1, 1, 1, 1, 0, 0, 0, 0]), (75, [1, 0, 0, 1, 0, 1, 1, 1, 1, 1, 0]), (80, [1, 0, 0, 1, 0, 1, 1, 1, 1, 1, 1])]) 13 33 mok250 rfl h
set_option maxRecDepth 20000 in
theorem b_X12_adds_45 {d : Nat} {Q : RES} {sh : SHP} {R M : MEM} {v0 v1 v2 v3 v4 v5 v6 : Int}
    (h : (if v3 < v6 then ook sh 12 v0 (Cd d 233 [vr v0] sh R M 0 0 (fun (_ : Int) (sh1 : SHP) (R1 M1 : MEM) => ook sh1 12 v0 (Cd d 205 [vr v0] sh1 R1 M1 0 0 (fun (_ : Int) (sh2 : SHP) (R2 M2 : MEM) => Go d 250 Q 75 [vr v0, vn, vn, vi v3, vn, vi v5, vi 0, vi (-1), vi (-1), vi 1, vn] [] sh2 R2 M2 0 0)))) else ook sh 12 v0 (aok sh 100 (R v0 46) v1 (ook sh 12 v0 (ook sh 12 v0 (Cd d 227 [vr v0, vi v2, vi v4] sh R (stm M (R v0 46) v1 v6) 0 0 (fun (x3 : Int) (sh3 : SHP) (R3 M3 : MEM) => aok sh3 100 (R v0 56) v6 (Go d 250 Q 45 [vr v0, vi v1, vi v2, vi v3, vi v4, vi v5, vi (iadd v6 1), vn, vn, vn, vn] [] sh3 R3 (stm M3 (R v0 56) v6 x3) 0 0)))))))) :
    Go d 250 Q 45 [vr v0, vi v1, vi v2, vi v3, vi v4, vi v5, vi v6, vn, vn, vn, vn] [] sh R M 0 0 :=
  Go_wp (cuts := [(33, [1, 1, 1, 1, 1, 1, 1, 0, 0, 0, 0]), (45, [1, 1, 1, 1, 1, 1, 1, 0, 0, 0, 0]), (75, [1, 0, 0, 1, 0, 1, 1, 1, 1, 1, 0]), (80, [1, 0, 0, 1, 0, 1, 1, 1, 1, 1, 1])]) 21 45 mok250 rfl h
theorem b_X12_adds_75 {d : Nat} {Q : RES} {sh : SHP} {R M : MEM} {v0 v3 v5 v6 v7 v8 v9 : Int}
    (h : (if v3 < v9 then (if v5 = 0 then Q v6 sh R M else (if v5 = 1 then Q v7 sh R M else Q v8 sh R M)) else Go d 250 Q 80 [vr v0, vn, vn, vi v3, vn, vi v5, vi v6, vi v7, vi v8, vi v9, vi v9] [] sh R M 0 0)) :
    Go d 250 Q 75 [vr v0, vn, vn, vi v3, vn, vi v5, vi v6, vi v7, vi v8, vi v9, vn] [] sh R M 0 0 :=
  Go_wp (cuts := [(33, [1, 1, 1, 1, 1, 1, 1, 0, 0, 0, 0]), (45, [1, 1, 1, 1, 1, 1, 1, 0, 0, 0, 0]), (75, [1, 0, 0, 1, 0, 1, 1, 1, 1, 1, 0]), (80, [1, 0, 0, 1, 0, 1, 1, 1, 1, 1, 1])]) 13 75 mok250 rfl h
set_option maxRecDepth 20000 in
theorem b_X12_adds_80 {d : Nat} {Q : RES} {sh : SHP} {R M : MEM} {v0 v3 v5 v6 v7 v8 v9 v10 : Int}
    (h : (if v3 < (iadd v9 v10) then Go d 250 Q 75 [vr v0, vn, vn, vi v3, vn, vi v5, vi v6, vi v7, vi v8, vi (iadd v9 1), vn] [] sh R M 0 0 else ook sh 12 v0 (aok sh 100 (R v0 56) (iadd v9 v10) (ook sh 12 v0 (aok sh 100 (R v0 56) v9 (ook sh 12 v0 (aok sh 100 (R v0 56) v10 ((if (M (R v0 56) (iadd v9 v10)) = (iadd (M (R v0 56) v9) (M (R v0 56) v10)) then Go d 250 Q 80 [vr v0, vn, vn, vi v3, vn, vi v5, vi v6, vi v7, vi v8, vi v9, vi (iadd v10 1)] [] sh R M 0 0 else (if v6 = 0 then Go d 250 Q 80 [vr v0, vn, vn, vi v3, vn, vi v5, vi (iadd v6 1), vi v9, vi v10, vi v9, vi (iadd v10 1)] [] sh R M 0 0 else Go d 250 Q 80 [vr v0, vn, vn, vi v3, vn, vi v5, vi (iadd v6 1), vi v7, vi v8, vi v9, vi (iadd v10 1)] [] sh R M 0 0)))))))))) :
    Go d 250 Q 80 [vr v0, vn, vn, vi v3, vn, vi v5, vi v6, vi v7, vi v8, vi v9, vi v10] [] sh R M 0 0 :=
  Go_wp (cuts := [(33, [1, 1, 1, 1, 1, 1, 1, 0, 0, 0, 0]), (45, [1, 1, 1, 1, 1, 1, 1, 0, 0, 0, 0]), (75, [1, 0, 0, 1, 0, 1, 1, 1, 1, 1, 0]), (80, [1, 0, 0, 1, 0, 1, 1, 1, 1, 1, 1])]) 33 80 mok250 rfl h
theorem b_X12_layPaths_0 {d : Nat} {Q : RES} {sh : SHP} {R M : MEM} {v0 v1 : Int}
    (h : Go d 251 Q 2 [vr v0, vi v1, vi 0, vn, vn, vn, vn, vn] [] sh R M 0 0) :
    Go d 251 Q 0 [vr v0, vi v1, vn, vn, vn, vn, vn, vn] [] sh R M 0 0 :=
  Go_wp (cuts := [(2, [1, 1, 1, 0, 0, 0, 0, 0]), (19, [1, 0, 1, 0, 0, 0, 0, 0]), (24, [1, 0, 1, 1, 0, 0, 0, 0])]) 5 0 mok251 rfl h
theorem b_X12_layPaths_2 {d : Nat} {Q : RES} {sh : SHP} {R M : MEM} {v0 v1 v2 : Int}
    (h : (if v2 < 610 then ook sh 12 v0 (aok sh 100 (R v0 57) v2 (Go d 251 Q 2 [vr v0, vi v1, vi (iadd v2 1), vn, vn, vn, vn, vn] [] sh R (stm M (R v0 57) v2 0) 0 0)) else ook sh 12 v0 (aok sh 100 (R v0 57) v1 (Go d 251 Q 19 [vr v0, vn, vi 1, vn, vn, vn, vn, vn] [] sh R (stm M (R v0 57) v1 1) 0 0)))) :
    Go d 251 Q 2 [vr v0, vi v1, vi v2, vn, vn, vn, vn, vn] [] sh R M 0 0 :=
  Go_wp (cuts := [(2, [1, 1, 1, 0, 0, 0, 0, 0]), (19, [1, 0, 1, 0, 0, 0, 0, 0]), (24, [1, 0, 1, 1, 0, 0, 0, 0])]) 13 2 mok251 rfl h
theorem b_X12_layPaths_19 {d : Nat} {Q : RES} {sh : SHP} {R M : MEM} {v0 v2 : Int}
    (h : (if 60 < v2 then Q 0 sh R M else Go d 251 Q 24 [vr v0, vn, vi v2, vi 0, vn, vn, vn, vn] [] sh R M 0 0)) :
    Go d 251 Q 19 [vr v0, vn, vi v2, vn, vn, vn, vn, vn] [] sh R M 0 0 :=
  Go_wp (cuts := [(2, [1, 1, 1, 0, 0, 0, 0, 0]), (19, [1, 0, 1, 0, 0, 0, 0, 0]), (24, [1, 0, 1, 1, 0, 0, 0, 0])]) 8 19 mok251 rfl h
set_option maxRecDepth 20000 in
theorem b_X12_layPaths_24 {d : Nat} {Q : RES} {sh : SHP} {R M : MEM} {v0 v2 v3 : Int}
    (h : ook sh 12 v0 (Cd d 195 [vr v0] sh R M 0 0 (fun (x1 : Int) (sh1 : SHP) (R1 M1 : MEM) => (if v3 < x1 then ook sh1 12 v0 (Cd d 243 [vr v0, vi v3] sh1 R1 M1 0 0 (fun (x2 : Int) (sh2 : SHP) (R2 M2 : MEM) => (if (isub v2 x2) < 0 then Go d 251 Q 24 [vr v0, vn, vi v2, vi (iadd v3 1), vn, vn, vn, vn] [] sh2 R2 M2 0 0 else ook sh2 12 v0 (ook sh2 12 v0 (aok sh2 100 (R2 v0 21) (iadd (imul 16 (M2 v0 36)) v3) (ook sh2 12 v0 (aok sh2 100 (R2 v0 57) (iadd (imul 10 v2) (M2 (R2 v0 21) (iadd (imul 16 (M2 v0 36)) v3))) (ook sh2 12 v0 (ook sh2 12 v0 (ook sh2 12 v0 (aok sh2 100 (R2 v0 20) (iadd (imul 16 (M2 v0 36)) v3) (aok sh2 100 (R2 v0 57) (iadd (imul 10 (isub v2 x2)) (M2 (R2 v0 20) (iadd (imul 16 (M2 v0 36)) v3))) (ook sh2 12 v0 ((if 0 < (lcmp (ladd (M2 (R2 v0 57) (iadd (imul 10 v2) (M2 (R2 v0 21) (iadd (imul 16 (M2 v0 36)) v3)))) (M2 (R2 v0 57) (iadd (imul 10 (isub v2 x2)) (M2 (R2 v0 20) (iadd (imul 16 (M2 v0 36)) v3))))) 1000000000) then aok sh2 100 (R2 v0 57) (iadd (imul 10 v2) (M2 (R2 v0 21) (iadd (imul 16 (M2 v0 36)) v3))) (Go d 251 Q 24 [vr v0, vn, vi v2, vi (iadd v3 1), vn, vn, vn, vn] [] sh2 R2 (stm M2 (R2 v0 57) (iadd (imul 10 v2) (M2 (R2 v0 21) (iadd (imul 16 (M2 v0 36)) v3))) 1000000000) 0 0) else aok sh2 100 (R2 v0 57) (iadd (imul 10 v2) (M2 (R2 v0 21) (iadd (imul 16 (M2 v0 36)) v3))) (Go d 251 Q 24 [vr v0, vn, vi v2, vi (iadd v3 1), vn, vn, vn, vn] [] sh2 R2 (stm M2 (R2 v0 57) (iadd (imul 10 v2) (M2 (R2 v0 21) (iadd (imul 16 (M2 v0 36)) v3))) (w32 (ladd (M2 (R2 v0 57) (iadd (imul 10 v2) (M2 (R2 v0 21) (iadd (imul 16 (M2 v0 36)) v3)))) (M2 (R2 v0 57) (iadd (imul 10 (isub v2 x2)) (M2 (R2 v0 20) (iadd (imul 16 (M2 v0 36)) v3))))))) 0 0)))))))))))))))) else Go d 251 Q 19 [vr v0, vn, vi (iadd v2 1), vn, vn, vn, vn, vn] [] sh1 R1 M1 0 0)))) :
    Go d 251 Q 24 [vr v0, vn, vi v2, vi v3, vn, vn, vn, vn] [] sh R M 0 0 :=
  Go_wp (cuts := [(2, [1, 1, 1, 0, 0, 0, 0, 0]), (19, [1, 0, 1, 0, 0, 0, 0, 0]), (24, [1, 0, 1, 1, 0, 0, 0, 0])]) 65 24 mok251 rfl h
set_option maxRecDepth 20000 in
theorem b_X12_paths_0 {d : Nat} {Q : RES} {sh : SHP} {R M : MEM} {v0 v1 v2 v3 : Int}
    (h : ook sh 12 v0 (Cd d 198 [vr v0, vi v1] sh R M 0 0 (fun (x1 : Int) (sh1 : SHP) (R1 M1 : MEM) => (x1 = 0 ∨ x1 = 1) → (if x1 = 0 then Q (-1) sh1 R1 M1 else ook sh1 12 v0 (Cd d 198 [vr v0, vi v2] sh1 R1 M1 0 0 (fun (x2 : Int) (sh2 : SHP) (R2 M2 : MEM) => (x2 = 0 ∨ x2 = 1) → (if x2 = 0 then Q (-1) sh2 R2 M2 else Cd d 193 [vi v3, vi 0, vi 60] sh2 R2 M2 0 0 (fun (x3 : Int) (sh3 : SHP) (R3 M3 : MEM) => (x3 = 0 ∨ x3 = 1) → (if x3 = 0 then Q (-1) sh3 R3 M3 else ook sh3 12 v0 (Cd d 251 [vr v0, vi v1] sh3 R3 M3 0 0 (fun (_ : Int) (sh4 : SHP) (R4 M4 : MEM) => ook sh4 12 v0 (aok sh4 100 (R4 v0 57) (iadd (imul 10 v3) v2) (Q (M4 (R4 v0 57) (iadd (imul 10 v3) v2)) sh4 R4 M4))))))))))))) :
    Go d 252 Q 0 [vr v0, vi v1, vi v2, vi v3] [] sh R M 0 0 :=
  Go_wp (cuts := []) 27 0 mok252 rfl h
set_option maxRecDepth 20000 in
theorem b_X12_meet_0 {d : Nat} {Q : RES} {sh : SHP} {R M : MEM} {v0 v1 v2 v3 : Int}
    (h : ook sh 12 v0 (Cd d 198 [vr v0, vi v1] sh R M 0 0 (fun (x1 : Int) (sh1 : SHP) (R1 M1 : MEM) => (x1 = 0 ∨ x1 = 1) → (if x1 = 0 then Q (-1) sh1 R1 M1 else ook sh1 12 v0 (Cd d 198 [vr v0, vi v2] sh1 R1 M1 0 0 (fun (x2 : Int) (sh2 : SHP) (R2 M2 : MEM) => (x2 = 0 ∨ x2 = 1) → (if x2 = 0 then Q (-1) sh2 R2 M2 else ook sh2 12 v0 (Cd d 198 [vr v0, vi v3] sh2 R2 M2 0 0 (fun (x3 : Int) (sh3 : SHP) (R3 M3 : MEM) => (x3 = 0 ∨ x3 = 1) → (if x3 = 0 then Q (-1) sh3 R3 M3 else ook sh3 12 v0 (Cd d 251 [vr v0, vi v1] sh3 R3 M3 0 0 (fun (_ : Int) (sh4 : SHP) (R4 M4 : MEM) => Go d 253 Q 19 [vr v0, vn, vi v2, vi v3, vi 0] [] sh4 R4 M4 0 0)))))))))))) :
    Go d 253 Q 0 [vr v0, vi v1, vi v2, vi v3, vn] [] sh R M 0 0 :=
  Go_wp (cuts := [(19, [1, 0, 1, 1, 1]), (45, [1, 0, 0, 1, 1])]) 20 0 mok253 rfl h
set_option maxRecDepth 20000 in
theorem b_X12_meet_19 {d : Nat} {Q : RES} {sh : SHP} {R M : MEM} {v0 v2 v3 v4 : Int}
    (h : (if 60 < v4 then ook sh 12 v0 (Cd d 251 [vr v0, vi v2] sh R M 0 0 (fun (_ : Int) (sh1 : SHP) (R1 M1 : MEM) => Go d 253 Q 45 [vr v0, vn, vn, vi v3, vi 0] [] sh1 R1 M1 0 0)) else ook sh 12 v0 (ook sh 12 v0 (aok sh 100 (R v0 57) (iadd (imul 10 v4) v3) ((if 0 < (M (R v0 57) (iadd (imul 10 v4) v3)) then aok sh 103 (R v0 58) v4 (Go d 253 Q 19 [vr v0, vn, vi v2, vi v3, vi (iadd v4 1)] [] sh R (stm M (R v0 58) v4 1) 0 0) else aok sh 103 (R v0 58) v4 (Go d 253 Q 19 [vr v0, vn, vi v2, vi v3, vi (iadd v4 1)] [] sh R (stm M (R v0 58) v4 0) 0 0))))))) :
    Go d 253 Q 19 [vr v0, vn, vi v2, vi v3, vi v4] [] sh R M 0 0 :=
  Go_wp (cuts := [(19, [1, 0, 1, 1, 1]), (45, [1, 0, 0, 1, 1])]) 23 19 mok253 rfl h
set_option maxRecDepth 20000 in
theorem b_X12_meet_45 {d : Nat} {Q : RES} {sh : SHP} {R M : MEM} {v0 v3 v4 : Int}
    (h : (if 60 < v4 then Q (-1) sh R M else ook sh 12 v0 (aok sh 103 (R v0 58) v4 ((if (M (R v0 58) v4) = 0 then Go d 253 Q 45 [vr v0, vn, vn, vi v3, vi (iadd v4 1)] [] sh R M 0 0 else ook sh 12 v0 (aok sh 100 (R v0 57) (iadd (imul 10 v4) v3) ((if 0 < (M (R v0 57) (iadd (imul 10 v4) v3)) then Q v4 sh R M else Go d 253 Q 45 [vr v0, vn, vn, vi v3, vi (iadd v4 1)] [] sh R M 0 0)))))))) :
    Go d 253 Q 45 [vr v0, vn, vn, vi v3, vi v4] [] sh R M 0 0 :=
  Go_wp (cuts := [(19, [1, 0, 1, 1, 1]), (45, [1, 0, 0, 1, 1])]) 22 45 mok253 rfl h
set_option maxRecDepth 20000 in
theorem b_X12_spread_0 {d : Nat} {Q : RES} {sh : SHP} {R M : MEM} {v0 v1 v2 : Int}
    (h : ook sh 12 v0 (Cd d 198 [vr v0, vi v1] sh R M 0 0 (fun (x1 : Int) (sh1 : SHP) (R1 M1 : MEM) => (x1 = 0 ∨ x1 = 1) → (if x1 = 0 then Q (-1) sh1 R1 M1 else ook sh1 12 v0 (Cd d 198 [vr v0, vi v2] sh1 R1 M1 0 0 (fun (x2 : Int) (sh2 : SHP) (R2 M2 : MEM) => (x2 = 0 ∨ x2 = 1) → (if x2 = 0 then Q (-1) sh2 R2 M2 else ook sh2 12 v0 (Cd d 251 [vr v0, vi v1] sh2 R2 M2 0 0 (fun (_ : Int) (sh3 : SHP) (R3 M3 : MEM) => Go d 254 Q 17 [vr v0, vn, vi v2, vi 0, vi 0] [] sh3 R3 M3 0 0))))))))) :
    Go d 254 Q 0 [vr v0, vi v1, vi v2, vn, vn] [] sh R M 0 0 :=
  Go_wp (cuts := [(17, [1, 0, 1, 1, 1])]) 18 0 mok254 rfl h
set_option maxRecDepth 20000 in
theorem b_X12_spread_17 {d : Nat} {Q : RES} {sh : SHP} {R M : MEM} {v0 v2 v3 v4 : Int}
    (h : (if 60 < v4 then Q v3 sh R M else ook sh 12 v0 (aok sh 100 (R v0 57) (iadd (imul 10 v4) v2) ((if 0 < (M (R v0 57) (iadd (imul 10 v4) v2)) then Go d 254 Q 17 [vr v0, vn, vi v2, vi (iadd v3 1), vi (iadd v4 1)] [] sh R M 0 0 else Go d 254 Q 17 [vr v0, vn, vi v2, vi (iadd v3 0), vi (iadd v4 1)] [] sh R M 0 0))))) :
    Go d 254 Q 17 [vr v0, vn, vi v2, vi v3, vi v4] [] sh R M 0 0 :=
  Go_wp (cuts := [(17, [1, 0, 1, 1, 1])]) 22 17 mok254 rfl h
theorem b_X12_wider_0 {d : Nat} {Q : RES} {sh : SHP} {R M : MEM} {v0 v1 : Int}
    (h : Go d 255 Q 4 [vr v0, vi v1, vi v1, vi 0] [] sh R M 0 0) :
    Go d 255 Q 0 [vr v0, vi v1, vn, vn] [] sh R M 0 0 :=
  Go_wp (cuts := [(4, [1, 1, 1, 1])]) 7 0 mok255 rfl h
set_option maxRecDepth 20000 in
theorem b_X12_wider_4 {d : Nat} {Q : RES} {sh : SHP} {R M : MEM} {v0 v1 v2 v3 : Int}
    (h : ook sh 12 v0 (Cd d 195 [vr v0] sh R M 0 0 (fun (x1 : Int) (sh1 : SHP) (R1 M1 : MEM) => (if v3 < x1 then ook sh1 12 v0 (ook sh1 12 v0 (aok sh1 100 (R1 v0 20) (iadd (imul 16 (M1 v0 36)) v3) ((if (iand (ishr v1 (M1 (R1 v0 20) (iadd (imul 16 (M1 v0 36)) v3))) 1) = 1 then ook sh1 12 v0 (ook sh1 12 v0 (aok sh1 100 (R1 v0 21) (iadd (imul 16 (M1 v0 36)) v3) (Go d 255 Q 4 [vr v0, vi v1, vi (ior v2 (ishl 1 (M1 (R1 v0 21) (iadd (imul 16 (M1 v0 36)) v3)))), vi (iadd v3 1)] [] sh1 R1 M1 0 0))) else Go d 255 Q 4 [vr v0, vi v1, vi v2, vi (iadd v3 1)] [] sh1 R1 M1 0 0)))) else Q v2 sh1 R1 M1)))) :
    Go d 255 Q 4 [vr v0, vi v1, vi v2, vi v3] [] sh R M 0 0 :=
  Go_wp (cuts := [(4, [1, 1, 1, 1])]) 38 4 mok255 rfl h
theorem b_X12_isInRing_0 {d : Nat} {Q : RES} {sh : SHP} {R M : MEM} {v0 v1 : Int}
    (h : Go d 256 Q 4 [vr v0, vi v1, vi 0, vi 0] [] sh R M 0 0) :
    Go d 256 Q 0 [vr v0, vi v1, vn, vn] [] sh R M 0 0 :=
  Go_wp (cuts := [(4, [1, 1, 1, 1]), (39, [1, 1, 1, 1])]) 7 0 mok256 rfl h
set_option maxRecDepth 20000 in
theorem b_X12_isInRing_4 {d : Nat} {Q : RES} {sh : SHP} {R M : MEM} {v0 v1 v2 v3 : Int}
    (h : ook sh 12 v0 (Cd d 195 [vr v0] sh R M 0 0 (fun (x1 : Int) (sh1 : SHP) (R1 M1 : MEM) => (if v3 < x1 then ook sh1 12 v0 (ook sh1 12 v0 (aok sh1 100 (R1 v0 20) (iadd (imul 16 (M1 v0 36)) v3) ((if (M1 (R1 v0 20) (iadd (imul 16 (M1 v0 36)) v3)) = v1 then ook sh1 12 v0 (ook sh1 12 v0 (aok sh1 100 (R1 v0 21) (iadd (imul 16 (M1 v0 36)) v3) (Go d 256 Q 4 [vr v0, vi v1, vi (ior v2 (ishl 1 (M1 (R1 v0 21) (iadd (imul 16 (M1 v0 36)) v3)))), vi (iadd v3 1)] [] sh1 R1 M1 0 0))) else Go d 256 Q 4 [vr v0, vi v1, vi v2, vi (iadd v3 1)] [] sh1 R1 M1 0 0)))) else ook sh1 12 v0 (Cd d 255 [vr v0, vi v2] sh1 R1 M1 0 0 (fun (x2 : Int) (sh2 : SHP) (R2 M2 : MEM) => Go d 256 Q 39 [vr v0, vi v1, vi v2, vi x2] [] sh2 R2 M2 0 0)))))) :
    Go d 256 Q 4 [vr v0, vi v1, vi v2, vi v3] [] sh R M 0 0 :=
  Go_wp (cuts := [(4, [1, 1, 1, 1]), (39, [1, 1, 1, 1])]) 34 4 mok256 rfl h
set_option maxRecDepth 20000 in
theorem b_X12_isInRing_39 {d : Nat} {Q : RES} {sh : SHP} {R M : MEM} {v0 v1 v2 v3 : Int}
    (h : (if v3 = v2 then (if (iand (ishr v2 v1) 1) = 1 then Q 1 sh R M else Q 0 sh R M) else ook sh 12 v0 (Cd d 255 [vr v0, vi v3] sh R M 0 0 (fun (x1 : Int) (sh1 : SHP) (R1 M1 : MEM) => Go d 256 Q 39 [vr v0, vi v1, vi v3, vi x1] [] sh1 R1 M1 0 0)))) :
    Go d 256 Q 39 [vr v0, vi v1, vi v2, vi v3] [] sh R M 0 0 :=
  Go_wp (cuts := [(4, [1, 1, 1, 1]), (39, [1, 1, 1, 1])]) 15 39 mok256 rfl h
theorem b_X12_ring_0 {d : Nat} {Q : RES} {sh : SHP} {R M : MEM} {v0 : Int}
    (h : Go d 257 Q 4 [vr v0, vi 0, vi 0] [] sh R M 0 0) :
    Go d 257 Q 0 [vr v0, vn, vn] [] sh R M 0 0 :=
  Go_wp (cuts := [(4, [1, 1, 1])]) 7 0 mok257 rfl h
set_option maxRecDepth 20000 in
theorem b_X12_ring_4 {d : Nat} {Q : RES} {sh : SHP} {R M : MEM} {v0 v1 v2 : Int}
    (h : ook sh 12 v0 (Cd d 194 [vr v0] sh R M 0 0 (fun (x1 : Int) (sh1 : SHP) (R1 M1 : MEM) => (if v2 < x1 then ook sh1 12 v0 (Cd d 256 [vr v0, vi v2] sh1 R1 M1 0 0 (fun (x2 : Int) (sh2 : SHP) (R2 M2 : MEM) => (x2 = 0 ∨ x2 = 1) → (if x2 = 0 then Go d 257 Q 4 [vr v0, vi (ior v1 0), vi (iadd v2 1)] [] sh2 R2 M2 0 0 else Go d 257 Q 4 [vr v0, vi (ior v1 (ishl 1 v2)), vi (iadd v2 1)] [] sh2 R2 M2 0 0))) else Q v1 sh1 R1 M1)))) :
    Go d 257 Q 4 [vr v0, vi v1, vi v2] [] sh R M 0 0 :=
  Go_wp (cuts := [(4, [1, 1, 1])]) 20 4 mok257 rfl h
set_option maxRecDepth 20000 in
theorem b_X12_pair_0 {d : Nat} {Q : RES} {sh : SHP} {R M : MEM} {v0 v1 v2 : Int}
    (h : Cd d 193 [vi v1, vi 0, vi 999] sh R M 0 0 (fun (x1 : Int) (sh1 : SHP) (R1 M1 : MEM) => (x1 = 0 ∨ x1 = 1) → (if x1 = 0 then Q (-1) sh1 R1 M1 else Cd d 193 [vi v2, vi 0, vi 999] sh1 R1 M1 0 0 (fun (x2 : Int) (sh2 : SHP) (R2 M2 : MEM) => (x2 = 0 ∨ x2 = 1) → (if x2 = 0 then Q (-1) sh2 R2 M2 else ook sh2 12 v0 ((if (M2 v0 61) = 4 then Q (-1) sh2 R2 M2 else ook sh2 12 v0 (ook sh2 12 v0 (aok sh2 100 (R2 v0 59) (M2 v0 61) (ook sh2 12 v0 (ook sh2 12 v0 (aok sh2 100 (R2 v0 60) ((stm M2 (R2 v0 59) (M2 v0 61) v1) v0 61) (ook sh2 12 v0 (ook sh2 12 v0 (ook sh2 12 v0 (Q ((stm (stm (stm M2 (R2 v0 59) (M2 v0 61) v1) (R2 v0 60) ((stm M2 (R2 v0 59) (M2 v0 61) v1) v0 61) v2) v0 61 (iadd ((stm (stm M2 (R2 v0 59) (M2 v0 61) v1) (R2 v0 60) ((stm M2 (R2 v0 59) (M2 v0 61) v1) v0 61) v2) v0 61) 1)) v0 61) sh2 R2 (stm (stm (stm M2 (R2 v0 59) (M2 v0 61) v1) (R2 v0 60) ((stm M2 (R2 v0 59) (M2 v0 61) v1) v0 61) v2) v0 61 (iadd ((stm (stm M2 (R2 v0 59) (M2 v0 61) v1) (R2 v0 60) ((stm M2 (R2 v0 59) (M2 v0 61) v1) v0 61) v2) v0 61) 1)))))))))))))))))) :
    Go d 258 Q 0 [vr v0, vi v1, vi v2] [] sh R M 0 0 :=
  Go_wp (cuts := []) 37 0 mok258 rfl h
theorem b_X12_hush_0 {d : Nat} {Q : RES} {sh : SHP} {R M : MEM} {v0 : Int}
    (h : ook sh 12 v0 (ook sh 12 v0 (Q (M v0 61) sh R (stm M v0 61 0)))) :
    Go d 259 Q 0 [vr v0, vn] [] sh R M 0 0 :=
  Go_wp (cuts := []) 10 0 mok259 rfl h
set_option maxRecDepth 20000 in
theorem b_X12_made_0 {d : Nat} {Q : RES} {sh : SHP} {R M : MEM} {v0 v1 : Int}
    (h : (if v1 = 0 then (2 : Int) ≠ 0 ∧ Q (idiv v0 2) sh R M else (if v1 = 1 then Q (iadd v0 1) sh R M else (if v1 = 2 then (if 0 < v0 then Q (isub v0 1) sh R M else Q 0 sh R M) else Q (imul 2 v0) sh R M)))) :
    Go d 260 Q 0 [vi v0, vi v1] [] sh R M 0 0 :=
  Go_wp (cuts := []) 17 0 mok260 rfl h
theorem b_X12_doesChain_0 {d : Nat} {Q : RES} {sh : SHP} {R M : MEM} {v0 v1 v2 : Int}
    (h : Go d 261 Q 2 [vr v0, vi v1, vi v2, vi 0, vn, vn] [] sh R M 0 0) :
    Go d 261 Q 0 [vr v0, vi v1, vi v2, vn, vn, vn] [] sh R M 0 0 :=
  Go_wp (cuts := [(2, [1, 1, 1, 1, 0, 0]), (24, [1, 0, 1, 1, 0, 0]), (35, [1, 0, 1, 1, 1, 1])]) 5 0 mok261 rfl h
set_option maxRecDepth 20000 in
theorem b_X12_doesChain_2 {d : Nat} {Q : RES} {sh : SHP} {R M : MEM} {v0 v1 v2 v3 : Int}
    (h : (if v3 < v2 then ook sh 12 v0 (aok sh 100 (R v0 53) v3 (Go d 261 Q 2 [vr v0, vi v1, vi v2, vi (iadd v3 1), vn, vn] [] sh R (stm M (R v0 53) v3 (iand (ishr v1 (imul 2 (isub (isub v2 1) v3))) 3)) 0 0)) else Go d 261 Q 24 [vr v0, vn, vi v2, vi 0, vn, vn] [] sh R M 0 0)) :
    Go d 261 Q 2 [vr v0, vi v1, vi v2, vi v3, vn, vn] [] sh R M 0 0 :=
  Go_wp (cuts := [(2, [1, 1, 1, 1, 0, 0]), (24, [1, 0, 1, 1, 0, 0]), (35, [1, 0, 1, 1, 1, 1])]) 23 2 mok261 rfl h
theorem b_X12_doesChain_24 {d : Nat} {Q : RES} {sh : SHP} {R M : MEM} {v0 v2 v3 : Int}
    (h : ook sh 12 v0 ((if v3 < (M v0 61) then ook sh 12 v0 (aok sh 100 (R v0 59) v3 (Go d 261 Q 35 [vr v0, vn, vi v2, vi v3, vi (M (R v0 59) v3), vi 0] [] sh R M 0 0)) else Q 1 sh R M))) :
    Go d 261 Q 24 [vr v0, vn, vi v2, vi v3, vn, vn] [] sh R M 0 0 :=
  Go_wp (cuts := [(2, [1, 1, 1, 1, 0, 0]), (24, [1, 0, 1, 1, 0, 0]), (35, [1, 0, 1, 1, 1, 1])]) 14 24 mok261 rfl h
set_option maxRecDepth 20000 in
theorem b_X12_doesChain_35 {d : Nat} {Q : RES} {sh : SHP} {R M : MEM} {v0 v2 v3 v4 v5 : Int}
    (h : (if v5 < v2 then ook sh 12 v0 (aok sh 100 (R v0 53) v5 (Cd d 260 [vi v4, vi (M (R v0 53) v5)] sh R M 0 0 (fun (x1 : Int) (sh1 : SHP) (R1 M1 : MEM) => Go d 261 Q 35 [vr v0, vn, vi v2, vi v3, vi x1, vi (iadd v5 1)] [] sh1 R1 M1 0 0))) else ook sh 12 v0 (aok sh 100 (R v0 60) v3 ((if v4 = (M (R v0 60) v3) then Go d 261 Q 24 [vr v0, vn, vi v2, vi (iadd v3 1), vn, vn] [] sh R M 0 0 else Q 0 sh R M))))) :
    Go d 261 Q 35 [vr v0, vn, vi v2, vi v3, vi v4, vi v5] [] sh R M 0 0 :=
  Go_wp (cuts := [(2, [1, 1, 1, 1, 0, 0]), (24, [1, 0, 1, 1, 0, 0]), (35, [1, 0, 1, 1, 1, 1])]) 15 35 mok261 rfl h
theorem b_X12_chain_0 {d : Nat} {Q : RES} {sh : SHP} {R M : MEM} {v0 : Int}
    (h : ook sh 12 v0 (Go d 262 Q 5 [vr v0, vi 0, vn] [] sh R (stm M v0 55 0) 0 0)) :
    Go d 262 Q 0 [vr v0, vn, vn] [] sh R M 0 0 :=
  Go_wp (cuts := [(5, [1, 1, 0]), (10, [1, 1, 1])]) 8 0 mok262 rfl h
theorem b_X12_chain_5 {d : Nat} {Q : RES} {sh : SHP} {R M : MEM} {v0 v1 : Int}
    (h : (if 8 < v1 then Q (-1) sh R M else Go d 262 Q 10 [vr v0, vi v1, vi 0] [] sh R M 0 0)) :
    Go d 262 Q 5 [vr v0, vi v1, vn] [] sh R M 0 0 :=
  Go_wp (cuts := [(5, [1, 1, 0]), (10, [1, 1, 1])]) 8 5 mok262 rfl h
set_option maxRecDepth 20000 in
theorem b_X12_chain_10 {d : Nat} {Q : RES} {sh : SHP} {R M : MEM} {v0 v1 v2 : Int}
    (h : (if v2 < (ishl 1 (imul 2 v1)) then ook sh 12 v0 (Cd d 261 [vr v0, vi v2, vi v1] sh R M 0 0 (fun (x1 : Int) (sh1 : SHP) (R1 M1 : MEM) => (x1 = 0 ∨ x1 = 1) → (if x1 = 0 then Go d 262 Q 10 [vr v0, vi v1, vi (iadd v2 1)] [] sh1 R1 M1 0 0 else ook sh1 12 v0 (Q v1 sh1 R1 (stm M1 v0 55 v1))))) else Go d 262 Q 5 [vr v0, vi (iadd v1 1), vn] [] sh R M 0 0)) :
    Go d 262 Q 10 [vr v0, vi v1, vi v2] [] sh R M 0 0 :=
  Go_wp (cuts := [(5, [1, 1, 0]), (10, [1, 1, 1])]) 19 10 mok262 rfl h
set_option maxRecDepth 20000 in
theorem b_X12_sight_0 {d : Nat} {Q : RES} {sh : SHP} {R M : MEM} {v0 v1 v2 v3 : Int}
    (h : ook sh 12 v0 (Cd d 200 [vr v0, vi v1] sh R M 0 0 (fun (x1 : Int) (sh1 : SHP) (R1 M1 : MEM) => (x1 = 0 ∨ x1 = 1) → (if x1 = 0 then Q (-1) sh1 R1 M1 else Cd d 193 [vi v2, vi 1, vi 60] sh1 R1 M1 0 0 (fun (x2 : Int) (sh2 : SHP) (R2 M2 : MEM) => (x2 = 0 ∨ x2 = 1) → (if x2 = 0 then Q (-1) sh2 R2 M2 else Cd d 193 [vi v3, vi 0, vi 999999] sh2 R2 M2 0 0 (fun (x3 : Int) (sh3 : SHP) (R3 M3 : MEM) => (x3 = 0 ∨ x3 = 1) → (if x3 = 0 then Q (-1) sh3 R3 M3 else ook sh3 12 v0 ((if (M3 v0 70) = 20 then Q (-1) sh3 R3 M3 else ook sh3 12 v0 (ook sh3 12 v0 (aok sh3 100 (R3 v0 62) (M3 v0 70) (ook sh3 12 v0 (ook sh3 12 v0 (aok sh3 100 (R3 v0 63) ((stm M3 (R3 v0 62) (M3 v0 70) v1) v0 70) (ook sh3 12 v0 (ook sh3 12 v0 (aok sh3 100 (R3 v0 64) ((stm (stm M3 (R3 v0 62) (M3 v0 70) v1) (R3 v0 63) ((stm M3 (R3 v0 62) (M3 v0 70) v1) v0 70) v2) v0 70) (ook sh3 12 v0 (ook sh3 12 v0 (ook sh3 12 v0 (aok sh3 100 (R3 v0 65) ((stm (stm (stm M3 (R3 v0 62) (M3 v0 70) v1) (R3 v0 63) ((stm M3 (R3 v0 62) (M3 v0 70) v1) v0 70) v2) (R3 v0 64) ((stm (stm M3 (R3 v0 62) (M3 v0 70) v1) (R3 v0 63) ((stm M3 (R3 v0 62) (M3 v0 70) v1) v0 70) v2) v0 70) v3) v0 70) (ook sh3 12 v0 (ook sh3 12 v0 (aok sh3 100 (R3 v0 66) ((stm (stm (stm (stm M3 (R3 v0 62) (M3 v0 70) v1) (R3 v0 63) ((stm M3 (R3 v0 62) (M3 v0 70) v1) v0 70) v2) (R3 v0 64) ((stm (stm M3 (R3 v0 62) (M3 v0 70) v1) (R3 v0 63) ((stm M3 (R3 v0 62) (M3 v0 70) v1) v0 70) v2) v0 70) v3) (R3 v0 65) ((stm (stm (stm M3 (R3 v0 62) (M3 v0 70) v1) (R3 v0 63) ((stm M3 (R3 v0 62) (M3 v0 70) v1) v0 70) v2) (R3 v0 64) ((stm (stm M3 (R3 v0 62) (M3 v0 70) v1) (R3 v0 63) ((stm M3 (R3 v0 62) (M3 v0 70) v1) v0 70) v2) v0 70) v3) v0 70) ((stm (stm (stm M3 (R3 v0 62) (M3 v0 70) v1) (R3 v0 63) ((stm M3 (R3 v0 62) (M3 v0 70) v1) v0 70) v2) (R3 v0 64) ((stm (stm M3 (R3 v0 62) (M3 v0 70) v1) (R3 v0 63) ((stm M3 (R3 v0 62) (M3 v0 70) v1) v0 70) v2) v0 70) v3) v0 71)) v0 70) (ook sh3 12 v0 (ook sh3 12 v0 (ook sh3 12 v0 (Q (isub ((stm (stm (stm (stm (stm (stm M3 (R3 v0 62) (M3 v0 70) v1) (R3 v0 63) ((stm M3 (R3 v0 62) (M3 v0 70) v1) v0 70) v2) (R3 v0 64) ((stm (stm M3 (R3 v0 62) (M3 v0 70) v1) (R3 v0 63) ((stm M3 (R3 v0 62) (M3 v0 70) v1) v0 70) v2) v0 70) v3) (R3 v0 65) ((stm (stm (stm M3 (R3 v0 62) (M3 v0 70) v1) (R3 v0 63) ((stm M3 (R3 v0 62) (M3 v0 70) v1) v0 70) v2) (R3 v0 64) ((stm (stm M3 (R3 v0 62) (M3 v0 70) v1) (R3 v0 63) ((stm M3 (R3 v0 62) (M3 v0 70) v1) v0 70) v2) v0 70) v3) v0 70) ((stm (stm (stm M3 (R3 v0 62) (M3 v0 70) v1) (R3 v0 63) ((stm M3 (R3 v0 62) (M3 v0 70) v1) v0 70) v2) (R3 v0 64) ((stm (stm M3 (R3 v0 62) (M3 v0 70) v1) (R3 v0 63) ((stm M3 (R3 v0 62) (M3 v0 70) v1) v0 70) v2) v0 70) v3) v0 71)) (R3 v0 66) ((stm (stm (stm (stm M3 (R3 v0 62) (M3 v0 70) v1) (R3 v0 63) ((stm M3 (R3 v0 62) (M3 v0 70) v1) v0 70) v2) (R3 v0 64) ((stm (stm M3 (R3 v0 62) (M3 v0 70) v1) (R3 v0 63) ((stm M3 (R3 v0 62) (M3 v0 70) v1) v0 70) v2) v0 70) v3) (R3 v0 65) ((stm (stm (stm M3 (R3 v0 62) (M3 v0 70) v1) (R3 v0 63) ((stm M3 (R3 v0 62) (M3 v0 70) v1) v0 70) v2) (R3 v0 64) ((stm (stm M3 (R3 v0 62) (M3 v0 70) v1) (R3 v0 63) ((stm M3 (R3 v0 62) (M3 v0 70) v1) v0 70) v2) v0 70) v3) v0 70) ((stm (stm (stm M3 (R3 v0 62) (M3 v0 70) v1) (R3 v0 63) ((stm M3 (R3 v0 62) (M3 v0 70) v1) v0 70) v2) (R3 v0 64) ((stm (stm M3 (R3 v0 62) (M3 v0 70) v1) (R3 v0 63) ((stm M3 (R3 v0 62) (M3 v0 70) v1) v0 70) v2) v0 70) v3) v0 71)) v0 70) (-1)) v0 70 (iadd ((stm (stm (stm (stm (stm M3 (R3 v0 62) (M3 v0 70) v1) (R3 v0 63) ((stm M3 (R3 v0 62) (M3 v0 70) v1) v0 70) v2) (R3 v0 64) ((stm (stm M3 (R3 v0 62) (M3 v0 70) v1) (R3 v0 63) ((stm M3 (R3 v0 62) (M3 v0 70) v1) v0 70) v2) v0 70) v3) (R3 v0 65) ((stm (stm (stm M3 (R3 v0 62) (M3 v0 70) v1) (R3 v0 63) ((stm M3 (R3 v0 62) (M3 v0 70) v1) v0 70) v2) (R3 v0 64) ((stm (stm M3 (R3 v0 62) (M3 v0 70) v1) (R3 v0 63) ((stm M3 (R3 v0 62) (M3 v0 70) v1) v0 70) v2) v0 70) v3) v0 70) ((stm (stm (stm M3 (R3 v0 62) (M3 v0 70) v1) (R3 v0 63) ((stm M3 (R3 v0 62) (M3 v0 70) v1) v0 70) v2) (R3 v0 64) ((stm (stm M3 (R3 v0 62) (M3 v0 70) v1) (R3 v0 63) ((stm M3 (R3 v0 62) (M3 v0 70) v1) v0 70) v2) v0 70) v3) v0 71)) (R3 v0 66) ((stm (stm (stm (stm M3 (R3 v0 62) (M3 v0 70) v1) (R3 v0 63) ((stm M3 (R3 v0 62) (M3 v0 70) v1) v0 70) v2) (R3 v0 64) ((stm (stm M3 (R3 v0 62) (M3 v0 70) v1) (R3 v0 63) ((stm M3 (R3 v0 62) (M3 v0 70) v1) v0 70) v2) v0 70) v3) (R3 v0 65) ((stm (stm (stm M3 (R3 v0 62) (M3 v0 70) v1) (R3 v0 63) ((stm M3 (R3 v0 62) (M3 v0 70) v1) v0 70) v2) (R3 v0 64) ((stm (stm M3 (R3 v0 62) (M3 v0 70) v1) (R3 v0 63) ((stm M3 (R3 v0 62) (M3 v0 70) v1) v0 70) v2) v0 70) v3) v0 70) ((stm (stm (stm M3 (R3 v0 62) (M3 v0 70) v1) (R3 v0 63) ((stm M3 (R3 v0 62) (M3 v0 70) v1) v0 70) v2) (R3 v0 64) ((stm (stm M3 (R3 v0 62) (M3 v0 70) v1) (R3 v0 63) ((stm M3 (R3 v0 62) (M3 v0 70) v1) v0 70) v2) v0 70) v3) v0 71)) v0 70) (-1)) v0 70) 1)) v0 70) 1) sh3 R3 (stm (stm (stm (stm (stm (stm M3 (R3 v0 62) (M3 v0 70) v1) (R3 v0 63) ((stm M3 (R3 v0 62) (M3 v0 70) v1) v0 70) v2) (R3 v0 64) ((stm (stm M3 (R3 v0 62) (M3 v0 70) v1) (R3 v0 63) ((stm M3 (R3 v0 62) (M3 v0 70) v1) v0 70) v2) v0 70) v3) (R3 v0 65) ((stm (stm (stm M3 (R3 v0 62) (M3 v0 70) v1) (R3 v0 63) ((stm M3 (R3 v0 62) (M3 v0 70) v1) v0 70) v2) (R3 v0 64) ((stm (stm M3 (R3 v0 62) (M3 v0 70) v1) (R3 v0 63) ((stm M3 (R3 v0 62) (M3 v0 70) v1) v0 70) v2) v0 70) v3) v0 70) ((stm (stm (stm M3 (R3 v0 62) (M3 v0 70) v1) (R3 v0 63) ((stm M3 (R3 v0 62) (M3 v0 70) v1) v0 70) v2) (R3 v0 64) ((stm (stm M3 (R3 v0 62) (M3 v0 70) v1) (R3 v0 63) ((stm M3 (R3 v0 62) (M3 v0 70) v1) v0 70) v2) v0 70) v3) v0 71)) (R3 v0 66) ((stm (stm (stm (stm M3 (R3 v0 62) (M3 v0 70) v1) (R3 v0 63) ((stm M3 (R3 v0 62) (M3 v0 70) v1) v0 70) v2) (R3 v0 64) ((stm (stm M3 (R3 v0 62) (M3 v0 70) v1) (R3 v0 63) ((stm M3 (R3 v0 62) (M3 v0 70) v1) v0 70) v2) v0 70) v3) (R3 v0 65) ((stm (stm (stm M3 (R3 v0 62) (M3 v0 70) v1) (R3 v0 63) ((stm M3 (R3 v0 62) (M3 v0 70) v1) v0 70) v2) (R3 v0 64) ((stm (stm M3 (R3 v0 62) (M3 v0 70) v1) (R3 v0 63) ((stm M3 (R3 v0 62) (M3 v0 70) v1) v0 70) v2) v0 70) v3) v0 70) ((stm (stm (stm M3 (R3 v0 62) (M3 v0 70) v1) (R3 v0 63) ((stm M3 (R3 v0 62) (M3 v0 70) v1) v0 70) v2) (R3 v0 64) ((stm (stm M3 (R3 v0 62) (M3 v0 70) v1) (R3 v0 63) ((stm M3 (R3 v0 62) (M3 v0 70) v1) v0 70) v2) v0 70) v3) v0 71)) v0 70) (-1)) v0 70 (iadd ((stm (stm (stm (stm (stm M3 (R3 v0 62) (M3 v0 70) v1) (R3 v0 63) ((stm M3 (R3 v0 62) (M3 v0 70) v1) v0 70) v2) (R3 v0 64) ((stm (stm M3 (R3 v0 62) (M3 v0 70) v1) (R3 v0 63) ((stm M3 (R3 v0 62) (M3 v0 70) v1) v0 70) v2) v0 70) v3) (R3 v0 65) ((stm (stm (stm M3 (R3 v0 62) (M3 v0 70) v1) (R3 v0 63) ((stm M3 (R3 v0 62) (M3 v0 70) v1) v0 70) v2) (R3 v0 64) ((stm (stm M3 (R3 v0 62) (M3 v0 70) v1) (R3 v0 63) ((stm M3 (R3 v0 62) (M3 v0 70) v1) v0 70) v2) v0 70) v3) v0 70) ((stm (stm (stm M3 (R3 v0 62) (M3 v0 70) v1) (R3 v0 63) ((stm M3 (R3 v0 62) (M3 v0 70) v1) v0 70) v2) (R3 v0 64) ((stm (stm M3 (R3 v0 62) (M3 v0 70) v1) (R3 v0 63) ((stm M3 (R3 v0 62) (M3 v0 70) v1) v0 70) v2) v0 70) v3) v0 71)) (R3 v0 66) ((stm (stm (stm (stm M3 (R3 v0 62) (M3 v0 70) v1) (R3 v0 63) ((stm M3 (R3 v0 62) (M3 v0 70) v1) v0 70) v2) (R3 v0 64) ((stm (stm M3 (R3 v0 62) (M3 v0 70) v1) (R3 v0 63) ((stm M3 (R3 v0 62) (M3 v0 70) v1) v0 70) v2) v0 70) v3) (R3 v0 65) ((stm (stm (stm M3 (R3 v0 62) (M3 v0 70) v1) (R3 v0 63) ((stm M3 (R3 v0 62) (M3 v0 70) v1) v0 70) v2) (R3 v0 64) ((stm (stm M3 (R3 v0 62) (M3 v0 70) v1) (R3 v0 63) ((stm M3 (R3 v0 62) (M3 v0 70) v1) v0 70) v2) v0 70) v3) v0 70) ((stm (stm (stm M3 (R3 v0 62) (M3 v0 70) v1) (R3 v0 63) ((stm M3 (R3 v0 62) (M3 v0 70) v1) v0 70) v2) (R3 v0 64) ((stm (stm M3 (R3 v0 62) (M3 v0 70) v1) (R3 v0 63) ((stm M3 (R3 v0 62) (M3 v0 70) v1) v0 70) v2) v0 70) v3) v0 71)) v0 70) (-1)) v0 70) 1))))))))))))))))))))))))))))))) :
    Go d 263 Q 0 [vr v0, vi v1, vi v2, vi v3] [] sh R M 0 0 :=
  Go_wp (cuts := []) 62 0 mok263 rfl h
set_option maxRecDepth 20000 in
theorem b_X12_untell_0 {d : Nat} {Q : RES} {sh : SHP} {R M : MEM} {v0 v1 : Int}
    (h : ook sh 12 v0 (Cd d 193 [vi v1, vi 0, vi (isub (M v0 70) 1)] sh R M 0 0 (fun (x1 : Int) (sh1 : SHP) (R1 M1 : MEM) => (x1 = 0 ∨ x1 = 1) → (if x1 = 0 then Q 0 sh1 R1 M1 else ook sh1 12 v0 (aok sh1 100 (R1 v0 66) v1 ((if (M1 (R1 v0 66) v1) < 0 then ook sh1 12 v0 (ook sh1 12 v0 (aok sh1 100 (R1 v0 66) v1 (Q 1 sh1 R1 (stm M1 (R1 v0 66) v1 (M1 v0 71))))) else Q 0 sh1 R1 M1))))))) :
    Go d 264 Q 0 [vr v0, vi v1] [] sh R M 0 0 :=
  Go_wp (cuts := []) 23 0 mok264 rfl h
set_option maxRecDepth 20000 in
theorem b_X12_later_0 {d : Nat} {Q : RES} {sh : SHP} {R M : MEM} {v0 v1 : Int}
    (h : Cd d 193 [vi v1, vi 0, vi 1000] sh R M 0 0 (fun (x1 : Int) (sh1 : SHP) (R1 M1 : MEM) => (x1 = 0 ∨ x1 = 1) → (if x1 = 0 then Q (-1) sh1 R1 M1 else ook sh1 12 v0 ((if 100000 < (iadd (M1 v0 71) v1) then Q (-1) sh1 R1 M1 else ook sh1 12 v0 (ook sh1 12 v0 (ook sh1 12 v0 (Q ((stm M1 v0 71 (iadd (M1 v0 71) v1)) v0 71) sh1 R1 (stm M1 v0 71 (iadd (M1 v0 71) v1)))))))))) :
    Go d 265 Q 0 [vr v0, vi v1] [] sh R M 0 0 :=
  Go_wp (cuts := []) 22 0 mok265 rfl h
set_option maxRecDepth 20000 in
theorem b_X12_counts_0 {d : Nat} {Q : RES} {sh : SHP} {R M : MEM} {v0 v1 v2 : Int}
    (h : ook sh 12 v0 (aok sh 100 (R v0 65) v1 ((if v2 < (M (R v0 65) v1) then Q 0 sh R M else ook sh 12 v0 (aok sh 100 (R v0 66) v1 ((if (M (R v0 66) v1) < 0 then Q 1 sh R M else ook sh 12 v0 (aok sh 100 (R v0 66) v1 ((if v2 < (M (R v0 66) v1) then Q 1 sh R M else Q 0 sh R M)))))))))) :
    Go d 266 Q 0 [vr v0, vi v1, vi v2] [] sh R M 0 0 :=
  Go_wp (cuts := []) 22 0 mok266 rfl h
theorem b_X12_lastBeat_0 {d : Nat} {Q : RES} {sh : SHP} {R M : MEM} {v0 v1 : Int}
    (h : Go d 267 Q 4 [vr v0, vi v1, vi 0, vi 0] [] sh R M 0 0) :
    Go d 267 Q 0 [vr v0, vi v1, vn, vn] [] sh R M 0 0 :=
  Go_wp (cuts := [(4, [1, 1, 1, 1])]) 7 0 mok267 rfl h
set_option maxRecDepth 20000 in
theorem b_X12_lastBeat_4 {d : Nat} {Q : RES} {sh : SHP} {R M : MEM} {v0 v1 v2 v3 : Int}
    (h : ook sh 12 v0 ((if v3 < (M v0 70) then ook sh 12 v0 (Cd d 266 [vr v0, vi v3, vi v1] sh R M 0 0 (fun (x1 : Int) (sh1 : SHP) (R1 M1 : MEM) => (x1 = 0 ∨ x1 = 1) → (if x1 = 0 then Go d 267 Q 4 [vr v0, vi v1, vi v2, vi (iadd v3 1)] [] sh1 R1 M1 0 0 else ook sh1 12 v0 (aok sh1 100 (R1 v0 63) v3 ((if v2 < (M1 (R1 v0 63) v3) then ook sh1 12 v0 (aok sh1 100 (R1 v0 63) v3 (Go d 267 Q 4 [vr v0, vi v1, vi (M1 (R1 v0 63) v3), vi (iadd v3 1)] [] sh1 R1 M1 0 0)) else Go d 267 Q 4 [vr v0, vi v1, vi v2, vi (iadd v3 1)] [] sh1 R1 M1 0 0)))))) else Q v2 sh R M))) :
    Go d 267 Q 4 [vr v0, vi v1, vi v2, vi v3] [] sh R M 0 0 :=
  Go_wp (cuts := [(4, [1, 1, 1, 1])]) 25 4 mok267 rfl h
theorem b_X12_areSo_0 {d : Nat} {Q : RES} {sh : SHP} {R M : MEM} {v0 v1 : Int}
    (h : ook sh 12 v0 (Cd d 226 [vr v0] sh R M 0 0 (fun (_ : Int) (sh1 : SHP) (R1 M1 : MEM) => ook sh1 12 v0 (Cd d 267 [vr v0, vi v1] sh1 R1 M1 0 0 (fun (x2 : Int) (sh2 : SHP) (R2 M2 : MEM) => Go d 268 Q 8 [vr v0, vi v1, vi x2, vi 1, vn] [] sh2 R2 M2 0 0))))) :
    Go d 268 Q 0 [vr v0, vi v1, vn, vn, vn] [] sh R M 0 0 :=
  Go_wp (cuts := [(8, [1, 1, 1, 1, 0]), (15, [1, 1, 1, 1, 1])]) 11 0 mok268 rfl h
theorem b_X12_areSo_8 {d : Nat} {Q : RES} {sh : SHP} {R M : MEM} {v0 v1 v2 v3 : Int}
    (h : (if v2 < v3 then Q 1 sh R M else ook sh 12 v0 (Cd d 209 [vr v0] sh R M 0 0 (fun (_ : Int) (sh1 : SHP) (R1 M1 : MEM) => Go d 268 Q 15 [vr v0, vi v1, vi v2, vi v3, vi 0] [] sh1 R1 M1 0 0)))) :
    Go d 268 Q 8 [vr v0, vi v1, vi v2, vi v3, vn] [] sh R M 0 0 :=
  Go_wp (cuts := [(8, [1, 1, 1, 1, 0]), (15, [1, 1, 1, 1, 1])]) 10 8 mok268 rfl h
set_option maxRecDepth 20000 in
theorem b_X12_areSo_15 {d : Nat} {Q : RES} {sh : SHP} {R M : MEM} {v0 v1 v2 v3 v4 : Int}
    (h : ook sh 12 v0 ((if v4 < (M v0 70) then ook sh 12 v0 (aok sh 100 (R v0 63) v4 ((if (M (R v0 63) v4) = v3 then ook sh 12 v0 (Cd d 266 [vr v0, vi v4, vi v1] sh R M 0 0 (fun (x1 : Int) (sh1 : SHP) (R1 M1 : MEM) => (x1 = 0 ∨ x1 = 1) → (if x1 = 0 then Go d 268 Q 15 [vr v0, vi v1, vi v2, vi v3, vi (iadd v4 1)] [] sh1 R1 M1 0 0 else ook sh1 12 v0 (ook sh1 12 v0 (aok sh1 100 (R1 v0 62) v4 (aok sh1 100 (R1 v0 42) (iadd 192 (M1 (R1 v0 62) v4)) (ook sh1 12 v0 (aok sh1 100 (R1 v0 64) v4 ((if (M1 (R1 v0 42) (iadd 192 (M1 (R1 v0 62) v4))) = (M1 (R1 v0 64) v4) then Go d 268 Q 15 [vr v0, vi v1, vi v2, vi v3, vi (iadd v4 1)] [] sh1 R1 M1 0 0 else Q 0 sh1 R1 M1)))))))))) else Go d 268 Q 15 [vr v0, vi v1, vi v2, vi v3, vi (iadd v4 1)] [] sh R M 0 0))) else Go d 268 Q 8 [vr v0, vi v1, vi v2, vi (iadd v3 1), vn] [] sh R M 0 0))) :
    Go d 268 Q 15 [vr v0, vi v1, vi v2, vi v3, vi v4] [] sh R M 0 0 :=
  Go_wp (cuts := [(8, [1, 1, 1, 1, 0]), (15, [1, 1, 1, 1, 1])]) 34 15 mok268 rfl h
theorem b_X12_countBegun_0 {d : Nat} {Q : RES} {sh : SHP} {R M : MEM} {v0 v1 v2 : Int}
    (h : ook sh 12 v0 (Cd d 204 [vr v0] sh R M 0 0 (fun (_ : Int) (sh1 : SHP) (R1 M1 : MEM) => ook sh1 12 v0 (Cd d 232 [vr v0] sh1 R1 M1 0 0 (fun (_ : Int) (sh2 : SHP) (R2 M2 : MEM) => Go d 269 Q 8 [vr v0, vi v1, vi v2, vi 0, vi 0, vn] [] sh2 R2 M2 0 0))))) :
    Go d 269 Q 0 [vr v0, vi v1, vi v2, vn, vn, vn] [] sh R M 0 0 :=
  Go_wp (cuts := [(8, [1, 1, 1, 1, 1, 0]), (24, [1, 1, 1, 1, 1, 1])]) 11 0 mok269 rfl h
set_option maxRecDepth 20000 in
theorem b_X12_countBegun_8 {d : Nat} {Q : RES} {sh : SHP} {R M : MEM} {v0 v1 v2 v3 v4 : Int}
    (h : ook sh 12 v0 (Cd d 234 [vr v0, vi v1] sh R M 0 0 (fun (x1 : Int) (sh1 : SHP) (R1 M1 : MEM) => (if v4 < x1 then ook sh1 12 v0 (Cd d 235 [vr v0, vi v4, vi v1] sh1 R1 M1 0 0 (fun (_ : Int) (sh4 : SHP) (R4 M4 : MEM) => ook sh4 12 v0 (Cd d 268 [vr v0, vi v2] sh4 R4 M4 0 0 (fun (x5 : Int) (sh5 : SHP) (R5 M5 : MEM) => (x5 = 0 ∨ x5 = 1) → (if x5 = 0 then Go d 269 Q 8 [vr v0, vi v1, vi v2, vi v3, vi (iadd v4 1), vn] [] sh5 R5 M5 0 0 else Go d 269 Q 24 [vr v0, vi v1, vi v2, vi v3, vi v4, vi 0] [] sh5 R5 M5 0 0))))) else ook sh1 12 v0 (Cd d 233 [vr v0] sh1 R1 M1 0 0 (fun (_ : Int) (sh2 : SHP) (R2 M2 : MEM) => ook sh2 12 v0 (Cd d 205 [vr v0] sh2 R2 M2 0 0 (fun (_ : Int) (sh3 : SHP) (R3 M3 : MEM) => Q v3 sh3 R3 M3)))))))) :
    Go d 269 Q 8 [vr v0, vi v1, vi v2, vi v3, vi v4, vn] [] sh R M 0 0 :=
  Go_wp (cuts := [(8, [1, 1, 1, 1, 1, 0]), (24, [1, 1, 1, 1, 1, 1])]) 19 8 mok269 rfl h
set_option maxRecDepth 20000 in
theorem b_X12_countBegun_24 {d : Nat} {Q : RES} {sh : SHP} {R M : MEM} {v0 v1 v2 v3 v4 v5 : Int}
    (h : ook sh 12 v0 (Cd d 196 [vr v0] sh R M 0 0 (fun (x1 : Int) (sh1 : SHP) (R1 M1 : MEM) => (if v5 < x1 then (if v3 = 0 then ook sh1 12 v0 (ook sh1 12 v0 (aok sh1 100 (R1 v0 46) v5 (aok sh1 100 (R1 v0 67) v5 ((if v3 = 0 then ook sh1 12 v0 (ook sh1 12 v0 (aok sh1 100 (R1 v0 46) v5 (aok sh1 100 (R1 v0 68) v5 ((if v3 = 0 then ook sh1 12 v0 (ook sh1 12 v0 (aok sh1 100 (R1 v0 46) v5 (aok sh1 100 (R1 v0 69) v5 (Go d 269 Q 24 [vr v0, vi v1, vi v2, vi v3, vi v4, vi (iadd v5 1)] [] sh1 R1 (stm (stm (stm M1 (R1 v0 67) v5 (M1 (R1 v0 46) v5)) (R1 v0 68) v5 ((stm M1 (R1 v0 67) v5 (M1 (R1 v0 46) v5)) (R1 v0 46) v5)) (R1 v0 69) v5 ((stm (stm M1 (R1 v0 67) v5 (M1 (R1 v0 46) v5)) (R1 v0 68) v5 ((stm M1 (R1 v0 67) v5 (M1 (R1 v0 46) v5)) (R1 v0 46) v5)) (R1 v0 46) v5)) 0 0)))) else ook sh1 12 v0 (aok sh1 100 (R1 v0 46) v5 (ook sh1 12 v0 (aok sh1 100 (R1 v0 69) v5 ((if ((stm (stm M1 (R1 v0 67) v5 (M1 (R1 v0 46) v5)) (R1 v0 68) v5 ((stm M1 (R1 v0 67) v5 (M1 (R1 v0 46) v5)) (R1 v0 46) v5)) (R1 v0 69) v5) < ((stm (stm M1 (R1 v0 67) v5 (M1 (R1 v0 46) v5)) (R1 v0 68) v5 ((stm M1 (R1 v0 67) v5 (M1 (R1 v0 46) v5)) (R1 v0 46) v5)) (R1 v0 46) v5) then ook sh1 12 v0 (ook sh1 12 v0 (aok sh1 100 (R1 v0 46) v5 (aok sh1 100 (R1 v0 69) v5 (Go d 269 Q 24 [vr v0, vi v1, vi v2, vi v3, vi v4, vi (iadd v5 1)] [] sh1 R1 (stm (stm (stm M1 (R1 v0 67) v5 (M1 (R1 v0 46) v5)) (R1 v0 68) v5 ((stm M1 (R1 v0 67) v5 (M1 (R1 v0 46) v5)) (R1 v0 46) v5)) (R1 v0 69) v5 ((stm (stm M1 (R1 v0 67) v5 (M1 (R1 v0 46) v5)) (R1 v0 68) v5 ((stm M1 (R1 v0 67) v5 (M1 (R1 v0 46) v5)) (R1 v0 46) v5)) (R1 v0 46) v5)) 0 0)))) else Go d 269 Q 24 [vr v0, vi v1, vi v2, vi v3, vi v4, vi (iadd v5 1)] [] sh1 R1 (stm (stm M1 (R1 v0 67) v5 (M1 (R1 v0 46) v5)) (R1 v0 68) v5 ((stm M1 (R1 v0 67) v5 (M1 (R1 v0 46) v5)) (R1 v0 46) v5)) 0 0)))))))))) else ook sh1 12 v0 (aok sh1 100 (R1 v0 46) v5 (ook sh1 12 v0 (aok sh1 100 (R1 v0 68) v5 ((if ((stm M1 (R1 v0 67) v5 (M1 (R1 v0 46) v5)) (R1 v0 46) v5) < ((stm M1 (R1 v0 67) v5 (M1 (R1 v0 46) v5)) (R1 v0 68) v5) then ook sh1 12 v0 (ook sh1 12 v0 (aok sh1 100 (R1 v0 46) v5 (aok sh1 100 (R1 v0 68) v5 ((if v3 = 0 then ook sh1 12 v0 (ook sh1 12 v0 (aok sh1 100 (R1 v0 46) v5 (aok sh1 100 (R1 v0 69) v5 (Go d 269 Q 24 [vr v0, vi v1, vi v2, vi v3, vi v4, vi (iadd v5 1)] [] sh1 R1 (stm (stm (stm M1 (R1 v0 67) v5 (M1 (R1 v0 46) v5)) (R1 v0 68) v5 ((stm M1 (R1 v0 67) v5 (M1 (R1 v0 46) v5)) (R1 v0 46) v5)) (R1 v0 69) v5 ((stm (stm M1 (R1 v0 67) v5 (M1 (R1 v0 46) v5)) (R1 v0 68) v5 ((stm M1 (R1 v0 67) v5 (M1 (R1 v0 46) v5)) (R1 v0 46) v5)) (R1 v0 46) v5)) 0 0)))) else ook sh1 12 v0 (aok sh1 100 (R1 v0 46) v5 (ook sh1 12 v0 (aok sh1 100 (R1 v0 69) v5 ((if ((stm (stm M1 (R1 v0 67) v5 (M1 (R1 v0 46) v5)) (R1 v0 68) v5 ((stm M1 (R1 v0 67) v5 (M1 (R1 v0 46) v5)) (R1 v0 46) v5)) (R1 v0 69) v5) < ((stm (stm M1 (R1 v0 67) v5 (M1 (R1 v0 46) v5)) (R1 v0 68) v5 ((stm M1 (R1 v0 67) v5 (M1 (R1 v0 46) v5)) (R1 v0 46) v5)) (R1 v0 46) v5) then ook sh1 12 v0 (ook sh1 12 v0 (aok sh1 100 (R1 v0 46) v5 (aok sh1 100 (R1 v0 69) v5 (Go d 269 Q 24 [vr v0, vi v1, vi v2, vi v3, vi v4, vi (iadd v5 1)] [] sh1 R1 (stm (stm (stm M1 (R1 v0 67) v5 (M1 (R1 v0 46) v5)) (R1 v0 68) v5 ((stm M1 (R1 v0 67) v5 (M1 (R1 v0 46) v5)) (R1 v0 46) v5)) (R1 v0 69) v5 ((stm (stm M1 (R1 v0 67) v5 (M1 (R1 v0 46) v5)) (R1 v0 68) v5 ((stm M1 (R1 v0 67) v5 (M1 (R1 v0 46) v5)) (R1 v0 46) v5)) (R1 v0 46) v5)) 0 0)))) else Go d 269 Q 24 [vr v0, vi v1, vi v2, vi v3, vi v4, vi (iadd v5 1)] [] sh1 R1 (stm (stm M1 (R1 v0 67) v5 (M1 (R1 v0 46) v5)) (R1 v0 68) v5 ((stm M1 (R1 v0 67) v5 (M1 (R1 v0 46) v5)) (R1 v0 46) v5)) 0 0)))))))))) else (if v3 = 0 then ook sh1 12 v0 (ook sh1 12 v0 (aok sh1 100 (R1 v0 46) v5 (aok sh1 100 (R1 v0 69) v5 (Go d 269 Q 24 [vr v0, vi v1, vi v2, vi v3, vi v4, vi (iadd v5 1)] [] sh1 R1 (stm (stm M1 (R1 v0 67) v5 (M1 (R1 v0 46) v5)) (R1 v0 69) v5 ((stm M1 (R1 v0 67) v5 (M1 (R1 v0 46) v5)) (R1 v0 46) v5)) 0 0)))) else ook sh1 12 v0 (aok sh1 100 (R1 v0 46) v5 (ook sh1 12 v0 (aok sh1 100 (R1 v0 69) v5 ((if ((stm M1 (R1 v0 67) v5 (M1 (R1 v0 46) v5)) (R1 v0 69) v5) < ((stm M1 (R1 v0 67) v5 (M1 (R1 v0 46) v5)) (R1 v0 46) v5) then ook sh1 12 v0 (ook sh1 12 v0 (aok sh1 100 (R1 v0 46) v5 (aok sh1 100 (R1 v0 69) v5 (Go d 269 Q 24 [vr v0, vi v1, vi v2, vi v3, vi v4, vi (iadd v5 1)] [] sh1 R1 (stm (stm M1 (R1 v0 67) v5 (M1 (R1 v0 46) v5)) (R1 v0 69) v5 ((stm M1 (R1 v0 67) v5 (M1 (R1 v0 46) v5)) (R1 v0 46) v5)) 0 0)))) else Go d 269 Q 24 [vr v0, vi v1, vi v2, vi v3, vi v4, vi (iadd v5 1)] [] sh1 R1 (stm M1 (R1 v0 67) v5 (M1 (R1 v0 46) v5)) 0 0)))))))))))))))) else (if v3 = 0 then ook sh1 12 v0 (ook sh1 12 v0 (aok sh1 100 (R1 v0 46) v5 (aok sh1 100 (R1 v0 68) v5 ((if v3 = 0 then ook sh1 12 v0 (ook sh1 12 v0 (aok sh1 100 (R1 v0 46) v5 (aok sh1 100 (R1 v0 69) v5 (Go d 269 Q 24 [vr v0, vi v1, vi v2, vi v3, vi v4, vi (iadd v5 1)] [] sh1 R1 (stm (stm M1 (R1 v0 68) v5 (M1 (R1 v0 46) v5)) (R1 v0 69) v5 ((stm M1 (R1 v0 68) v5 (M1 (R1 v0 46) v5)) (R1 v0 46) v5)) 0 0)))) else ook sh1 12 v0 (aok sh1 100 (R1 v0 46) v5 (ook sh1 12 v0 (aok sh1 100 (R1 v0 69) v5 ((if ((stm M1 (R1 v0 68) v5 (M1 (R1 v0 46) v5)) (R1 v0 69) v5) < ((stm M1 (R1 v0 68) v5 (M1 (R1 v0 46) v5)) (R1 v0 46) v5) then ook sh1 12 v0 (ook sh1 12 v0 (aok sh1 100 (R1 v0 46) v5 (aok sh1 100 (R1 v0 69) v5 (Go d 269 Q 24 [vr v0, vi v1, vi v2, vi v3, vi v4, vi (iadd v5 1)] [] sh1 R1 (stm (stm M1 (R1 v0 68) v5 (M1 (R1 v0 46) v5)) (R1 v0 69) v5 ((stm M1 (R1 v0 68) v5 (M1 (R1 v0 46) v5)) (R1 v0 46) v5)) 0 0)))) else Go d 269 Q 24 [vr v0, vi v1, vi v2, vi v3, vi v4, vi (iadd v5 1)] [] sh1 R1 (stm M1 (R1 v0 68) v5 (M1 (R1 v0 46) v5)) 0 0)))))))))) else ook sh1 12 v0 (aok sh1 100 (R1 v0 46) v5 (ook sh1 12 v0 (aok sh1 100 (R1 v0 68) v5 ((if (M1 (R1 v0 46) v5) < (M1 (R1 v0 68) v5) then ook sh1 12 v0 (ook sh1 12 v0 (aok sh1 100 (R1 v0 46) v5 (aok sh1 100 (R1 v0 68) v5 ((if v3 = 0 then ook sh1 12 v0 (ook sh1 12 v0 (aok sh1 100 (R1 v0 46) v5 (aok sh1 100 (R1 v0 69) v5 (Go d 269 Q 24 [vr v0, vi v1, vi v2, vi v3, vi v4, vi (iadd v5 1)] [] sh1 R1 (stm (stm M1 (R1 v0 68) v5 (M1 (R1 v0 46) v5)) (R1 v0 69) v5 ((stm M1 (R1 v0 68) v5 (M1 (R1 v0 46) v5)) (R1 v0 46) v5)) 0 0)))) else ook sh1 12 v0 (aok sh1 100 (R1 v0 46) v5 (ook sh1 12 v0 (aok sh1 100 (R1 v0 69) v5 ((if ((stm M1 (R1 v0 68) v5 (M1 (R1 v0 46) v5)) (R1 v0 69) v5) < ((stm M1 (R1 v0 68) v5 (M1 (R1 v0 46) v5)) (R1 v0 46) v5) then ook sh1 12 v0 (ook sh1 12 v0 (aok sh1 100 (R1 v0 46) v5 (aok sh1 100 (R1 v0 69) v5 (Go d 269 Q 24 [vr v0, vi v1, vi v2, vi v3, vi v4, vi (iadd v5 1)] [] sh1 R1 (stm (stm M1 (R1 v0 68) v5 (M1 (R1 v0 46) v5)) (R1 v0 69) v5 ((stm M1 (R1 v0 68) v5 (M1 (R1 v0 46) v5)) (R1 v0 46) v5)) 0 0)))) else Go d 269 Q 24 [vr v0, vi v1, vi v2, vi v3, vi v4, vi (iadd v5 1)] [] sh1 R1 (stm M1 (R1 v0 68) v5 (M1 (R1 v0 46) v5)) 0 0)))))))))) else (if v3 = 0 then ook sh1 12 v0 (ook sh1 12 v0 (aok sh1 100 (R1 v0 46) v5 (aok sh1 100 (R1 v0 69) v5 (Go d 269 Q 24 [vr v0, vi v1, vi v2, vi v3, vi v4, vi (iadd v5 1)] [] sh1 R1 (stm M1 (R1 v0 69) v5 (M1 (R1 v0 46) v5)) 0 0)))) else ook sh1 12 v0 (aok sh1 100 (R1 v0 46) v5 (ook sh1 12 v0 (aok sh1 100 (R1 v0 69) v5 ((if (M1 (R1 v0 69) v5) < (M1 (R1 v0 46) v5) then ook sh1 12 v0 (ook sh1 12 v0 (aok sh1 100 (R1 v0 46) v5 (aok sh1 100 (R1 v0 69) v5 (Go d 269 Q 24 [vr v0, vi v1, vi v2, vi v3, vi v4, vi (iadd v5 1)] [] sh1 R1 (stm M1 (R1 v0 69) v5 (M1 (R1 v0 46) v5)) 0 0)))) else Go d 269 Q 24 [vr v0, vi v1, vi v2, vi v3, vi v4, vi (iadd v5 1)] [] sh1 R1 M1 0 0))))))))))))) else Go d 269 Q 8 [vr v0, vi v1, vi v2, vi (iadd v3 1), vi (iadd v4 1), vn] [] sh1 R1 M1 0 0)))) :
    Go d 269 Q 24 [vr v0, vi v1, vi v2, vi v3, vi v4, vi v5] [] sh R M 0 0 :=
  Go_wp (cuts := [(8, [1, 1, 1, 1, 1, 0]), (24, [1, 1, 1, 1, 1, 1])]) 57 24 mok269 rfl h
set_option maxRecDepth 20000 in
theorem b_X12_begun_0 {d : Nat} {Q : RES} {sh : SHP} {R M : MEM} {v0 v1 v2 : Int}
    (h : ook sh 12 v0 (Cd d 193 [vi v1, vi 0, vi 9] sh R (stm M v0 55 0) 0 0 (fun (x1 : Int) (sh1 : SHP) (R1 M1 : MEM) => (x1 = 0 ∨ x1 = 1) → (if x1 = 0 then Q (-1) sh1 R1 M1 else ook sh1 12 v0 (Cd d 269 [vr v0, vi v1, vi v2] sh1 R1 M1 0 0 (fun (x2 : Int) (sh2 : SHP) (R2 M2 : MEM) => (if x2 = 0 then Q 0 sh2 R2 M2 else Go d 270 Q 21 [vr v0, vn, vn, vi x2, vi 0] [] sh2 R2 M2 0 0))))))) :
    Go d 270 Q 0 [vr v0, vi v1, vi v2, vn, vn] [] sh R M 0 0 :=
  Go_wp (cuts := [(21, [1, 0, 0, 1, 1])]) 20 0 mok270 rfl h
set_option maxRecDepth 20000 in
theorem b_X12_begun_21 {d : Nat} {Q : RES} {sh : SHP} {R M : MEM} {v0 v3 v4 : Int}
    (h : ook sh 12 v0 (Cd d 196 [vr v0] sh R M 0 0 (fun (x1 : Int) (sh1 : SHP) (R1 M1 : MEM) => (if v4 < x1 then ook sh1 12 v0 (ook sh1 12 v0 (aok sh1 100 (R1 v0 67) v4 (aok sh1 100 (R1 v0 53) v4 (Go d 270 Q 21 [vr v0, vn, vn, vi v3, vi (iadd v4 1)] [] sh1 R1 (stm M1 (R1 v0 53) v4 (M1 (R1 v0 67) v4)) 0 0)))) else ook sh1 12 v0 (Cd d 196 [vr v0] sh1 R1 M1 0 0 (fun (x2 : Int) (sh2 : SHP) (R2 M2 : MEM) => ook sh2 12 v0 (Q v3 sh2 R2 (stm M2 v0 55 x2)))))))) :
    Go d 270 Q 21 [vr v0, vn, vn, vi v3, vi v4] [] sh R M 0 0 :=
  Go_wp (cuts := [(21, [1, 0, 0, 1, 1])]) 17 21 mok270 rfl h
set_option maxRecDepth 20000 in
theorem b_X12_sure_0 {d : Nat} {Q : RES} {sh : SHP} {R M : MEM} {v0 v1 v2 v3 : Int}
    (h : ook sh 12 v0 (Cd d 196 [vr v0] sh R M 0 0 (fun (x1 : Int) (sh1 : SHP) (R1 M1 : MEM) => Cd d 193 [vi v1, vi 0, vi (isub x1 1)] sh1 R1 M1 0 0 (fun (x2 : Int) (sh2 : SHP) (R2 M2 : MEM) => (x2 = 0 ∨ x2 = 1) → (if x2 = 0 then Q (-1) sh2 R2 M2 else Cd d 193 [vi v2, vi 0, vi 9] sh2 R2 M2 0 0 (fun (x3 : Int) (sh3 : SHP) (R3 M3 : MEM) => (x3 = 0 ∨ x3 = 1) → (if x3 = 0 then Q (-1) sh3 R3 M3 else ook sh3 12 v0 (Cd d 269 [vr v0, vi v2, vi v3] sh3 R3 M3 0 0 (fun (x4 : Int) (sh4 : SHP) (R4 M4 : MEM) => (if x4 = 0 then Q (-1) sh4 R4 M4 else ook sh4 12 v0 (aok sh4 100 (R4 v0 68) v1 (ook sh4 12 v0 (aok sh4 100 (R4 v0 69) v1 ((if (M4 (R4 v0 68) v1) = (M4 (R4 v0 69) v1) then ook sh4 12 v0 (aok sh4 100 (R4 v0 68) v1 (Q (M4 (R4 v0 68) v1) sh4 R4 M4)) else Q (-2) sh4 R4 M4))))))))))))))) :
    Go d 271 Q 0 [vr v0, vi v1, vi v2, vi v3] [] sh R M 0 0 :=
  Go_wp (cuts := []) 35 0 mok271 rfl h
theorem b_X12_image_0 {d : Nat} {Q : RES} {sh : SHP} {R M : MEM} {v0 v1 : Int}
    (h : Cd d 193 [vi v1, vi 0, vi 2] sh R M 0 0 (fun (x1 : Int) (sh1 : SHP) (R1 M1 : MEM) => (x1 = 0 ∨ x1 = 1) → (if x1 = 0 then Q (-1) sh1 R1 M1 else Go d 272 Q 9 [vr v0, vi v1, vi 0] [] sh1 R1 M1 0 0))) :
    Go d 272 Q 0 [vr v0, vi v1, vn] [] sh R M 0 0 :=
  Go_wp (cuts := [(9, [1, 1, 1])]) 10 0 mok272 rfl h
set_option maxRecDepth 20000 in
theorem b_X12_image_9 {d : Nat} {Q : RES} {sh : SHP} {R M : MEM} {v0 v1 v2 : Int}
    (h : (if v2 < 218 then ook sh 12 v0 (ook sh 12 v0 (aok sh 100 (R v0 42) v2 (aok sh 100 (R v0 72) (iadd (imul 218 v1) v2) (Go d 272 Q 9 [vr v0, vi v1, vi (iadd v2 1)] [] sh R (stm M (R v0 72) (iadd (imul 218 v1) v2) (M (R v0 42) v2)) 0 0)))) else ook sh 12 v0 (aok sh 103 (R v0 73) v1 (ook sh 12 v0 (aok sh 100 (R v0 42) 216 (Q ((stm M (R v0 73) v1 1) (R v0 42) 216) sh R (stm M (R v0 73) v1 1))))))) :
    Go d 272 Q 9 [vr v0, vi v1, vi v2] [] sh R M 0 0 :=
  Go_wp (cuts := [(9, [1, 1, 1])]) 20 9 mok272 rfl h
set_option maxRecDepth 20000 in
theorem b_X12_back_0 {d : Nat} {Q : RES} {sh : SHP} {R M : MEM} {v0 v1 : Int}
    (h : Cd d 193 [vi v1, vi 0, vi 2] sh R M 0 0 (fun (x1 : Int) (sh1 : SHP) (R1 M1 : MEM) => (x1 = 0 ∨ x1 = 1) → (if x1 = 0 then Q (-1) sh1 R1 M1 else ook sh1 12 v0 (aok sh1 103 (R1 v0 73) v1 ((if (M1 (R1 v0 73) v1) = 0 then Q (-1) sh1 R1 M1 else Go d 273 Q 14 [vr v0, vi v1, vi 0] [] sh1 R1 M1 0 0)))))) :
    Go d 273 Q 0 [vr v0, vi v1, vn] [] sh R M 0 0 :=
  Go_wp (cuts := [(14, [1, 1, 1])]) 15 0 mok273 rfl h
set_option maxRecDepth 20000 in
theorem b_X12_back_14 {d : Nat} {Q : RES} {sh : SHP} {R M : MEM} {v0 v1 v2 : Int}
    (h : (if v2 < 218 then ook sh 12 v0 (ook sh 12 v0 (aok sh 100 (R v0 72) (iadd (imul 218 v1) v2) (aok sh 100 (R v0 42) v2 (Go d 273 Q 14 [vr v0, vi v1, vi (iadd v2 1)] [] sh R (stm M (R v0 42) v2 (M (R v0 72) (iadd (imul 218 v1) v2))) 0 0)))) else ook sh 12 v0 (ook sh 12 v0 (ook sh 12 v0 (aok sh 100 (R v0 42) 216 (Q ((stm (stm M v0 51 0) v0 52 0) (R v0 42) 216) sh R (stm (stm M v0 51 0) v0 52 0))))))) :
    Go d 273 Q 14 [vr v0, vi v1, vi v2] [] sh R M 0 0 :=
  Go_wp (cuts := [(14, [1, 1, 1])]) 20 14 mok273 rfl h
set_option maxRecDepth 20000 in
theorem b_X12_about_0 {d : Nat} {Q : RES} {sh : SHP} {R M : MEM} {v0 v1 : Int}
    (h : (if v1 = 0 then ook sh 12 v0 (Cd d 194 [vr v0] sh R M 0 0 (fun (x1 : Int) (sh1 : SHP) (R1 M1 : MEM) => Q x1 sh1 R1 M1)) else if v1 = 1 then ook sh 12 v0 (Cd d 196 [vr v0] sh R M 0 0 (fun (x2 : Int) (sh2 : SHP) (R2 M2 : MEM) => Q x2 sh2 R2 M2)) else if v1 = 2 then ook sh 12 v0 (Cd d 195 [vr v0] sh R M 0 0 (fun (x3 : Int) (sh3 : SHP) (R3 M3 : MEM) => Q x3 sh3 R3 M3)) else if v1 = 3 then ook sh 12 v0 (ook sh 12 v0 (aok sh 100 (R v0 14) (M v0 36) (Q (M (R v0 14) (M v0 36)) sh R M))) else if v1 = 4 then ook sh 12 v0 (aok sh 100 (R v0 42) 216 (Q (M (R v0 42) 216) sh R M)) else if v1 = 5 then ook sh 12 v0 (aok sh 100 (R v0 42) 217 (Q (M (R v0 42) 217) sh R M)) else if v1 = 6 then ook sh 12 v0 (Q (M v0 51) sh R M) else if v1 = 7 then ook sh 12 v0 (Q (M v0 52) sh R M) else if v1 = 8 then ook sh 12 v0 (Q (M v0 61) sh R M) else if v1 = 9 then ook sh 12 v0 (Q (M v0 70) sh R M) else if v1 = 10 then ook sh 12 v0 (Q (M v0 71) sh R M) else if v1 = 11 then ook sh 12 v0 (Q (M v0 2) sh R M) else if v1 = 12 then ook sh 12 v0 (ook sh 12 v0 (aok sh 100 (R v0 15) (M v0 36) (Q (M (R v0 15) (M v0 36)) sh R M))) else if v1 = 13 then ook sh 12 v0 (Q (M v0 55) sh R M) else Q (-1) sh R M)) :
    Go d 274 Q 0 [vr v0, vi v1] [] sh R M 0 0 :=
  Go_wp (cuts := []) 10 0 mok274 rfl h
theorem b_X12_feed_0 {d : Nat} {Q : RES} {sh : SHP} {R M : MEM} {v0 v1 v2 v3 v4 v5 : Int}
    (h : ook sh 12 v0 ((if 1600 < (iadd (M v0 2) 20) then Q (-1) sh R M else Go d 275 Q 10 [vr v0, vi v1, vi v2, vi v3, vi v4, vi v5, vi 0, vn] [] sh R M 0 0))) :
    Go d 275 Q 0 [vr v0, vi v1, vi v2, vi v3, vi v4, vi v5, vn, vn] [] sh R M 0 0 :=
  Go_wp (cuts := [(10, [1, 1, 1, 1, 1, 1, 1, 0])]) 11 0 mok275 rfl h
set_option maxRecDepth 20000 in
theorem b_X12_feed_10 {d : Nat} {Q : RES} {sh : SHP} {R M : MEM} {v0 v1 v2 v3 v4 v5 v6 : Int}
    (h : (if v6 < 20 then (if v6 < 4 then ook sh 12 v0 (ook sh 12 v0 (aok sh 102 (R v0 0) (iadd (M v0 2) v6) (Go d 275 Q 10 [vr v0, vi v1, vi v2, vi v3, vi v4, vi v5, vi (iadd v6 1), vn] [] sh R (stm M (R v0 0) (iadd (M v0 2) v6) (w8 (w8 (ishr v1 (isub 24 (imul 8 (iand v6 3))))))) 0 0))) else (if v6 < 8 then ook sh 12 v0 (ook sh 12 v0 (aok sh 102 (R v0 0) (iadd (M v0 2) v6) (Go d 275 Q 10 [vr v0, vi v1, vi v2, vi v3, vi v4, vi v5, vi (iadd v6 1), vn] [] sh R (stm M (R v0 0) (iadd (M v0 2) v6) (w8 (w8 (ishr v2 (isub 24 (imul 8 (iand v6 3))))))) 0 0))) else (if v6 < 12 then ook sh 12 v0 (ook sh 12 v0 (aok sh 102 (R v0 0) (iadd (M v0 2) v6) (Go d 275 Q 10 [vr v0, vi v1, vi v2, vi v3, vi v4, vi v5, vi (iadd v6 1), vn] [] sh R (stm M (R v0 0) (iadd (M v0 2) v6) (w8 (w8 (ishr v3 (isub 24 (imul 8 (iand v6 3))))))) 0 0))) else (if v6 < 16 then ook sh 12 v0 (ook sh 12 v0 (aok sh 102 (R v0 0) (iadd (M v0 2) v6) (Go d 275 Q 10 [vr v0, vi v1, vi v2, vi v3, vi v4, vi v5, vi (iadd v6 1), vn] [] sh R (stm M (R v0 0) (iadd (M v0 2) v6) (w8 (w8 (ishr v4 (isub 24 (imul 8 (iand v6 3))))))) 0 0))) else ook sh 12 v0 (ook sh 12 v0 (aok sh 102 (R v0 0) (iadd (M v0 2) v6) (Go d 275 Q 10 [vr v0, vi v1, vi v2, vi v3, vi v4, vi v5, vi (iadd v6 1), vn] [] sh R (stm M (R v0 0) (iadd (M v0 2) v6) (w8 (w8 (ishr v5 (isub 24 (imul 8 (iand v6 3))))))) 0 0))))))) else ook sh 12 v0 (ook sh 12 v0 (ook sh 12 v0 (Q ((stm M v0 2 (iadd (M v0 2) 20)) v0 2) sh R (stm M v0 2 (iadd (M v0 2) 20))))))) :
    Go d 275 Q 10 [vr v0, vi v1, vi v2, vi v3, vi v4, vi v5, vi v6, vn] [] sh R M 0 0 :=
  Go_wp (cuts := [(10, [1, 1, 1, 1, 1, 1, 1, 0])]) 40 10 mok275 rfl h
theorem b_X12_end_0 {d : Nat} {Q : RES} {sh : SHP} {R M : MEM} {v0 v1 : Int}
    (h : (if v1 < 0 then Q (-1) sh R M else ook sh 12 v0 ((if (M v0 2) < v1 then Q (-1) sh R M else ook sh 12 v0 (Q v1 sh R (stm M v0 2 v1)))))) :
    Go d 276 Q 0 [vr v0, vi v1] [] sh R M 0 0 :=
  Go_wp (cuts := []) 13 0 mok276 rfl h
