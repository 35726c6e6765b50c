/-! MORE BLOCKS: cut where ways meet again -/
set_option maxRecDepth 20000 in
theorem b2_X12_numeral_0 {d : Nat} {Q : RES} {sh : SHP} {R M : MEM} {v0 v1 v2 : Int}
    (h : ook sh 12 v0 (Cd d 157 [vr v0] sh R M 0 0 (fun (x1 : Int) (sh1 : SHP) (R1 M1 : MEM) => (x1 = 0 ∨ x1 = 1) → (if x1 = 0 then Q v1 sh1 R1 M1 else ook sh1 12 v0 ((if (M1 v0 8) = 4 then Go d 165 Q 11 [vr v0, vi v1, vi v2, vn] [] sh1 R1 M1 0 0 else ook sh1 12 v0 (Cd d 163 [vr v0] sh1 R1 M1 0 0 (fun (_ : Int) (sh2 : SHP) (R2 M2 : MEM) => Go d 165 Q 11 [vr v0, vi v1, vi v2, vn] [] sh2 R2 M2 0 0)))))))) :
    Go d 165 Q 0 [vr v0, vi v1, vi v2, vn] [] sh R M 0 0 :=
  Go_wp (cuts := [(11, [1, 1, 1, 0]), (27, [1, 1, 0, 0]), (35, [1, 1, 0, 1])]) 12 0 mok165 rfl h
set_option maxRecDepth 20000 in
theorem b2_X12_numeral_11 {d : Nat} {Q : RES} {sh : SHP} {R M : MEM} {v0 v1 v2 : Int}
    (h : ook sh 12 v0 (Cd d 157 [vr v0] sh R M 0 0 (fun (x1 : Int) (sh1 : SHP) (R1 M1 : MEM) => (x1 = 0 ∨ x1 = 1) → (if x1 = 0 then Go d 165 Q 27 [vr v0, vi v1, vn, vn] [] sh1 R1 M1 0 0 else ook sh1 12 v0 ((if (M1 v0 9) < v1 then ook sh1 12 v0 (ook sh1 12 v0 (Cd d 156 [vr v0, vi 4, vi (M1 v0 6)] sh1 R1 M1 0 0 (fun (_ : Int) (sh2 : SHP) (R2 M2 : MEM) => Go d 165 Q 27 [vr v0, vi v1, vn, vn] [] sh2 R2 M2 0 0))) else ook sh1 12 v0 ((if v2 < (M1 v0 9) then ook sh1 12 v0 (ook sh1 12 v0 (Cd d 156 [vr v0, vi 4, vi (M1 v0 6)] sh1 R1 M1 0 0 (fun (_ : Int) (sh3 : SHP) (R3 M3 : MEM) => Go d 165 Q 27 [vr v0, vi v1, vn, vn] [] sh3 R3 M3 0 0))) else Go d 165 Q 27 [vr v0, vi v1, vn, vn] [] sh1 R1 M1 0 0)))))))) :
    Go d 165 Q 11 [vr v0, vi v1, vi v2, vn] [] sh R M 0 0 :=
  Go_wp (cuts := [(11, [1, 1, 1, 0]), (27, [1, 1, 0, 0]), (35, [1, 1, 0, 1])]) 19 11 mok165 rfl h
set_option maxRecDepth 20000 in
theorem b2_X12_numeral_27 {d : Nat} {Q : RES} {sh : SHP} {R M : MEM} {v0 v1 : Int}
    (h : ook sh 12 v0 (ook sh 12 v0 (Cd d 157 [vr v0] sh R M 0 0 (fun (x1 : Int) (sh1 : SHP) (R1 M1 : MEM) => (x1 = 0 ∨ x1 = 1) → (if x1 = 0 then Go d 165 Q 35 [vr v0, vi v1, vn, vi (M v0 9)] [] sh1 R1 M1 0 0 else ook sh1 12 v0 (Cd d 160 [vr v0] sh1 R1 M1 0 0 (fun (_ : Int) (sh2 : SHP) (R2 M2 : MEM) => Go d 165 Q 35 [vr v0, vi v1, vn, vi (M v0 9)] [] sh2 R2 M2 0 0))))))) :
    Go d 165 Q 27 [vr v0, vi v1, vn, vn] [] sh R M 0 0 :=
  Go_wp (cuts := [(11, [1, 1, 1, 0]), (27, [1, 1, 0, 0]), (35, [1, 1, 0, 1])]) 11 27 mok165 rfl h
set_option maxRecDepth 20000 in
theorem b2_X12_numeral_35 {d : Nat} {Q : RES} {sh : SHP} {R M : MEM} {v0 v1 v3 : Int}
    (h : ook sh 12 v0 (Cd d 157 [vr v0] sh R M 0 0 (fun (x1 : Int) (sh1 : SHP) (R1 M1 : MEM) => (x1 = 0 ∨ x1 = 1) → (if x1 = 0 then Q v1 sh1 R1 M1 else Q v3 sh1 R1 M1)))) :
    Go d 165 Q 35 [vr v0, vi v1, vn, vi v3] [] sh R M 0 0 :=
  Go_wp (cuts := [(11, [1, 1, 1, 0]), (27, [1, 1, 0, 0]), (35, [1, 1, 0, 1])]) 8 35 mok165 rfl h
set_option maxRecDepth 20000 in
theorem b2_X12_readLine_0 {d : Nat} {Q : RES} {sh : SHP} {R M : MEM} {v0 : Int}
    (h : ook sh 12 v0 (ook sh 12 v0 ((if (M v0 8) = 3 then ook sh 12 v0 (Cd d 170 [vr v0] sh R M 0 0 (fun (x2 : Int) (sh2 : SHP) (R2 M2 : MEM) => (x2 = 0 ∨ x2 = 1) → (if x2 = 0 then Go d 171 Q 12 [vr v0, vl (M v0 10), vn, vn] [] sh2 R2 M2 0 0 else ook sh2 12 v0 (Cd d 163 [vr v0] sh2 R2 M2 0 0 (fun (_ : Int) (sh3 : SHP) (R3 M3 : MEM) => Go d 171 Q 12 [vr v0, vl (M v0 10), vn, vn] [] sh3 R3 M3 0 0))))) else ook sh 12 v0 (Cd d 163 [vr v0] sh R M 0 0 (fun (_ : Int) (sh1 : SHP) (R1 M1 : MEM) => Go d 171 Q 12 [vr v0, vl (M v0 10), vn, vn] [] sh1 R1 M1 0 0)))))) :
    Go d 171 Q 0 [vr v0, vn, vn, vn] [] sh R M 0 0 :=
  Go_wp (cuts := [(12, [1, 1, 0, 0]), (43, [1, 0, 0, 0])]) 15 0 mok171 rfl h
set_option maxRecDepth 20000 in
theorem b2_X12_readLine_12 {d : Nat} {Q : RES} {sh : SHP} {R M : MEM} {v0 v1 : Int}
    (h : ook sh 12 v0 (Cd d 157 [vr v0] sh R M 0 0 (fun (x1 : Int) (sh1 : SHP) (R1 M1 : MEM) => (x1 = 0 ∨ x1 = 1) → (if x1 = 0 then Q 0 sh1 R1 M1 else ook sh1 12 v0 (Cd d 169 [vr v0] sh1 R1 M1 0 0 (fun (x2 : Int) (sh2 : SHP) (R2 M2 : MEM) => ook sh2 12 v0 (Cd d 160 [vr v0] sh2 R2 M2 0 0 (fun (_ : Int) (sh3 : SHP) (R3 M3 : MEM) => (if x2 < 0 then (if (lcmp v1 7823737) = 0 then ook sh3 12 v0 (Cd d 179 [vr v0] sh3 R3 M3 0 0 (fun (_ : Int) (sh6 : SHP) (R6 M6 : MEM) => Go d 171 Q 43 [vr v0, vn, vn, vn] [] sh6 R6 M6 0 0)) else (if (lcmp v1 427020085613) = 0 then ook sh3 12 v0 (Cd d 180 [vr v0] sh3 R3 M3 0 0 (fun (_ : Int) (sh5 : SHP) (R5 M5 : MEM) => Go d 171 Q 43 [vr v0, vn, vn, vn] [] sh5 R5 M5 0 0)) else ook sh3 12 v0 (Cd d 172 [vr v0] sh3 R3 M3 0 0 (fun (_ : Int) (sh4 : SHP) (R4 M4 : MEM) => Go d 171 Q 43 [vr v0, vn, vn, vn] [] sh4 R4 M4 0 0)))) else ook sh3 12 v0 (Cd d 177 [vr v0, vi x2] sh3 R3 M3 0 0 (fun (_ : Int) (sh7 : SHP) (R7 M7 : MEM) => Go d 171 Q 43 [vr v0, vn, vn, vn] [] sh7 R7 M7 0 0))))))))))) :
    Go d 171 Q 12 [vr v0, vl v1, vn, vn] [] sh R M 0 0 :=
  Go_wp (cuts := [(12, [1, 1, 0, 0]), (43, [1, 0, 0, 0])]) 24 12 mok171 rfl h
set_option maxRecDepth 20000 in
theorem b2_X12_readLine_43 {d : Nat} {Q : RES} {sh : SHP} {R M : MEM} {v0 : Int}
    (h : ook sh 12 v0 (Cd d 161 [vr v0, vi 59] sh R M 0 0 (fun (x1 : Int) (sh1 : SHP) (R1 M1 : MEM) => (x1 = 0 ∨ x1 = 1) → ook sh1 12 v0 (Cd d 164 [vr v0, vi x1] sh1 R1 M1 0 0 (fun (_ : Int) (sh2 : SHP) (R2 M2 : MEM) => Q 0 sh2 R2 M2))))) :
    Go d 171 Q 43 [vr v0, vn, vn, vn] [] sh R M 0 0 :=
  Go_wp (cuts := [(12, [1, 1, 0, 0]), (43, [1, 0, 0, 0])]) 8 43 mok171 rfl h
set_option maxRecDepth 20000 in
theorem b2_X12_readClaim_0 {d : Nat} {Q : RES} {sh : SHP} {R M : MEM} {v0 : Int}
    (h : ook sh 12 v0 (ook sh 12 v0 (ook sh 12 v0 (aok sh 100 (R v0 14) (M v0 37) (ook sh 12 v0 (ook sh 12 v0 (ook sh 12 v0 (ook sh 12 v0 (ook sh 12 v0 (aok sh 100 (R v0 14) (M v0 37) (ook sh 12 v0 (Cd d 173 [vr v0, vr (R v0 30), vi (imul 6 (M v0 37)), vi (M (R v0 14) (M v0 37))] sh R M 0 0 (fun (x1 : Int) (sh1 : SHP) (R1 M1 : MEM) => ook sh1 12 v0 (Cd d 175 [vr v0, vi x1] sh1 R1 M1 0 0 (fun (x2 : Int) (sh2 : SHP) (R2 M2 : MEM) => aok sh2 101 (R v0 30) (iadd (imul 6 (M v0 37)) (M (R v0 14) (M v0 37))) (ook sh2 12 v0 (Cd d 162 [vr v0, vl 24948] sh2 R2 (stm M2 (R v0 30) (iadd (imul 6 (M v0 37)) (M (R v0 14) (M v0 37))) x2) 0 0 (fun (x3 : Int) (sh3 : SHP) (R3 M3 : MEM) => (x3 = 0 ∨ x3 = 1) → ook sh3 12 v0 (Cd d 164 [vr v0, vi x3] sh3 R3 M3 0 0 (fun (_ : Int) (sh4 : SHP) (R4 M4 : MEM) => ook sh4 12 v0 (ook sh4 12 v0 (Cd d 176 [vr v0] sh4 R4 M4 0 0 (fun (x5 : Int) (sh5 : SHP) (R5 M5 : MEM) => aok sh5 100 (R4 v0 25) (iadd (imul 6 (M v0 37)) (M (R v0 14) (M v0 37))) (ook sh5 12 v0 (Cd d 157 [vr v0] sh5 R5 (stm M5 (R4 v0 25) (iadd (imul 6 (M v0 37)) (M (R v0 14) (M v0 37))) x5) 0 0 (fun (x6 : Int) (sh6 : SHP) (R6 M6 : MEM) => (x6 = 0 ∨ x6 = 1) → (if x6 = 0 then Go d 180 Q 63 [vr v0, vn] [] sh6 R6 M6 0 0 else ook sh6 12 v0 (ook sh6 12 v0 (ook sh6 12 v0 (aok sh6 100 (R6 v0 25) (iadd (imul 6 (M v0 37)) (M (R v0 14) (M v0 37))) (aok sh6 100 (R6 v0 17) (iadd (imul 10 (M6 v0 37)) (M6 (R6 v0 25) (iadd (imul 6 (M v0 37)) (M (R v0 14) (M v0 37))))) ((if (M6 (R6 v0 17) (iadd (imul 10 (M6 v0 37)) (M6 (R6 v0 25) (iadd (imul 6 (M v0 37)) (M (R v0 14) (M v0 37)))))) = 4 then Go d 180 Q 63 [vr v0, vn] [] sh6 R6 M6 0 0 else ook sh6 12 v0 (ook sh6 12 v0 (Cd d 156 [vr v0, vi 6, vi (M6 v0 6)] sh6 R6 M6 0 0 (fun (_ : Int) (sh7 : SHP) (R7 M7 : MEM) => Go d 180 Q 63 [vr v0, vn] [] sh7 R7 M7 0 0)))))))))))))))))))))))))))))))))))) :
    Go d 180 Q 0 [vr v0, vn] [] sh R M 0 0 :=
  Go_wp (cuts := [(63, [1, 0]), (68, [1, 0]), (78, [1, 0])]) 66 0 mok180 rfl h
set_option maxRecDepth 20000 in
theorem b2_X12_readClaim_63 {d : Nat} {Q : RES} {sh : SHP} {R M : MEM} {v0 : Int}
    (h : ook sh 12 v0 (Cd d 157 [vr v0] sh R M 0 0 (fun (x1 : Int) (sh1 : SHP) (R1 M1 : MEM) => (x1 = 0 ∨ x1 = 1) → (if x1 = 0 then Go d 180 Q 68 [vr v0, vn] [] sh1 R1 M1 0 0 else ook sh1 12 v0 (Cd d 160 [vr v0] sh1 R1 M1 0 0 (fun (_ : Int) (sh2 : SHP) (R2 M2 : MEM) => Go d 180 Q 68 [vr v0, vn] [] sh2 R2 M2 0 0)))))) :
    Go d 180 Q 63 [vr v0, vn] [] sh R M 0 0 :=
  Go_wp (cuts := [(63, [1, 0]), (68, [1, 0]), (78, [1, 0])]) 8 63 mok180 rfl h
set_option maxRecDepth 20000 in
theorem b2_X12_readClaim_68 {d : Nat} {Q : RES} {sh : SHP} {R M : MEM} {v0 : Int}
    (h : ook sh 12 v0 (Cd d 157 [vr v0] sh R M 0 0 (fun (x1 : Int) (sh1 : SHP) (R1 M1 : MEM) => (x1 = 0 ∨ x1 = 1) → (if x1 = 0 then Go d 180 Q 78 [vr v0, vn] [] sh1 R1 M1 0 0 else ook sh1 12 v0 (ook sh1 12 v0 (aok sh1 100 (R1 v0 14) (M1 v0 37) (ook sh1 12 v0 (Cd d 181 [vr v0, vi (M1 (R1 v0 14) (M1 v0 37))] sh1 R1 M1 0 0 (fun (_ : Int) (sh2 : SHP) (R2 M2 : MEM) => Go d 180 Q 78 [vr v0, vn] [] sh2 R2 M2 0 0))))))))) :
    Go d 180 Q 68 [vr v0, vn] [] sh R M 0 0 :=
  Go_wp (cuts := [(63, [1, 0]), (68, [1, 0]), (78, [1, 0])]) 13 68 mok180 rfl h
set_option maxRecDepth 20000 in
theorem b2_X12_readClaim_78 {d : Nat} {Q : RES} {sh : SHP} {R M : MEM} {v0 : Int}
    (h : ook sh 12 v0 (ook sh 12 v0 (aok sh 100 (R v0 14) (M v0 37) (aok sh 100 (R v0 14) (M v0 37) (Q 0 sh R (stm M (R v0 14) (M v0 37) (iadd (M (R v0 14) (M v0 37)) 1))))))) :
    Go d 180 Q 78 [vr v0, vn] [] sh R M 0 0 :=
  Go_wp (cuts := [(63, [1, 0]), (68, [1, 0]), (78, [1, 0])]) 12 78 mok180 rfl h
set_option maxRecDepth 20000 in
theorem b2_X12_unit_0 {d : Nat} {Q : RES} {sh : SHP} {R M : MEM} {v0 : Int}
    (h : ook sh 12 v0 (ook sh 12 v0 (aok sh 100 (R v0 33) (isub (M v0 40) 1) ((if 3 < (M (R v0 33) (isub (M v0 40) 1)) then ook sh 12 v0 (ook sh 12 v0 (aok sh 100 (R v0 33) (isub (M v0 40) 1) ((if (M (R v0 33) (isub (M v0 40) 1)) < 7 then Go d 186 Q 32 [vr v0, vn, vi 0, vn, vn, vn, vn] [] sh R M 0 0 else ook sh 12 v0 (Cd d 162 [vr v0, vl 7237492] sh R M 0 0 (fun (x2 : Int) (sh2 : SHP) (R2 M2 : MEM) => (x2 = 0 ∨ x2 = 1) → (if x2 = 0 then Go d 186 Q 32 [vr v0, vn, vi 0, vn, vn, vn, vn] [] sh2 R2 M2 0 0 else Go d 186 Q 32 [vr v0, vn, vi 1, vn, vn, vn, vn] [] sh2 R2 M2 0 0))))))) else ook sh 12 v0 (Cd d 162 [vr v0, vl 7237492] sh R M 0 0 (fun (x1 : Int) (sh1 : SHP) (R1 M1 : MEM) => (x1 = 0 ∨ x1 = 1) → (if x1 = 0 then Go d 186 Q 32 [vr v0, vn, vi 0, vn, vn, vn, vn] [] sh1 R1 M1 0 0 else Go d 186 Q 32 [vr v0, vn, vi 1, vn, vn, vn, vn] [] sh1 R1 M1 0 0)))))))) :
    Go d 186 Q 0 [vr v0, vn, vn, vn, vn, vn, vn] [] sh R M 0 0 :=
  Go_wp (cuts := [(32, [1, 0, 1, 0, 0, 0, 0]), (44, [1, 0, 1, 1, 1, 0, 0]), (59, [1, 0, 1, 1, 1, 1, 0]), (69, [1, 0, 1, 1, 1, 1, 0]), (71, [1, 0, 1, 1, 1, 0, 0]), (75, [1, 0, 1, 1, 1, 0, 0]), (79, [1, 0, 1, 1, 1, 0, 0]), (81, [1, 0, 1, 1, 1, 0, 0]), (94, [1, 0, 1, 1, 1, 0, 0]), (112, [1, 0, 1, 1, 1, 0, 0]), (122, [1, 0, 1, 1, 1, 0, 0]), (130, [1, 0, 1, 1, 1, 0, 1])]) 33 0 mok186 rfl h
set_option maxRecDepth 20000 in
theorem b2_X12_unit_32 {d : Nat} {Q : RES} {sh : SHP} {R M : MEM} {v0 v2 : Int}
    (h : ook sh 12 v0 (Cd d 161 [vr v0, vi 40] sh R M 0 0 (fun (x1 : Int) (sh1 : SHP) (R1 M1 : MEM) => (x1 = 0 ∨ x1 = 1) → ook sh1 12 v0 ((if (M1 v0 8) = 2 then Go d 186 Q 44 [vr v0, vn, vi v2, vi x1, vi 1, vn, vn] [] sh1 R1 M1 0 0 else Go d 186 Q 44 [vr v0, vn, vi v2, vi x1, vi 0, vn, vn] [] sh1 R1 M1 0 0))))) :
    Go d 186 Q 32 [vr v0, vn, vi v2, vn, vn, vn, vn] [] sh R M 0 0 :=
  Go_wp (cuts := [(32, [1, 0, 1, 0, 0, 0, 0]), (44, [1, 0, 1, 1, 1, 0, 0]), (59, [1, 0, 1, 1, 1, 1, 0]), (69, [1, 0, 1, 1, 1, 1, 0]), (71, [1, 0, 1, 1, 1, 0, 0]), (75, [1, 0, 1, 1, 1, 0, 0]), (79, [1, 0, 1, 1, 1, 0, 0]), (81, [1, 0, 1, 1, 1, 0, 0]), (94, [1, 0, 1, 1, 1, 0, 0]), (112, [1, 0, 1, 1, 1, 0, 0]), (122, [1, 0, 1, 1, 1, 0, 0]), (130, [1, 0, 1, 1, 1, 0, 1])]) 14 32 mok186 rfl h
set_option maxRecDepth 20000 in
theorem b2_X12_unit_44 {d : Nat} {Q : RES} {sh : SHP} {R M : MEM} {v0 v2 v3 v4 : Int}
    (h : ook sh 12 v0 (ook sh 12 v0 (aok sh 100 (R v0 15) (M v0 37) ((if (M (R v0 15) (M v0 37)) = 90 then Go d 186 Q 59 [vr v0, vn, vi v2, vi v3, vi v4, vi 1, vn] [] sh R M 0 0 else ook sh 12 v0 ((if (M v0 41) = 30 then Go d 186 Q 59 [vr v0, vn, vi v2, vi v3, vi v4, vi 1, vn] [] sh R M 0 0 else Go d 186 Q 59 [vr v0, vn, vi v2, vi v3, vi v4, vi 0, vn] [] sh R M 0 0))))))) :
    Go d 186 Q 44 [vr v0, vn, vi v2, vi v3, vi v4, vn, vn] [] sh R M 0 0 :=
  Go_wp (cuts := [(32, [1, 0, 1, 0, 0, 0, 0]), (44, [1, 0, 1, 1, 1, 0, 0]), (59, [1, 0, 1, 1, 1, 1, 0]), (69, [1, 0, 1, 1, 1, 1, 0]), (71, [1, 0, 1, 1, 1, 0, 0]), (75, [1, 0, 1, 1, 1, 0, 0]), (79, [1, 0, 1, 1, 1, 0, 0]), (81, [1, 0, 1, 1, 1, 0, 0]), (94, [1, 0, 1, 1, 1, 0, 0]), (112, [1, 0, 1, 1, 1, 0, 0]), (122, [1, 0, 1, 1, 1, 0, 0]), (130, [1, 0, 1, 1, 1, 0, 1])]) 17 44 mok186 rfl h
set_option maxRecDepth 20000 in
theorem b2_X12_unit_59 {d : Nat} {Q : RES} {sh : SHP} {R M : MEM} {v0 v2 v3 v4 v5 : Int}
    (h : (if v2 = 0 then (if v4 = 0 then ook sh 12 v0 ((if (M v0 8) = 4 then Go d 186 Q 69 [vr v0, vn, vi v2, vi v3, vi v4, vi v5, vn] [] sh R M 0 0 else (if v3 = 0 then Go d 186 Q 79 [vr v0, vn, vi v2, vi v3, vi v4, vn, vn] [] sh R M 0 0 else Go d 186 Q 69 [vr v0, vn, vi v2, vi v3, vi v4, vi v5, vn] [] sh R M 0 0))) else Go d 186 Q 69 [vr v0, vn, vi v2, vi v3, vi v4, vi v5, vn] [] sh R M 0 0) else Go d 186 Q 71 [vr v0, vn, vi v2, vi v3, vi v4, vn, vn] [] sh R M 0 0)) :
    Go d 186 Q 59 [vr v0, vn, vi v2, vi v3, vi v4, vi v5, vn] [] sh R M 0 0 :=
  Go_wp (cuts := [(32, [1, 0, 1, 0, 0, 0, 0]), (44, [1, 0, 1, 1, 1, 0, 0]), (59, [1, 0, 1, 1, 1, 1, 0]), (69, [1, 0, 1, 1, 1, 1, 0]), (71, [1, 0, 1, 1, 1, 0, 0]), (75, [1, 0, 1, 1, 1, 0, 0]), (79, [1, 0, 1, 1, 1, 0, 0]), (81, [1, 0, 1, 1, 1, 0, 0]), (94, [1, 0, 1, 1, 1, 0, 0]), (112, [1, 0, 1, 1, 1, 0, 0]), (122, [1, 0, 1, 1, 1, 0, 0]), (130, [1, 0, 1, 1, 1, 0, 1])]) 13 59 mok186 rfl h
set_option maxRecDepth 20000 in
theorem b2_X12_unit_69 {d : Nat} {Q : RES} {sh : SHP} {R M : MEM} {v0 v2 v3 v4 v5 : Int}
    (h : (if v5 = 0 then Go d 186 Q 71 [vr v0, vn, vi v2, vi v3, vi v4, vn, vn] [] sh R M 0 0 else Go d 186 Q 79 [vr v0, vn, vi v2, vi v3, vi v4, vn, vn] [] sh R M 0 0)) :
    Go d 186 Q 69 [vr v0, vn, vi v2, vi v3, vi v4, vi v5, vn] [] sh R M 0 0 :=
  Go_wp (cuts := [(32, [1, 0, 1, 0, 0, 0, 0]), (44, [1, 0, 1, 1, 1, 0, 0]), (59, [1, 0, 1, 1, 1, 1, 0]), (69, [1, 0, 1, 1, 1, 1, 0]), (71, [1, 0, 1, 1, 1, 0, 0]), (75, [1, 0, 1, 1, 1, 0, 0]), (79, [1, 0, 1, 1, 1, 0, 0]), (81, [1, 0, 1, 1, 1, 0, 0]), (94, [1, 0, 1, 1, 1, 0, 0]), (112, [1, 0, 1, 1, 1, 0, 0]), (122, [1, 0, 1, 1, 1, 0, 0]), (130, [1, 0, 1, 1, 1, 0, 1])]) 5 69 mok186 rfl h
set_option maxRecDepth 20000 in
theorem b2_X12_unit_71 {d : Nat} {Q : RES} {sh : SHP} {R M : MEM} {v0 v2 v3 v4 : Int}
    (h : (if v2 = 0 then (if v3 = 0 then Go d 186 Q 81 [vr v0, vn, vi v2, vi v3, vi v4, vn, vn] [] sh R M 0 0 else Go d 186 Q 75 [vr v0, vn, vi v2, vi v3, vi v4, vn, vn] [] sh R M 0 0) else Go d 186 Q 75 [vr v0, vn, vi v2, vi v3, vi v4, vn, vn] [] sh R M 0 0)) :
    Go d 186 Q 71 [vr v0, vn, vi v2, vi v3, vi v4, vn, vn] [] sh R M 0 0 :=
  Go_wp (cuts := [(32, [1, 0, 1, 0, 0, 0, 0]), (44, [1, 0, 1, 1, 1, 0, 0]), (59, [1, 0, 1, 1, 1, 1, 0]), (69, [1, 0, 1, 1, 1, 1, 0]), (71, [1, 0, 1, 1, 1, 0, 0]), (75, [1, 0, 1, 1, 1, 0, 0]), (79, [1, 0, 1, 1, 1, 0, 0]), (81, [1, 0, 1, 1, 1, 0, 0]), (94, [1, 0, 1, 1, 1, 0, 0]), (112, [1, 0, 1, 1, 1, 0, 0]), (122, [1, 0, 1, 1, 1, 0, 0]), (130, [1, 0, 1, 1, 1, 0, 1])]) 7 71 mok186 rfl h
set_option maxRecDepth 20000 in
theorem b2_X12_unit_75 {d : Nat} {Q : RES} {sh : SHP} {R M : MEM} {v0 v2 v3 v4 : Int}
    (h : ook sh 12 v0 ((if (M v0 39) = 7 then Go d 186 Q 79 [vr v0, vn, vi v2, vi v3, vi v4, vn, vn] [] sh R M 0 0 else Go d 186 Q 81 [vr v0, vn, vi v2, vi v3, vi v4, vn, vn] [] sh R M 0 0))) :
    Go d 186 Q 75 [vr v0, vn, vi v2, vi v3, vi v4, vn, vn] [] sh R M 0 0 :=
  Go_wp (cuts := [(32, [1, 0, 1, 0, 0, 0, 0]), (44, [1, 0, 1, 1, 1, 0, 0]), (59, [1, 0, 1, 1, 1, 1, 0]), (69, [1, 0, 1, 1, 1, 1, 0]), (71, [1, 0, 1, 1, 1, 0, 0]), (75, [1, 0, 1, 1, 1, 0, 0]), (79, [1, 0, 1, 1, 1, 0, 0]), (81, [1, 0, 1, 1, 1, 0, 0]), (94, [1, 0, 1, 1, 1, 0, 0]), (112, [1, 0, 1, 1, 1, 0, 0]), (122, [1, 0, 1, 1, 1, 0, 0]), (130, [1, 0, 1, 1, 1, 0, 1])]) 7 75 mok186 rfl h
set_option maxRecDepth 20000 in
theorem b2_X12_unit_79 {d : Nat} {Q : RES} {sh : SHP} {R M : MEM} {v0 v2 v3 v4 : Int}
    (h : ook sh 12 v0 (Cd d 163 [vr v0] sh R M 0 0 (fun (_ : Int) (sh1 : SHP) (R1 M1 : MEM) => Go d 186 Q 81 [vr v0, vn, vi v2, vi v3, vi v4, vn, vn] [] sh1 R1 M1 0 0))) :
    Go d 186 Q 79 [vr v0, vn, vi v2, vi v3, vi v4, vn, vn] [] sh R M 0 0 :=
  Go_wp (cuts := [(32, [1, 0, 1, 0, 0, 0, 0]), (44, [1, 0, 1, 1, 1, 0, 0]), (59, [1, 0, 1, 1, 1, 1, 0]), (69, [1, 0, 1, 1, 1, 1, 0]), (71, [1, 0, 1, 1, 1, 0, 0]), (75, [1, 0, 1, 1, 1, 0, 0]), (79, [1, 0, 1, 1, 1, 0, 0]), (81, [1, 0, 1, 1, 1, 0, 0]), (94, [1, 0, 1, 1, 1, 0, 0]), (112, [1, 0, 1, 1, 1, 0, 0]), (122, [1, 0, 1, 1, 1, 0, 0]), (130, [1, 0, 1, 1, 1, 0, 1])]) 5 79 mok186 rfl h
set_option maxRecDepth 20000 in
theorem b2_X12_unit_81 {d : Nat} {Q : RES} {sh : SHP} {R M : MEM} {v0 v2 v3 v4 : Int}
    (h : ook sh 12 v0 (Cd d 157 [vr v0] sh R M 0 0 (fun (x1 : Int) (sh1 : SHP) (R1 M1 : MEM) => (x1 = 0 ∨ x1 = 1) → (if x1 = 0 then Go d 186 Q 94 [vr v0, vn, vi v2, vi v3, vi v4, vn, vn] [] sh1 R1 M1 0 0 else (if v4 = 0 then Go d 186 Q 94 [vr v0, vn, vi v2, vi v3, vi v4, vn, vn] [] sh1 R1 M1 0 0 else ook sh1 12 v0 (Cd d 185 [vr v0] sh1 R1 M1 0 0 (fun (x2 : Int) (sh2 : SHP) (R2 M2 : MEM) => (if x2 < 0 then ook sh2 12 v0 (ook sh2 12 v0 (Cd d 156 [vr v0, vi 5, vi (M2 v0 6)] sh2 R2 M2 0 0 (fun (_ : Int) (sh3 : SHP) (R3 M3 : MEM) => Go d 186 Q 94 [vr v0, vn, vi v2, vi v3, vi v4, vn, vn] [] sh3 R3 M3 0 0))) else Go d 186 Q 94 [vr v0, vn, vi v2, vi v3, vi v4, vn, vn] [] sh2 R2 M2 0 0)))))))) :
    Go d 186 Q 81 [vr v0, vn, vi v2, vi v3, vi v4, vn, vn] [] sh R M 0 0 :=
  Go_wp (cuts := [(32, [1, 0, 1, 0, 0, 0, 0]), (44, [1, 0, 1, 1, 1, 0, 0]), (59, [1, 0, 1, 1, 1, 1, 0]), (69, [1, 0, 1, 1, 1, 1, 0]), (71, [1, 0, 1, 1, 1, 0, 0]), (75, [1, 0, 1, 1, 1, 0, 0]), (79, [1, 0, 1, 1, 1, 0, 0]), (81, [1, 0, 1, 1, 1, 0, 0]), (94, [1, 0, 1, 1, 1, 0, 0]), (112, [1, 0, 1, 1, 1, 0, 0]), (122, [1, 0, 1, 1, 1, 0, 0]), (130, [1, 0, 1, 1, 1, 0, 1])]) 16 81 mok186 rfl h
set_option maxRecDepth 20000 in
theorem b2_X12_unit_94 {d : Nat} {Q : RES} {sh : SHP} {R M : MEM} {v0 v2 v3 v4 : Int}
    (h : ook sh 12 v0 (Cd d 157 [vr v0] sh R M 0 0 (fun (x1 : Int) (sh1 : SHP) (R1 M1 : MEM) => (x1 = 0 ∨ x1 = 1) → (if x1 = 0 then Q 1 sh1 R1 M1 else ook sh1 12 v0 (ook sh1 12 v0 (aok sh1 100 (R1 v0 15) (M1 v0 37) ((if v2 = 0 then aok sh1 100 (R1 v0 15) (M1 v0 37) (Go d 186 Q 112 [vr v0, vn, vi v2, vi v3, vi v4, vn, vn] [] sh1 R1 (stm M1 (R1 v0 15) (M1 v0 37) (iadd (M1 (R1 v0 15) (M1 v0 37)) 1)) 0 0) else aok sh1 100 (R1 v0 15) (M1 v0 37) (Go d 186 Q 112 [vr v0, vn, vi v2, vi v3, vi v4, vn, vn] [] sh1 R1 (stm M1 (R1 v0 15) (M1 v0 37) (iadd (M1 (R1 v0 15) (M1 v0 37)) 0)) 0 0))))))))) :
    Go d 186 Q 94 [vr v0, vn, vi v2, vi v3, vi v4, vn, vn] [] sh R M 0 0 :=
  Go_wp (cuts := [(32, [1, 0, 1, 0, 0, 0, 0]), (44, [1, 0, 1, 1, 1, 0, 0]), (59, [1, 0, 1, 1, 1, 1, 0]), (69, [1, 0, 1, 1, 1, 1, 0]), (71, [1, 0, 1, 1, 1, 0, 0]), (75, [1, 0, 1, 1, 1, 0, 0]), (79, [1, 0, 1, 1, 1, 0, 0]), (81, [1, 0, 1, 1, 1, 0, 0]), (94, [1, 0, 1, 1, 1, 0, 0]), (112, [1, 0, 1, 1, 1, 0, 0]), (122, [1, 0, 1, 1, 1, 0, 0]), (130, [1, 0, 1, 1, 1, 0, 1])]) 18 94 mok186 rfl h
set_option maxRecDepth 20000 in
theorem b2_X12_unit_112 {d : Nat} {Q : RES} {sh : SHP} {R M : MEM} {v0 v2 v3 v4 : Int}
    (h : ook sh 12 v0 ((if v2 = 0 then ook sh 12 v0 (Go d 186 Q 122 [vr v0, vn, vi v2, vi v3, vi v4, vn, vn] [] sh R (stm M v0 41 (iadd (M v0 41) 1)) 0 0) else ook sh 12 v0 (Go d 186 Q 122 [vr v0, vn, vi v2, vi v3, vi v4, vn, vn] [] sh R (stm M v0 41 (iadd (M v0 41) 0)) 0 0)))) :
    Go d 186 Q 112 [vr v0, vn, vi v2, vi v3, vi v4, vn, vn] [] sh R M 0 0 :=
  Go_wp (cuts := [(32, [1, 0, 1, 0, 0, 0, 0]), (44, [1, 0, 1, 1, 1, 0, 0]), (59, [1, 0, 1, 1, 1, 1, 0]), (69, [1, 0, 1, 1, 1, 1, 0]), (71, [1, 0, 1, 1, 1, 0, 0]), (75, [1, 0, 1, 1, 1, 0, 0]), (79, [1, 0, 1, 1, 1, 0, 0]), (81, [1, 0, 1, 1, 1, 0, 0]), (94, [1, 0, 1, 1, 1, 0, 0]), (112, [1, 0, 1, 1, 1, 0, 0]), (122, [1, 0, 1, 1, 1, 0, 0]), (130, [1, 0, 1, 1, 1, 0, 1])]) 12 112 mok186 rfl h
set_option maxRecDepth 20000 in
theorem b2_X12_unit_122 {d : Nat} {Q : RES} {sh : SHP} {R M : MEM} {v0 v2 v3 v4 : Int}
    (h : (if v4 = 0 then ook sh 12 v0 (Go d 186 Q 130 [vr v0, vn, vi v2, vi v3, vi v4, vn, vi (M v0 9)] [] sh R M 0 0) else ook sh 12 v0 (Cd d 185 [vr v0] sh R M 0 0 (fun (x1 : Int) (sh1 : SHP) (R1 M1 : MEM) => Go d 186 Q 130 [vr v0, vn, vi v2, vi v3, vi v4, vn, vi x1] [] sh1 R1 M1 0 0)))) :
    Go d 186 Q 122 [vr v0, vn, vi v2, vi v3, vi v4, vn, vn] [] sh R M 0 0 :=
  Go_wp (cuts := [(32, [1, 0, 1, 0, 0, 0, 0]), (44, [1, 0, 1, 1, 1, 0, 0]), (59, [1, 0, 1, 1, 1, 1, 0]), (69, [1, 0, 1, 1, 1, 1, 0]), (71, [1, 0, 1, 1, 1, 0, 0]), (75, [1, 0, 1, 1, 1, 0, 0]), (79, [1, 0, 1, 1, 1, 0, 0]), (81, [1, 0, 1, 1, 1, 0, 0]), (94, [1, 0, 1, 1, 1, 0, 0]), (112, [1, 0, 1, 1, 1, 0, 0]), (122, [1, 0, 1, 1, 1, 0, 0]), (130, [1, 0, 1, 1, 1, 0, 1])]) 9 122 mok186 rfl h
set_option maxRecDepth 20000 in
theorem b2_X12_unit_130 {d : Nat} {Q : RES} {sh : SHP} {R M : MEM} {v0 v2 v3 v4 v6 : Int}
    (h : ook sh 12 v0 (Cd d 160 [vr v0] sh R M 0 0 (fun (_ : Int) (sh1 : SHP) (R1 M1 : MEM) => (if v2 = 0 then (if v3 = 0 then (if v4 = 0 then ook sh1 12 v0 (Cd d 182 [vr v0, vi 110, vi v6] sh1 R1 M1 0 0 (fun (_ : Int) (sh4 : SHP) (R4 M4 : MEM) => Q 0 sh4 R4 M4)) else ook sh1 12 v0 (Cd d 182 [vr v0, vi 115, vi v6] sh1 R1 M1 0 0 (fun (_ : Int) (sh5 : SHP) (R5 M5 : MEM) => Q 0 sh5 R5 M5))) else (if v2 = 0 then ook sh1 12 v0 (Cd d 183 [vr v0, vi 7, vi 126] sh1 R1 M1 0 0 (fun (_ : Int) (sh6 : SHP) (R6 M6 : MEM) => ook sh6 12 v0 (ook sh6 12 v0 (Q 1 sh6 R6 (stm M6 v0 39 (iadd (M6 v0 39) 1)))))) else ook sh1 12 v0 (Cd d 183 [vr v0, vi 3, vi 126] sh1 R1 M1 0 0 (fun (_ : Int) (sh7 : SHP) (R7 M7 : MEM) => ook sh7 12 v0 (ook sh7 12 v0 (Q 1 sh7 R7 (stm M7 v0 39 (iadd (M7 v0 39) 1)))))))) else (if v2 = 0 then ook sh1 12 v0 (Cd d 183 [vr v0, vi 7, vi 126] sh1 R1 M1 0 0 (fun (_ : Int) (sh2 : SHP) (R2 M2 : MEM) => ook sh2 12 v0 (ook sh2 12 v0 (Q 1 sh2 R2 (stm M2 v0 39 (iadd (M2 v0 39) 1)))))) else ook sh1 12 v0 (Cd d 183 [vr v0, vi 3, vi 126] sh1 R1 M1 0 0 (fun (_ : Int) (sh3 : SHP) (R3 M3 : MEM) => ook sh3 12 v0 (ook sh3 12 v0 (Q 1 sh3 R3 (stm M3 v0 39 (iadd (M3 v0 39) 1))))))))))) :
    Go d 186 Q 130 [vr v0, vn, vi v2, vi v3, vi v4, vn, vi v6] [] sh R M 0 0 :=
  Go_wp (cuts := [(32, [1, 0, 1, 0, 0, 0, 0]), (44, [1, 0, 1, 1, 1, 0, 0]), (59, [1, 0, 1, 1, 1, 1, 0]), (69, [1, 0, 1, 1, 1, 1, 0]), (71, [1, 0, 1, 1, 1, 0, 0]), (75, [1, 0, 1, 1, 1, 0, 0]), (79, [1, 0, 1, 1, 1, 0, 0]), (81, [1, 0, 1, 1, 1, 0, 0]), (94, [1, 0, 1, 1, 1, 0, 0]), (112, [1, 0, 1, 1, 1, 0, 0]), (122, [1, 0, 1, 1, 1, 0, 0]), (130, [1, 0, 1, 1, 1, 0, 1])]) 23 130 mok186 rfl h
set_option maxRecDepth 20000 in
theorem b2_X12_behindUnit_0 {d : Nat} {Q : RES} {sh : SHP} {R M : MEM} {v0 : Int}
    (h : ook sh 12 v0 (Cd d 187 [vr v0] sh R M 0 0 (fun (x1 : Int) (sh1 : SHP) (R1 M1 : MEM) => (if x1 = 4 then ook sh1 12 v0 (Cd d 188 [vr v0] sh1 R1 M1 0 0 (fun (x2 : Int) (sh2 : SHP) (R2 M2 : MEM) => (x2 = 0 ∨ x2 = 1) → (if x2 = 0 then Go d 189 Q 13 [vr v0, vi x1] [] sh2 R2 M2 0 0 else ook sh2 12 v0 (Cd d 163 [vr v0] sh2 R2 M2 0 0 (fun (_ : Int) (sh3 : SHP) (R3 M3 : MEM) => Q 1 sh3 R3 M3))))) else Go d 189 Q 13 [vr v0, vi x1] [] sh1 R1 M1 0 0)))) :
    Go d 189 Q 0 [vr v0, vn] [] sh R M 0 0 :=
  Go_wp (cuts := [(13, [1, 1]), (50, [1, 1]), (59, [1, 1])]) 15 0 mok189 rfl h
set_option maxRecDepth 20000 in
theorem b2_X12_behindUnit_13 {d : Nat} {Q : RES} {sh : SHP} {R M : MEM} {v0 v1 : Int}
    (h : ook sh 12 v0 (ook sh 12 v0 (aok sh 100 (R v0 33) (isub (M v0 40) 1) ((if 6 < (M (R v0 33) (isub (M v0 40) 1)) then Go d 189 Q 59 [vr v0, vi v1] [] sh R M 0 0 else ook sh 12 v0 (ook sh 12 v0 (aok sh 100 (R v0 33) (isub (M v0 40) 1) ((if (M (R v0 33) (isub (M v0 40) 1)) < v1 then Go d 189 Q 59 [vr v0, vi v1] [] sh R M 0 0 else ook sh 12 v0 (ook sh 12 v0 (ook sh 12 v0 (ook sh 12 v0 (aok sh 100 (R v0 33) ((stm M v0 40 (isub (M v0 40) 1)) v0 40) ((if ((stm M v0 40 (isub (M v0 40) 1)) (R v0 33) ((stm M v0 40 (isub (M v0 40) 1)) v0 40)) = 3 then ook sh 12 v0 (ook sh 12 v0 (Go d 189 Q 50 [vr v0, vi v1] [] sh R (stm (stm M v0 40 (isub (M v0 40) 1)) v0 39 (isub ((stm M v0 40 (isub (M v0 40) 1)) v0 39) 1)) 0 0)) else Go d 189 Q 50 [vr v0, vi v1] [] sh R (stm M v0 40 (isub (M v0 40) 1)) 0 0))))))))))))))) :
    Go d 189 Q 13 [vr v0, vi v1] [] sh R M 0 0 :=
  Go_wp (cuts := [(13, [1, 1]), (50, [1, 1]), (59, [1, 1])]) 40 13 mok189 rfl h
set_option maxRecDepth 20000 in
theorem b2_X12_behindUnit_50 {d : Nat} {Q : RES} {sh : SHP} {R M : MEM} {v0 v1 : Int}
    (h : ook sh 12 v0 (ook sh 12 v0 (aok sh 100 (R v0 34) (M v0 40) (ook sh 12 v0 (Cd d 182 [vr v0, vi (M (R v0 34) (M v0 40)), vi 0] sh R M 0 0 (fun (_ : Int) (sh1 : SHP) (R1 M1 : MEM) => Go d 189 Q 13 [vr v0, vi v1] [] sh1 R1 M1 0 0)))))) :
    Go d 189 Q 50 [vr v0, vi v1] [] sh R M 0 0 :=
  Go_wp (cuts := [(13, [1, 1]), (50, [1, 1]), (59, [1, 1])]) 12 50 mok189 rfl h
set_option maxRecDepth 20000 in
theorem b2_X12_behindUnit_59 {d : Nat} {Q : RES} {sh : SHP} {R M : MEM} {v0 v1 : Int}
    (h : (if 0 < v1 then (if v1 = 2 then ook sh 12 v0 (Cd d 183 [vr v0, vi v1, vi 38] sh R M 0 0 (fun (_ : Int) (sh8 : SHP) (R8 M8 : MEM) => ook sh8 12 v0 (Cd d 160 [vr v0] sh8 R8 M8 0 0 (fun (_ : Int) (sh9 : SHP) (R9 M9 : MEM) => Q 1 sh9 R9 M9)))) else (if v1 = 1 then ook sh 12 v0 (Cd d 183 [vr v0, vi v1, vi 124] sh R M 0 0 (fun (_ : Int) (sh6 : SHP) (R6 M6 : MEM) => ook sh6 12 v0 (Cd d 160 [vr v0] sh6 R6 M6 0 0 (fun (_ : Int) (sh7 : SHP) (R7 M7 : MEM) => Q 1 sh7 R7 M7)))) else ook sh 12 v0 (ook sh 12 v0 (Cd d 153 [vr v0, vi (M v0 6)] sh R M 0 0 (fun (x3 : Int) (sh3 : SHP) (R3 M3 : MEM) => ook sh3 12 v0 (Cd d 183 [vr v0, vi v1, vi x3] sh3 R3 M3 0 0 (fun (_ : Int) (sh4 : SHP) (R4 M4 : MEM) => ook sh4 12 v0 (Cd d 160 [vr v0] sh4 R4 M4 0 0 (fun (_ : Int) (sh5 : SHP) (R5 M5 : MEM) => Q 1 sh5 R5 M5))))))))) else ook sh 12 v0 (ook sh 12 v0 (ook sh 12 v0 (ook sh 12 v0 (aok sh 100 (R v0 33) ((stm M v0 40 (isub (M v0 40) 1)) v0 40) ((if ((stm M v0 40 (isub (M v0 40) 1)) (R v0 33) ((stm M v0 40 (isub (M v0 40) 1)) v0 40)) = 7 then ook sh 12 v0 (ook sh 12 v0 (ook sh 12 v0 (Cd d 161 [vr v0, vi 41] sh R (stm (stm M v0 40 (isub (M v0 40) 1)) v0 39 (isub ((stm M v0 40 (isub (M v0 40) 1)) v0 39) 1)) 0 0 (fun (x1 : Int) (sh1 : SHP) (R1 M1 : MEM) => (x1 = 0 ∨ x1 = 1) → ook sh1 12 v0 (Cd d 164 [vr v0, vi x1] sh1 R1 M1 0 0 (fun (_ : Int) (sh2 : SHP) (R2 M2 : MEM) => Q 0 sh2 R2 M2)))))) else Q 0 sh R (stm M v0 40 (isub (M v0 40) 1)))))))))) :
    Go d 189 Q 59 [vr v0, vi v1] [] sh R M 0 0 :=
  Go_wp (cuts := [(13, [1, 1]), (50, [1, 1]), (59, [1, 1])]) 30 59 mok189 rfl h
