/-! MORE BLOCKS: cut where ways meet again -/
set_option maxRecDepth 20000 in
theorem b2_X12_countBegun_0 {d : Nat} {Q : RES} {sh : SHP} {R M : MEM} {v0 v1 v2 : Int}
    (h : ook sh 12 v0 (Cd d 204 [vr v0] sh R M 0 0 (fun (_ : Int) (sh1 : SHP) (R1 M1 : MEM) => ook sh1 12 v0 (Cd d 232 [vr v0] sh1 R1 M1 0 0 (fun (_ : Int) (sh2 : SHP) (R2 M2 : MEM) => Go d 269 Q 8 [vr v0, vi v1, vi v2, vi 0, vi 0, vn] [] sh2 R2 M2 0 0))))) :
    Go d 269 Q 0 [vr v0, vi v1, vi v2, vn, vn, vn] [] sh R M 0 0 :=
  Go_wp (cuts := [(8, [1, 1, 1, 1, 1, 0]), (24, [1, 1, 1, 1, 1, 1]), (38, [1, 1, 1, 1, 1, 1]), (57, [1, 1, 1, 1, 1, 1]), (76, [1, 1, 1, 1, 1, 1])]) 11 0 mok269 rfl h
set_option maxRecDepth 20000 in
theorem b2_X12_countBegun_8 {d : Nat} {Q : RES} {sh : SHP} {R M : MEM} {v0 v1 v2 v3 v4 : Int}
    (h : ook sh 12 v0 (Cd d 234 [vr v0, vi v1] sh R M 0 0 (fun (x1 : Int) (sh1 : SHP) (R1 M1 : MEM) => (if v4 < x1 then ook sh1 12 v0 (Cd d 235 [vr v0, vi v4, vi v1] sh1 R1 M1 0 0 (fun (_ : Int) (sh4 : SHP) (R4 M4 : MEM) => ook sh4 12 v0 (Cd d 268 [vr v0, vi v2] sh4 R4 M4 0 0 (fun (x5 : Int) (sh5 : SHP) (R5 M5 : MEM) => (x5 = 0 ∨ x5 = 1) → (if x5 = 0 then Go d 269 Q 8 [vr v0, vi v1, vi v2, vi v3, vi (iadd v4 1), vn] [] sh5 R5 M5 0 0 else Go d 269 Q 24 [vr v0, vi v1, vi v2, vi v3, vi v4, vi 0] [] sh5 R5 M5 0 0))))) else ook sh1 12 v0 (Cd d 233 [vr v0] sh1 R1 M1 0 0 (fun (_ : Int) (sh2 : SHP) (R2 M2 : MEM) => ook sh2 12 v0 (Cd d 205 [vr v0] sh2 R2 M2 0 0 (fun (_ : Int) (sh3 : SHP) (R3 M3 : MEM) => Q v3 sh3 R3 M3)))))))) :
    Go d 269 Q 8 [vr v0, vi v1, vi v2, vi v3, vi v4, vn] [] sh R M 0 0 :=
  Go_wp (cuts := [(8, [1, 1, 1, 1, 1, 0]), (24, [1, 1, 1, 1, 1, 1]), (38, [1, 1, 1, 1, 1, 1]), (57, [1, 1, 1, 1, 1, 1]), (76, [1, 1, 1, 1, 1, 1])]) 19 8 mok269 rfl h
set_option maxRecDepth 20000 in
theorem b2_X12_countBegun_24 {d : Nat} {Q : RES} {sh : SHP} {R M : MEM} {v0 v1 v2 v3 v4 v5 : Int}
    (h : ook sh 12 v0 (Cd d 196 [vr v0] sh R M 0 0 (fun (x1 : Int) (sh1 : SHP) (R1 M1 : MEM) => (if v5 < x1 then (if v3 = 0 then ook sh1 12 v0 (ook sh1 12 v0 (aok sh1 100 (R1 v0 46) v5 (aok sh1 100 (R1 v0 67) v5 (Go d 269 Q 38 [vr v0, vi v1, vi v2, vi v3, vi v4, vi v5] [] sh1 R1 (stm M1 (R1 v0 67) v5 (M1 (R1 v0 46) v5)) 0 0)))) else Go d 269 Q 38 [vr v0, vi v1, vi v2, vi v3, vi v4, vi v5] [] sh1 R1 M1 0 0) else Go d 269 Q 8 [vr v0, vi v1, vi v2, vi (iadd v3 1), vi (iadd v4 1), vn] [] sh1 R1 M1 0 0)))) :
    Go d 269 Q 24 [vr v0, vi v1, vi v2, vi v3, vi v4, vi v5] [] sh R M 0 0 :=
  Go_wp (cuts := [(8, [1, 1, 1, 1, 1, 0]), (24, [1, 1, 1, 1, 1, 1]), (38, [1, 1, 1, 1, 1, 1]), (57, [1, 1, 1, 1, 1, 1]), (76, [1, 1, 1, 1, 1, 1])]) 17 24 mok269 rfl h
set_option maxRecDepth 20000 in
theorem b2_X12_countBegun_38 {d : Nat} {Q : RES} {sh : SHP} {R M : MEM} {v0 v1 v2 v3 v4 v5 : Int}
    (h : (if v3 = 0 then ook sh 12 v0 (ook sh 12 v0 (aok sh 100 (R v0 46) v5 (aok sh 100 (R v0 68) v5 (Go d 269 Q 57 [vr v0, vi v1, vi v2, vi v3, vi v4, vi v5] [] sh R (stm M (R v0 68) v5 (M (R v0 46) v5)) 0 0)))) else ook sh 12 v0 (aok sh 100 (R v0 46) v5 (ook sh 12 v0 (aok sh 100 (R v0 68) v5 ((if (M (R v0 46) v5) < (M (R v0 68) v5) then ook sh 12 v0 (ook sh 12 v0 (aok sh 100 (R v0 46) v5 (aok sh 100 (R v0 68) v5 (Go d 269 Q 57 [vr v0, vi v1, vi v2, vi v3, vi v4, vi v5] [] sh R (stm M (R v0 68) v5 (M (R v0 46) v5)) 0 0)))) else Go d 269 Q 57 [vr v0, vi v1, vi v2, vi v3, vi v4, vi v5] [] sh R M 0 0))))))) :
    Go d 269 Q 38 [vr v0, vi v1, vi v2, vi v3, vi v4, vi v5] [] sh R M 0 0 :=
  Go_wp (cuts := [(8, [1, 1, 1, 1, 1, 0]), (24, [1, 1, 1, 1, 1, 1]), (38, [1, 1, 1, 1, 1, 1]), (57, [1, 1, 1, 1, 1, 1]), (76, [1, 1, 1, 1, 1, 1])]) 22 38 mok269 rfl h
set_option maxRecDepth 20000 in
theorem b2_X12_countBegun_57 {d : Nat} {Q : RES} {sh : SHP} {R M : MEM} {v0 v1 v2 v3 v4 v5 : Int}
    (h : (if v3 = 0 then ook sh 12 v0 (ook sh 12 v0 (aok sh 100 (R v0 46) v5 (aok sh 100 (R v0 69) v5 (Go d 269 Q 76 [vr v0, vi v1, vi v2, vi v3, vi v4, vi v5] [] sh R (stm M (R v0 69) v5 (M (R v0 46) v5)) 0 0)))) else ook sh 12 v0 (aok sh 100 (R v0 46) v5 (ook sh 12 v0 (aok sh 100 (R v0 69) v5 ((if (M (R v0 69) v5) < (M (R v0 46) v5) then ook sh 12 v0 (ook sh 12 v0 (aok sh 100 (R v0 46) v5 (aok sh 100 (R v0 69) v5 (Go d 269 Q 76 [vr v0, vi v1, vi v2, vi v3, vi v4, vi v5] [] sh R (stm M (R v0 69) v5 (M (R v0 46) v5)) 0 0)))) else Go d 269 Q 76 [vr v0, vi v1, vi v2, vi v3, vi v4, vi v5] [] sh R M 0 0))))))) :
    Go d 269 Q 57 [vr v0, vi v1, vi v2, vi v3, vi v4, vi v5] [] sh R M 0 0 :=
  Go_wp (cuts := [(8, [1, 1, 1, 1, 1, 0]), (24, [1, 1, 1, 1, 1, 1]), (38, [1, 1, 1, 1, 1, 1]), (57, [1, 1, 1, 1, 1, 1]), (76, [1, 1, 1, 1, 1, 1])]) 22 57 mok269 rfl h
set_option maxRecDepth 20000 in
theorem b2_X12_countBegun_76 {d : Nat} {Q : RES} {sh : SHP} {R M : MEM} {v0 v1 v2 v3 v4 v5 : Int}
    (h : Go d 269 Q 24 [vr v0, vi v1, vi v2, vi v3, vi v4, vi (iadd v5 1)] [] sh R M 0 0) :
    Go d 269 Q 76 [vr v0, vi v1, vi v2, vi v3, vi v4, vi v5] [] sh R M 0 0 :=
  Go_wp (cuts := [(8, [1, 1, 1, 1, 1, 0]), (24, [1, 1, 1, 1, 1, 1]), (38, [1, 1, 1, 1, 1, 1]), (57, [1, 1, 1, 1, 1, 1]), (76, [1, 1, 1, 1, 1, 1])]) 5 76 mok269 rfl h
set_option maxRecDepth 20000 in
theorem b2_X7_survey_0 {d : Nat} {Q : RES} {sh : SHP} {R M : MEM} {v0 v1 v2 v3 : Int}
    (h : ook sh 7 v0 (ook sh 4 v1 (Cd d 29 [vr v1, vi v2] sh R (stm M v0 8 0) 0 0 (fun (x1 : Int) (sh1 : SHP) (R1 M1 : MEM) => Go d 64 Q 9 [vr v0, vr v1, vi v2, vi v3, vi x1, vi 0, vn] [] sh1 R1 M1 0 0)))) :
    Go d 64 Q 0 [vr v0, vr v1, vi v2, vi v3, vn, vn, vn] [] sh R M 0 0 :=
  Go_wp (cuts := [(9, [1, 1, 1, 1, 1, 1, 0]), (25, [1, 1, 1, 1, 1, 1, 1]), (45, [1, 1, 1, 1, 1, 1, 1]), (69, [1, 1, 1, 1, 1, 1, 1])]) 12 0 mok64 rfl h
set_option maxRecDepth 20000 in
theorem b2_X7_survey_9 {d : Nat} {Q : RES} {sh : SHP} {R M : MEM} {v0 v1 v2 v3 v4 v5 : Int}
    (h : (if v5 < v4 then ook sh 7 v0 (ook sh 4 v1 (Cd d 30 [vr v1, vr (R v0 7), vi v2, vi v5] sh R M 0 0 (fun (_ : Int) (sh1 : SHP) (R1 M1 : MEM) => ook sh1 7 v0 (Cd d 65 [vr v0, vr v1, vi v3] sh1 R1 M1 0 0 (fun (x2 : Int) (sh2 : SHP) (R2 M2 : MEM) => (x2 = 0 ∨ x2 = 1) → (if x2 = 0 then Go d 64 Q 9 [vr v0, vr v1, vi v2, vi v3, vi v4, vi (iadd v5 1), vn] [] sh2 R2 M2 0 0 else Go d 64 Q 25 [vr v0, vr v1, vi v2, vi v3, vi v4, vi v5, vi 0] [] sh2 R2 M2 0 0)))))) else Q 0 sh R M)) :
    Go d 64 Q 9 [vr v0, vr v1, vi v2, vi v3, vi v4, vi v5, vn] [] sh R M 0 0 :=
  Go_wp (cuts := [(9, [1, 1, 1, 1, 1, 1, 0]), (25, [1, 1, 1, 1, 1, 1, 1]), (45, [1, 1, 1, 1, 1, 1, 1]), (69, [1, 1, 1, 1, 1, 1, 1])]) 19 9 mok64 rfl h
set_option maxRecDepth 20000 in
theorem b2_X7_survey_25 {d : Nat} {Q : RES} {sh : SHP} {R M : MEM} {v0 v1 v2 v3 v4 v5 v6 : Int}
    (h : ook sh 4 v1 ((if v6 < (M v1 5) then ook sh 7 v0 (ook sh 7 v0 ((if (M v0 8) = 0 then ook sh 7 v0 (aok sh 100 (R v0 7) v6 (aok sh 100 (R v0 9) v6 (Go d 64 Q 45 [vr v0, vr v1, vi v2, vi v3, vi v4, vi v5, vi v6] [] sh R (stm M (R v0 9) v6 (M (R v0 7) v6)) 0 0))) else ook sh 7 v0 (aok sh 100 (R v0 9) v6 (aok sh 100 (R v0 9) v6 (Go d 64 Q 45 [vr v0, vr v1, vi v2, vi v3, vi v4, vi v5, vi v6] [] sh R (stm M (R v0 9) v6 (M (R v0 9) v6)) 0 0)))))) else ook sh 7 v0 (ook sh 7 v0 (Go d 64 Q 9 [vr v0, vr v1, vi v2, vi v3, vi v4, vi (iadd v5 1), vn] [] sh R (stm M v0 8 (iadd (M v0 8) 1)) 0 0))))) :
    Go d 64 Q 25 [vr v0, vr v1, vi v2, vi v3, vi v4, vi v5, vi v6] [] sh R M 0 0 :=
  Go_wp (cuts := [(9, [1, 1, 1, 1, 1, 1, 0]), (25, [1, 1, 1, 1, 1, 1, 1]), (45, [1, 1, 1, 1, 1, 1, 1]), (69, [1, 1, 1, 1, 1, 1, 1])]) 19 25 mok64 rfl h
set_option maxRecDepth 20000 in
theorem b2_X7_survey_45 {d : Nat} {Q : RES} {sh : SHP} {R M : MEM} {v0 v1 v2 v3 v4 v5 v6 : Int}
    (h : ook sh 7 v0 (ook sh 7 v0 ((if 0 < (M v0 8) then ook sh 7 v0 (aok sh 103 (R v0 10) v6 ((if (M (R v0 10) v6) = 0 then ook sh 7 v0 (aok sh 100 (R v0 7) v6 (ook sh 7 v0 (aok sh 100 (R v0 9) v6 ((if (M (R v0 7) v6) = (M (R v0 9) v6) then aok sh 103 (R v0 10) v6 (Go d 64 Q 69 [vr v0, vr v1, vi v2, vi v3, vi v4, vi v5, vi v6] [] sh R (stm M (R v0 10) v6 0) 0 0) else aok sh 103 (R v0 10) v6 (Go d 64 Q 69 [vr v0, vr v1, vi v2, vi v3, vi v4, vi v5, vi v6] [] sh R (stm M (R v0 10) v6 1) 0 0)))))) else aok sh 103 (R v0 10) v6 (Go d 64 Q 69 [vr v0, vr v1, vi v2, vi v3, vi v4, vi v5, vi v6] [] sh R (stm M (R v0 10) v6 1) 0 0)))) else aok sh 103 (R v0 10) v6 (Go d 64 Q 69 [vr v0, vr v1, vi v2, vi v3, vi v4, vi v5, vi v6] [] sh R (stm M (R v0 10) v6 0) 0 0))))) :
    Go d 64 Q 45 [vr v0, vr v1, vi v2, vi v3, vi v4, vi v5, vi v6] [] sh R M 0 0 :=
  Go_wp (cuts := [(9, [1, 1, 1, 1, 1, 1, 0]), (25, [1, 1, 1, 1, 1, 1, 1]), (45, [1, 1, 1, 1, 1, 1, 1]), (69, [1, 1, 1, 1, 1, 1, 1])]) 26 45 mok64 rfl h
set_option maxRecDepth 20000 in
theorem b2_X7_survey_69 {d : Nat} {Q : RES} {sh : SHP} {R M : MEM} {v0 v1 v2 v3 v4 v5 v6 : Int}
    (h : Go d 64 Q 25 [vr v0, vr v1, vi v2, vi v3, vi v4, vi v5, vi (iadd v6 1)] [] sh R M 0 0) :
    Go d 64 Q 69 [vr v0, vr v1, vi v2, vi v3, vi v4, vi v5, vi v6] [] sh R M 0 0 :=
  Go_wp (cuts := [(9, [1, 1, 1, 1, 1, 1, 0]), (25, [1, 1, 1, 1, 1, 1, 1]), (45, [1, 1, 1, 1, 1, 1, 1]), (69, [1, 1, 1, 1, 1, 1, 1])]) 5 69 mok64 rfl h
