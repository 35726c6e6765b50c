/-! NETS: as numbers, as they stand in the reference, as they stand in the class -/
/-- a net is as a text can tell it -/
def WN (N : NTW) : Prop := (0 ≤ N 0 0 ∧ N 0 0 ≤ 10) ∧ (0 ≤ N 0 1 ∧ N 0 1 ≤ 3) ∧ (0 ≤ N 0 2 ∧ N 0 2 ≤ 16) ∧ (0 ≤ N 0 3 ∧ N 0 3 ≤ 6) ∧ (0 ≤ N 0 5 ∧ N 0 5 ≤ 999) ∧ (∀ t : Int, 0 ≤ t → t < N 0 0 → 0 ≤ N 1 t ∧ N 1 t ≤ 8) ∧ (∀ t : Int, 0 ≤ t → t < N 0 0 → 5 ≤ N 1 t → 1 ≤ N 2 t ∧ N 2 t ≤ 99) ∧ (∀ t : Int, 0 ≤ t → t < N 0 0 → -1 ≤ N 3 t ∧ N 3 t < N 0 2) ∧ (∀ t : Int, 0 ≤ t → t < N 0 0 → -1 ≤ N 4 t ∧ N 4 t < N 0 2) ∧ (∀ t : Int, 0 ≤ t → t < N 0 0 → 0 ≤ N 3 t → N 6 (N 3 t) = t) ∧ (∀ t : Int, 0 ≤ t → t < N 0 0 → 0 ≤ N 4 t → N 6 (N 4 t) = t) ∧ (∀ t : Int, 0 ≤ t → t < N 0 0 → 0 ≤ N 3 t → N 3 t ≠ N 4 t) ∧ (∀ s : Int, 0 ≤ s → s < N 0 1 → 0 ≤ N 5 s ∧ N 5 s < N 0 0 ∧ N 1 (N 5 s) = 0) ∧ (∀ s r : Int, 0 ≤ s → s < r → r < N 0 1 → N 5 s < N 5 r) ∧ (∀ t : Int, 0 ≤ t → t < N 0 0 → N 1 t = 0 → ∃ s, 0 ≤ s ∧ s < N 0 1 ∧ N 5 s = t) ∧ (∀ w : Int, 0 ≤ w → w < N 0 2 → 0 ≤ N 6 w ∧ N 6 w < N 0 0) ∧ (∀ w : Int, 0 ≤ w → w < N 0 2 → 0 ≤ N 7 w ∧ N 7 w < N 0 0) ∧ (∀ w : Int, 0 ≤ w → w < N 0 2 → 1 ≤ N 8 w ∧ N 8 w ≤ 9) ∧ (∀ c : Int, 0 ≤ c → c < N 0 3 → 0 ≤ N 9 c ∧ N 9 c < N 0 0 ∧ N 1 (N 9 c) = 4)
theorem wn_T {N : NTW} (h : WN N) : 0 ≤ N 0 0 ∧ N 0 0 ≤ 10 := h.1
theorem wn_S {N : NTW} (h : WN N) : 0 ≤ N 0 1 ∧ N 0 1 ≤ 3 := h.2.1
theorem wn_W {N : NTW} (h : WN N) : 0 ≤ N 0 2 ∧ N 0 2 ≤ 16 := h.2.2.1
theorem wn_C {N : NTW} (h : WN N) : 0 ≤ N 0 3 ∧ N 0 3 ≤ 6 := h.2.2.2.1
theorem wn_D {N : NTW} (h : WN N) : 0 ≤ N 0 5 ∧ N 0 5 ≤ 999 := h.2.2.2.2.1
theorem wn_so {N : NTW} (h : WN N) : ∀ t : Int, 0 ≤ t → t < N 0 0 → 0 ≤ N 1 t ∧ N 1 t ≤ 8 := h.2.2.2.2.2.1
theorem wn_sz {N : NTW} (h : WN N) : ∀ t : Int, 0 ≤ t → t < N 0 0 → 5 ≤ N 1 t → 1 ≤ N 2 t ∧ N 2 t ≤ 99 := h.2.2.2.2.2.2.1
theorem wn_fi {N : NTW} (h : WN N) : ∀ t : Int, 0 ≤ t → t < N 0 0 → -1 ≤ N 3 t ∧ N 3 t < N 0 2 := h.2.2.2.2.2.2.2.1
theorem wn_se {N : NTW} (h : WN N) : ∀ t : Int, 0 ≤ t → t < N 0 0 → -1 ≤ N 4 t ∧ N 4 t < N 0 2 := h.2.2.2.2.2.2.2.2.1
theorem wn_ff {N : NTW} (h : WN N) : ∀ t : Int, 0 ≤ t → t < N 0 0 → 0 ≤ N 3 t → N 6 (N 3 t) = t := h.2.2.2.2.2.2.2.2.2.1
theorem wn_sf {N : NTW} (h : WN N) : ∀ t : Int, 0 ≤ t → t < N 0 0 → 0 ≤ N 4 t → N 6 (N 4 t) = t := h.2.2.2.2.2.2.2.2.2.2.1
theorem wn_ne {N : NTW} (h : WN N) : ∀ t : Int, 0 ≤ t → t < N 0 0 → 0 ≤ N 3 t → N 3 t ≠ N 4 t := h.2.2.2.2.2.2.2.2.2.2.2.1
theorem wn_st {N : NTW} (h : WN N) : ∀ s : Int, 0 ≤ s → s < N 0 1 → 0 ≤ N 5 s ∧ N 5 s < N 0 0 ∧ N 1 (N 5 s) = 0 := h.2.2.2.2.2.2.2.2.2.2.2.2.1
theorem wn_sm {N : NTW} (h : WN N) : ∀ s r : Int, 0 ≤ s → s < r → r < N 0 1 → N 5 s < N 5 r := h.2.2.2.2.2.2.2.2.2.2.2.2.2.1
theorem wn_sn {N : NTW} (h : WN N) : ∀ t : Int, 0 ≤ t → t < N 0 0 → N 1 t = 0 → ∃ s, 0 ≤ s ∧ s < N 0 1 ∧ N 5 s = t := h.2.2.2.2.2.2.2.2.2.2.2.2.2.2.1
theorem wn_wf {N : NTW} (h : WN N) : ∀ w : Int, 0 ≤ w → w < N 0 2 → 0 ≤ N 6 w ∧ N 6 w < N 0 0 := h.2.2.2.2.2.2.2.2.2.2.2.2.2.2.2.1
theorem wn_wt {N : NTW} (h : WN N) : ∀ w : Int, 0 ≤ w → w < N 0 2 → 0 ≤ N 7 w ∧ N 7 w < N 0 0 := h.2.2.2.2.2.2.2.2.2.2.2.2.2.2.2.2.1
theorem wn_wb {N : NTW} (h : WN N) : ∀ w : Int, 0 ≤ w → w < N 0 2 → 1 ≤ N 8 w ∧ N 8 w ≤ 9 := h.2.2.2.2.2.2.2.2.2.2.2.2.2.2.2.2.2.1
theorem wn_cd {N : NTW} (h : WN N) : ∀ c : Int, 0 ≤ c → c < N 0 3 → 0 ≤ N 9 c ∧ N 9 c < N 0 0 ∧ N 1 (N 9 c) = 4 := h.2.2.2.2.2.2.2.2.2.2.2.2.2.2.2.2.2.2
/-- the net N is in bank b of the reference -/
def NM (M : MEM) (b : Int) (N : NTW) : Prop := (M 364 36 = b) ∧ (0 ≤ b) ∧ (b ≤ 1) ∧ (M 367 b = N 0 0) ∧ (M 368 b = N 0 1) ∧ (M 369 b = N 0 2) ∧ (M 370 b = N 0 3) ∧ (M 371 b = N 0 4) ∧ (M 372 b = N 0 5) ∧ (∀ t : Int, M 373 (10 * b + t) = N 1 t) ∧ (∀ t : Int, M 374 (10 * b + t) = N 2 t) ∧ (∀ t : Int, M 379 (10 * b + t) = N 3 t) ∧ (∀ t : Int, M 380 (10 * b + t) = N 4 t) ∧ (∀ s : Int, M 375 (3 * b + s) = N 5 s) ∧ (∀ w : Int, M 376 (16 * b + w) = N 6 w) ∧ (∀ w : Int, M 377 (16 * b + w) = N 7 w) ∧ (∀ w : Int, M 394 w = N 8 w) ∧ (∀ c : Int, M 381 (6 * b + c) = N 9 c)
theorem nm_b {M : MEM} {b : Int} {N : NTW} (h : NM M b N) : M 364 36 = b := h.1
theorem nm_b0 {M : MEM} {b : Int} {N : NTW} (h : NM M b N) : 0 ≤ b := h.2.1
theorem nm_b1 {M : MEM} {b : Int} {N : NTW} (h : NM M b N) : b ≤ 1 := h.2.2.1
theorem nm_T {M : MEM} {b : Int} {N : NTW} (h : NM M b N) : M 367 b = N 0 0 := h.2.2.2.1
theorem nm_S {M : MEM} {b : Int} {N : NTW} (h : NM M b N) : M 368 b = N 0 1 := h.2.2.2.2.1
theorem nm_W {M : MEM} {b : Int} {N : NTW} (h : NM M b N) : M 369 b = N 0 2 := h.2.2.2.2.2.1
theorem nm_C {M : MEM} {b : Int} {N : NTW} (h : NM M b N) : M 370 b = N 0 3 := h.2.2.2.2.2.2.1
theorem nm_U {M : MEM} {b : Int} {N : NTW} (h : NM M b N) : M 371 b = N 0 4 := h.2.2.2.2.2.2.2.1
theorem nm_D {M : MEM} {b : Int} {N : NTW} (h : NM M b N) : M 372 b = N 0 5 := h.2.2.2.2.2.2.2.2.1
theorem nm1 {M : MEM} {b : Int} {N : NTW} (h : NM M b N) : ∀ t : Int, M 373 (10 * b + t) = N 1 t := h.2.2.2.2.2.2.2.2.2.1
theorem nm2 {M : MEM} {b : Int} {N : NTW} (h : NM M b N) : ∀ t : Int, M 374 (10 * b + t) = N 2 t := h.2.2.2.2.2.2.2.2.2.2.1
theorem nm3 {M : MEM} {b : Int} {N : NTW} (h : NM M b N) : ∀ t : Int, M 379 (10 * b + t) = N 3 t := h.2.2.2.2.2.2.2.2.2.2.2.1
theorem nm4 {M : MEM} {b : Int} {N : NTW} (h : NM M b N) : ∀ t : Int, M 380 (10 * b + t) = N 4 t := h.2.2.2.2.2.2.2.2.2.2.2.2.1
theorem nm5 {M : MEM} {b : Int} {N : NTW} (h : NM M b N) : ∀ s : Int, M 375 (3 * b + s) = N 5 s := h.2.2.2.2.2.2.2.2.2.2.2.2.2.1
theorem nm6 {M : MEM} {b : Int} {N : NTW} (h : NM M b N) : ∀ w : Int, M 376 (16 * b + w) = N 6 w := h.2.2.2.2.2.2.2.2.2.2.2.2.2.2.1
theorem nm7 {M : MEM} {b : Int} {N : NTW} (h : NM M b N) : ∀ w : Int, M 377 (16 * b + w) = N 7 w := h.2.2.2.2.2.2.2.2.2.2.2.2.2.2.2.1
theorem nm8 {M : MEM} {b : Int} {N : NTW} (h : NM M b N) : ∀ w : Int, M 394 w = N 8 w := h.2.2.2.2.2.2.2.2.2.2.2.2.2.2.2.2.1
theorem nm9 {M : MEM} {b : Int} {N : NTW} (h : NM M b N) : ∀ c : Int, M 381 (6 * b + c) = N 9 c := h.2.2.2.2.2.2.2.2.2.2.2.2.2.2.2.2.2
/-- the net N is the class's, at n -/
def NC (M : MEM) (n : Int) (N : NTW) : Prop := (M n 0 = N 0 0) ∧ (M n 5 = N 0 1) ∧ (M n 7 = N 0 2) ∧ (M n 11 = N 0 3) ∧ (M n 17 = N 0 4) ∧ (M n 18 = N 0 5) ∧ (∀ t : Int, 0 ≤ t → t < N 0 0 → M (n + 1) t = N 1 t) ∧ (∀ t : Int, 0 ≤ t → t < N 0 0 → M (n + 2) t = N 2 t) ∧ (∀ t : Int, 0 ≤ t → t < N 0 0 → M (n + 3) t = N 3 t) ∧ (∀ t : Int, 0 ≤ t → t < N 0 0 → M (n + 4) t = N 4 t) ∧ (∀ s : Int, 0 ≤ s → s < N 0 1 → M (n + 5) s = N 5 s) ∧ (∀ w : Int, 0 ≤ w → w < N 0 2 → M (n + 6) w = N 6 w) ∧ (∀ w : Int, 0 ≤ w → w < N 0 2 → M (n + 7) w = N 7 w) ∧ (∀ w : Int, 0 ≤ w → w < N 0 2 → M (n + 8) w = N 8 w) ∧ (∀ c : Int, 0 ≤ c → c < N 0 3 → M (n + 9) c = N 9 c)
theorem nc_T {M : MEM} {n : Int} {N : NTW} (h : NC M n N) : M n 0 = N 0 0 := h.1
theorem nc_S {M : MEM} {n : Int} {N : NTW} (h : NC M n N) : M n 5 = N 0 1 := h.2.1
theorem nc_W {M : MEM} {n : Int} {N : NTW} (h : NC M n N) : M n 7 = N 0 2 := h.2.2.1
theorem nc_C {M : MEM} {n : Int} {N : NTW} (h : NC M n N) : M n 11 = N 0 3 := h.2.2.2.1
theorem nc_U {M : MEM} {n : Int} {N : NTW} (h : NC M n N) : M n 17 = N 0 4 := h.2.2.2.2.1
theorem nc_D {M : MEM} {n : Int} {N : NTW} (h : NC M n N) : M n 18 = N 0 5 := h.2.2.2.2.2.1
theorem nc1 {M : MEM} {n : Int} {N : NTW} (h : NC M n N) : ∀ t : Int, 0 ≤ t → t < N 0 0 → M (n + 1) t = N 1 t := h.2.2.2.2.2.2.1
theorem nc2 {M : MEM} {n : Int} {N : NTW} (h : NC M n N) : ∀ t : Int, 0 ≤ t → t < N 0 0 → M (n + 2) t = N 2 t := h.2.2.2.2.2.2.2.1
theorem nc3 {M : MEM} {n : Int} {N : NTW} (h : NC M n N) : ∀ t : Int, 0 ≤ t → t < N 0 0 → M (n + 3) t = N 3 t := h.2.2.2.2.2.2.2.2.1
theorem nc4 {M : MEM} {n : Int} {N : NTW} (h : NC M n N) : ∀ t : Int, 0 ≤ t → t < N 0 0 → M (n + 4) t = N 4 t := h.2.2.2.2.2.2.2.2.2.1
theorem nc5 {M : MEM} {n : Int} {N : NTW} (h : NC M n N) : ∀ s : Int, 0 ≤ s → s < N 0 1 → M (n + 5) s = N 5 s := h.2.2.2.2.2.2.2.2.2.2.1
theorem nc6 {M : MEM} {n : Int} {N : NTW} (h : NC M n N) : ∀ w : Int, 0 ≤ w → w < N 0 2 → M (n + 6) w = N 6 w := h.2.2.2.2.2.2.2.2.2.2.2.1
theorem nc7 {M : MEM} {n : Int} {N : NTW} (h : NC M n N) : ∀ w : Int, 0 ≤ w → w < N 0 2 → M (n + 7) w = N 7 w := h.2.2.2.2.2.2.2.2.2.2.2.2.1
theorem nc8 {M : MEM} {n : Int} {N : NTW} (h : NC M n N) : ∀ w : Int, 0 ≤ w → w < N 0 2 → M (n + 8) w = N 8 w := h.2.2.2.2.2.2.2.2.2.2.2.2.2.1
theorem nc9 {M : MEM} {n : Int} {N : NTW} (h : NC M n N) : ∀ c : Int, 0 ≤ c → c < N 0 3 → M (n + 9) c = N 9 c := h.2.2.2.2.2.2.2.2.2.2.2.2.2.2
