/-! PLACES, when both are made -/
def SHX : SHP := g11S ++ ([(12, 0)] ++ mkS12)
theorem len_SHX : (SHX.length : Int) = 415 := by decide +kernel
theorem fs364 : shk SHX 364 = (12, 0) := by decide +kernel
theorem fs365 : shk SHX 365 = (102, 1620) := by decide +kernel
theorem fs366 : shk SHX 366 = (102, 1600) := by decide +kernel
theorem fs367 : shk SHX 367 = (100, 2) := by decide +kernel
theorem fs368 : shk SHX 368 = (100, 2) := by decide +kernel
theorem fs369 : shk SHX 369 = (100, 2) := by decide +kernel
theorem fs370 : shk SHX 370 = (100, 2) := by decide +kernel
theorem fs371 : shk SHX 371 = (100, 2) := by decide +kernel
theorem fs372 : shk SHX 372 = (100, 2) := by decide +kernel
theorem fs373 : shk SHX 373 = (100, 20) := by decide +kernel
theorem fs374 : shk SHX 374 = (100, 20) := by decide +kernel
theorem fs375 : shk SHX 375 = (100, 6) := by decide +kernel
theorem fs376 : shk SHX 376 = (100, 32) := by decide +kernel
theorem fs377 : shk SHX 377 = (100, 32) := by decide +kernel
theorem fs378 : shk SHX 378 = (100, 32) := by decide +kernel
theorem fs379 : shk SHX 379 = (100, 20) := by decide +kernel
theorem fs380 : shk SHX 380 = (100, 20) := by decide +kernel
theorem fs381 : shk SHX 381 = (100, 12) := by decide +kernel
theorem fs382 : shk SHX 382 = (100, 12) := by decide +kernel
theorem fs383 : shk SHX 383 = (100, 12) := by decide +kernel
theorem fs384 : shk SHX 384 = (103, 2) := by decide +kernel
theorem fs385 : shk SHX 385 = (101, 20) := by decide +kernel
theorem fs386 : shk SHX 386 = (101, 12) := by decide +kernel
theorem fs387 : shk SHX 387 = (100, 1200) := by decide +kernel
theorem fs388 : shk SHX 388 = (100, 1200) := by decide +kernel
theorem fs389 : shk SHX 389 = (100, 90) := by decide +kernel
theorem fs390 : shk SHX 390 = (100, 90) := by decide +kernel
theorem fs391 : shk SHX 391 = (100, 60) := by decide +kernel
theorem fs392 : shk SHX 392 = (100, 218) := by decide +kernel
theorem fs393 : shk SHX 393 = (100, 218) := by decide +kernel
theorem fs394 : shk SHX 394 = (100, 16) := by decide +kernel
theorem fs395 : shk SHX 395 = (100, 10) := by decide +kernel
theorem fs396 : shk SHX 396 = (100, 3) := by decide +kernel
theorem fs397 : shk SHX 397 = (100, 8938) := by decide +kernel
theorem fs398 : shk SHX 398 = (100, 8) := by decide +kernel
theorem fs399 : shk SHX 399 = (100, 3) := by decide +kernel
theorem fs400 : shk SHX 400 = (100, 41) := by decide +kernel
theorem fs401 : shk SHX 401 = (100, 610) := by decide +kernel
theorem fs402 : shk SHX 402 = (103, 61) := by decide +kernel
theorem fs403 : shk SHX 403 = (100, 4) := by decide +kernel
theorem fs404 : shk SHX 404 = (100, 4) := by decide +kernel
theorem fs405 : shk SHX 405 = (100, 20) := by decide +kernel
theorem fs406 : shk SHX 406 = (100, 20) := by decide +kernel
theorem fs407 : shk SHX 407 = (100, 20) := by decide +kernel
theorem fs408 : shk SHX 408 = (100, 20) := by decide +kernel
theorem fs409 : shk SHX 409 = (100, 20) := by decide +kernel
theorem fs410 : shk SHX 410 = (100, 3) := by decide +kernel
theorem fs411 : shk SHX 411 = (100, 3) := by decide +kernel
theorem fs412 : shk SHX 412 = (100, 3) := by decide +kernel
theorem fs413 : shk SHX 413 = (100, 654) := by decide +kernel
theorem fs414 : shk SHX 414 = (103, 3) := by decide +kernel
def refT : List Int := [365, 366, -1, -1, -1, -1, -1, -1, -1, -1, -1, 367, 368, 369, 370, 371, 372, 373, 374, 375, 376, 377, 378, 379, 380, 381, 382, 383, 384, 385, 386, 387, 388, 389, 390, 391, -1, -1, -1, -1, -1, -1, 392, 393, 394, 395, 396, -1, -1, -1, 397, -1, -1, 398, 399, -1, 400, 401, 402, 403, 404, -1, 405, 406, 407, 408, 409, 410, 411, 412, -1, -1, 413, 414]
/-- the reference's fields stand where they were put -/
def RM (R : MEM) : Prop := ∀ k : Nat, k < 74 → R 364 k = refT.getD k (-1)
theorem fr0 {R : MEM} (h : RM R) : R 364 0 = 365 := h 0 (by decide)
theorem fr1 {R : MEM} (h : RM R) : R 364 1 = 366 := h 1 (by decide)
theorem fr11 {R : MEM} (h : RM R) : R 364 11 = 367 := h 11 (by decide)
theorem fr12 {R : MEM} (h : RM R) : R 364 12 = 368 := h 12 (by decide)
theorem fr13 {R : MEM} (h : RM R) : R 364 13 = 369 := h 13 (by decide)
theorem fr14 {R : MEM} (h : RM R) : R 364 14 = 370 := h 14 (by decide)
theorem fr15 {R : MEM} (h : RM R) : R 364 15 = 371 := h 15 (by decide)
theorem fr16 {R : MEM} (h : RM R) : R 364 16 = 372 := h 16 (by decide)
theorem fr17 {R : MEM} (h : RM R) : R 364 17 = 373 := h 17 (by decide)
theorem fr18 {R : MEM} (h : RM R) : R 364 18 = 374 := h 18 (by decide)
theorem fr19 {R : MEM} (h : RM R) : R 364 19 = 375 := h 19 (by decide)
theorem fr20 {R : MEM} (h : RM R) : R 364 20 = 376 := h 20 (by decide)
theorem fr21 {R : MEM} (h : RM R) : R 364 21 = 377 := h 21 (by decide)
theorem fr22 {R : MEM} (h : RM R) : R 364 22 = 378 := h 22 (by decide)
theorem fr23 {R : MEM} (h : RM R) : R 364 23 = 379 := h 23 (by decide)
theorem fr24 {R : MEM} (h : RM R) : R 364 24 = 380 := h 24 (by decide)
theorem fr25 {R : MEM} (h : RM R) : R 364 25 = 381 := h 25 (by decide)
theorem fr26 {R : MEM} (h : RM R) : R 364 26 = 382 := h 26 (by decide)
theorem fr27 {R : MEM} (h : RM R) : R 364 27 = 383 := h 27 (by decide)
theorem fr28 {R : MEM} (h : RM R) : R 364 28 = 384 := h 28 (by decide)
theorem fr29 {R : MEM} (h : RM R) : R 364 29 = 385 := h 29 (by decide)
theorem fr30 {R : MEM} (h : RM R) : R 364 30 = 386 := h 30 (by decide)
theorem fr31 {R : MEM} (h : RM R) : R 364 31 = 387 := h 31 (by decide)
theorem fr32 {R : MEM} (h : RM R) : R 364 32 = 388 := h 32 (by decide)
theorem fr33 {R : MEM} (h : RM R) : R 364 33 = 389 := h 33 (by decide)
theorem fr34 {R : MEM} (h : RM R) : R 364 34 = 390 := h 34 (by decide)
theorem fr35 {R : MEM} (h : RM R) : R 364 35 = 391 := h 35 (by decide)
theorem fr42 {R : MEM} (h : RM R) : R 364 42 = 392 := h 42 (by decide)
theorem fr43 {R : MEM} (h : RM R) : R 364 43 = 393 := h 43 (by decide)
theorem fr44 {R : MEM} (h : RM R) : R 364 44 = 394 := h 44 (by decide)
theorem fr45 {R : MEM} (h : RM R) : R 364 45 = 395 := h 45 (by decide)
theorem fr46 {R : MEM} (h : RM R) : R 364 46 = 396 := h 46 (by decide)
theorem fr50 {R : MEM} (h : RM R) : R 364 50 = 397 := h 50 (by decide)
theorem fr53 {R : MEM} (h : RM R) : R 364 53 = 398 := h 53 (by decide)
theorem fr54 {R : MEM} (h : RM R) : R 364 54 = 399 := h 54 (by decide)
theorem fr56 {R : MEM} (h : RM R) : R 364 56 = 400 := h 56 (by decide)
theorem fr57 {R : MEM} (h : RM R) : R 364 57 = 401 := h 57 (by decide)
theorem fr58 {R : MEM} (h : RM R) : R 364 58 = 402 := h 58 (by decide)
theorem fr59 {R : MEM} (h : RM R) : R 364 59 = 403 := h 59 (by decide)
theorem fr60 {R : MEM} (h : RM R) : R 364 60 = 404 := h 60 (by decide)
theorem fr62 {R : MEM} (h : RM R) : R 364 62 = 405 := h 62 (by decide)
theorem fr63 {R : MEM} (h : RM R) : R 364 63 = 406 := h 63 (by decide)
theorem fr64 {R : MEM} (h : RM R) : R 364 64 = 407 := h 64 (by decide)
theorem fr65 {R : MEM} (h : RM R) : R 364 65 = 408 := h 65 (by decide)
theorem fr66 {R : MEM} (h : RM R) : R 364 66 = 409 := h 66 (by decide)
theorem fr67 {R : MEM} (h : RM R) : R 364 67 = 410 := h 67 (by decide)
theorem fr68 {R : MEM} (h : RM R) : R 364 68 = 411 := h 68 (by decide)
theorem fr69 {R : MEM} (h : RM R) : R 364 69 = 412 := h 69 (by decide)
theorem fr72 {R : MEM} (h : RM R) : R 364 72 = 413 := h 72 (by decide)
theorem fr73 {R : MEM} (h : RM R) : R 364 73 = 414 := h 73 (by decide)
/-- a piece of a row is one number -/
def fil (M : MEM) (a lo hi v : Int) : MEM := fun q j => if q = a ∧ lo ≤ j ∧ j < hi then v else M q j
theorem fil_0 (M : MEM) (a lo v : Int) : fil M a lo lo v = M := by
  funext q j
  exact if_neg fun h => by omega
theorem stm_fil (M : MEM) (a lo hi v : Int) (h : lo ≤ hi) : stm (fil M a lo hi v) a hi v = fil M a lo (hi + 1) v := by
  funext q j
  show (if q = a ∧ j = hi then v else if q = a ∧ lo ≤ j ∧ j < hi then v else M q j) = if q = a ∧ lo ≤ j ∧ j < hi + 1 then v else M q j
  by_cases h1 : q = a ∧ j = hi
  · rw [if_pos h1, if_pos ⟨h1.1, by omega, by omega⟩]
  · rw [if_neg h1]
    by_cases h2 : q = a ∧ lo ≤ j ∧ j < hi
    · rw [if_pos h2, if_pos ⟨h2.1, h2.2.1, by omega⟩]
    · rw [if_neg h2, if_neg fun h3 => h2 ⟨h3.1, h3.2.1, by
        have : j ≠ hi := fun e => h1 ⟨h3.1, e⟩
        omega⟩]
theorem clearSky_loop {d : Nat} {R M : MEM} {Q : RES} (hR : RM R) (hq : Q 0 SHX R (fil M 392 0 218 0)) : ∀ (n : Nat) (i : Int), 0 ≤ i → i + (n : Int) = 218 → Go d 203 Q 2 [vr 364, vi i] [] SHX R (fil M 392 0 i 0) 0 0
  | 0, i, h0, hi => by
    refine b_X12_clearSky_2 ?_
    rw [if_neg (by omega)]
    have e : i = 218 := by omega
    rw [e]
    exact hq
  | n + 1, i, h0, hi => by
    refine b_X12_clearSky_2 ?_
    rw [if_pos (by omega), ook_iff, fs364, fr42 hR, aok_iff, fs392, iadd_of (by omega) (by omega), stm_fil _ _ _ _ _ h0]
    exact ⟨rfl, rfl, h0, by show i < 218; omega, clearSky_loop hR hq n (i + 1) (by omega) (by omega)⟩
theorem w_clearSky {d : Nat} {R M : MEM} {Q : RES} (hR : RM R) (hq : Q 0 SHX R (fil M 392 0 218 0)) : Mw d 203 [vr 364] SHX R M 0 0 Q := by
  refine Mw_of mok203 rfl fun _ _ => b_X12_clearSky_0 ?_
  have := clearSky_loop (d := d) hR hq 218 0 (by omega) (by omega)
  rwa [fil_0] at this
