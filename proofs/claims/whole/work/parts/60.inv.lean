/-! WHAT HOLDS BETWEEN CALLS -/
def kwL : List Int := [20579924, 343342, 20459828, 15492, 153195, 540100, 6648, 2692132, 763332, 23609, 3540269, 149559, 655, 302, 52, 498, 1476, 14836]
/-- a sky cut to its cells -/
def cut (f : Int → Int) : SK := fun i => if 0 ≤ i ∧ i < 218 then f i else 0
theorem cut_at {f : Int → Int} {i : Int} (h0 : 0 ≤ i) (h1 : i < 218) : cut f i = f i := if_pos ⟨h0, h1⟩
def blk (M : MEM) (a : Int) : MEM := fun r => M (a + r)
/-- a sky in earnest, behind c calls -/
def GD (N : NTW) (S : SK) (c : Nat) : Prop := OKS N S (999 * (c : Int) + 990 * S 216) ∧ BD S ∧ S 216 ≤ 1000 ∧ S 217 ≤ 999 ∧ S 212 ≤ 999 * (c : Int)
/-- the sky k acts behind or ahead -/
def stt (M : MEM) (k : Int) : Int → Int := fun i => if k = 0 then M 392 i else if k < 0 then M 397 (218 * (M 364 51 + k) + i) else M 397 (218 * (M 364 51 + k - 1) + i)
def codeOK (x k v n : Int) : Prop := (k = 110 ∧ x = v ∧ 0 ≤ v ∧ v ≤ 9999) ∨ (k = 115 ∧ x = 10000 + v ∧ 0 ≤ v ∧ v < n) ∨ (k = 126 ∧ x = 20017) ∨ (k = 38 ∧ x = 20016) ∨ (k = 124 ∧ x = 20015) ∨ ((k = 60 ∨ k = 62 ∨ k = 61 ∨ k = 43 ∨ k = 45 ∨ k = 42 ∨ k = 47 ∨ k = 37) ∧ x = 20000 + k)
/-- the height of the pile goes on -/
def htOK (k h h' : Int) : Prop := if k = 110 ∨ k = 115 then h' = h + 1 else if k = 126 then 1 ≤ h ∧ h' = h else 2 ≤ h ∧ h' = h - 1
/-- the claims' formulas, on both sides -/
def CDE (M : MEM) (b n : Int) (N : NTW) : Prop := ∀ c, 0 ≤ c → c < N 0 3 → ∃ (s e : Int) (H : Int → Int), 0 ≤ s ∧ s ≤ e ∧ e ≤ 600 ∧ (s = if c = 0 then 0 else M (n + 10) (c - 1)) ∧ M (n + 10) c = e ∧ M 382 (6 * b + c) = 600 * b + s ∧ M 383 (6 * b + c) = 600 * b + e ∧ H s = 0 ∧ H e = 1 ∧ ∀ i, s ≤ i → i < e → codeOK (M (n + 11) i) (M 387 (600 * b + i)) (M 388 (600 * b + i)) (N 0 1) ∧ 0 ≤ H i ∧ H i ≤ 30 ∧ htOK (M 387 (600 * b + i)) (H i) (H (i + 1))
/-- the net -/
def IA (M : MEM) (b : Int) (N : NTW) : Prop := (NM M b N) ∧ (WN N) ∧ (NC M (1 + 13 * b) N) ∧ (∀ w : Int, 0 ≤ w → w < 16 → M 378 (16 * b + w) = N 8 w) ∧ (CDE M b (1 + 13 * b) N)
theorem ia_m {M : MEM} {b : Int} {N : NTW} (h : IA M b N) : NM M b N := h.1
theorem ia_w {M : MEM} {b : Int} {N : NTW} (h : IA M b N) : WN N := h.2.1
theorem ia_c {M : MEM} {b : Int} {N : NTW} (h : IA M b N) : NC M (1 + 13 * b) N := h.2.2.1
theorem ia_b {M : MEM} {b : Int} {N : NTW} (h : IA M b N) : ∀ w : Int, 0 ≤ w → w < 16 → M 378 (16 * b + w) = N 8 w := h.2.2.2.1
theorem ia_e {M : MEM} {b : Int} {N : NTW} (h : IA M b N) : CDE M b (1 + 13 * b) N := h.2.2.2.2
/-- the tape -/
def IT (M : MEM) : Prop := (0 ≤ M 364 2 ∧ M 364 2 ≤ 1600) ∧ (M 27 1 = M 364 2) ∧ (∀ i : Int, 0 ≤ i → i < M 364 2 → 0 ≤ M 28 i ∧ M 28 i ≤ 255 ∧ iand (M 365 i) 255 = M 28 i) ∧ (∀ i : Nat, i < 18 → M 29 (i : Int) = kwL.getD i 0)
theorem it_0 {M : MEM} (h : IT M) : 0 ≤ M 364 2 ∧ M 364 2 ≤ 1600 := h.1
theorem it_n {M : MEM} (h : IT M) : M 27 1 = M 364 2 := h.2.1
theorem it_b {M : MEM} (h : IT M) : ∀ i : Int, 0 ≤ i → i < M 364 2 → 0 ≤ M 28 i ∧ M 28 i ≤ 255 ∧ iand (M 365 i) 255 = M 28 i := h.2.2.1
theorem it_k {M : MEM} (h : IT M) : ∀ i : Nat, i < 18 → M 29 (i : Int) = kwL.getD i 0 := h.2.2.2
/-- the fault; no goose is to be lost -/
def IF (M : MEM) : Prop := (M 33 0 = M 364 4) ∧ (M 33 1 = M 364 5) ∧ (M 364 47 = -1) ∧ (0 ≤ M 364 49)
theorem if_k {M : MEM} (h : IF M) : M 33 0 = M 364 4 := h.1
theorem if_p {M : MEM} (h : IF M) : M 33 1 = M 364 5 := h.2.1
theorem if_l {M : MEM} (h : IF M) : M 364 47 = -1 := h.2.2.1
theorem if_s {M : MEM} (h : IF M) : 0 ≤ M 364 49 := h.2.2.2
/-- the row -/
def IW (M : MEM) : Prop := (∀ i : Int, 0 ≤ i → i < 3 → M 260 i = M 396 i ∧ 0 ≤ M 396 i ∧ M 396 i ≤ 999)
theorem iw {M : MEM} (h : IW M) : ∀ i : Int, 0 ≤ i → i < 3 → M 260 i = M 396 i ∧ 0 ≤ M 396 i ∧ M 396 i ≤ 999 := h
/-- the skies in earnest -/
def IS (M : MEM) (N : NTW) (c : Nat) : Prop := (0 ≤ M 36 1 ∧ M 36 1 ≤ 40) ∧ (M 36 2 = M 364 51 ∧ 0 ≤ M 364 51) ∧ (M 36 3 = M 364 52 ∧ 0 ≤ M 364 52) ∧ (M 364 51 + M 364 52 ≤ 40) ∧ (∀ k : Int, -M 364 51 ≤ k → k ≤ M 364 52 → SKY 0 (blk M (38 + 5 * ((M 36 1 + k) % 41))) (cut (stt M k)) ∧ GD N (cut (stt M k)) c)
theorem is_h {M : MEM} {N : NTW} {c : Nat} (h : IS M N c) : 0 ≤ M 36 1 ∧ M 36 1 ≤ 40 := h.1
theorem is_u {M : MEM} {N : NTW} {c : Nat} (h : IS M N c) : M 36 2 = M 364 51 ∧ 0 ≤ M 364 51 := h.2.1
theorem is_r {M : MEM} {N : NTW} {c : Nat} (h : IS M N c) : M 36 3 = M 364 52 ∧ 0 ≤ M 364 52 := h.2.2.1
theorem is_m {M : MEM} {N : NTW} {c : Nat} (h : IS M N c) : M 364 51 + M 364 52 ≤ 40 := h.2.2.2.1
theorem is_s {M : MEM} {N : NTW} {c : Nat} (h : IS M N c) : ∀ k : Int, -M 364 51 ≤ k → k ≤ M 364 52 → SKY 0 (blk M (38 + 5 * ((M 36 1 + k) % 41))) (cut (stt M k)) ∧ GD N (cut (stt M k)) c := h.2.2.2.2
/-- the boxes -/
def IB (M : MEM) (N : NTW) (c : Nat) : Prop := (∀ j : Int, 0 ≤ j → j < 3 → M 259 j = M 414 j ∧ (M 414 j = 0 ∨ (M 414 j = 1 ∧ SKY 0 (blk M (244 + 5 * j)) (cut (fun i => M 413 (218 * j + i))) ∧ GD N (cut (fun i => M 413 (218 * j + i))) c)))
theorem ib {M : MEM} {N : NTW} {c : Nat} (h : IB M N c) : ∀ j : Int, 0 ≤ j → j < 3 → M 259 j = M 414 j ∧ (M 414 j = 0 ∨ (M 414 j = 1 ∧ SKY 0 (blk M (244 + 5 * j)) (cut (fun i => M 413 (218 * j + i))) ∧ GD N (cut (fun i => M 413 (218 * j + i))) c)) := h
/-- the pairs -/
def IP (M : MEM) : Prop := (M 342 0 = M 364 61 ∧ 0 ≤ M 364 61 ∧ M 364 61 ≤ 4) ∧ (∀ i : Int, 0 ≤ i → i < M 364 61 → M 345 i = M 403 i ∧ M 343 i = M 404 i ∧ 0 ≤ M 403 i ∧ M 403 i ≤ 999 ∧ 0 ≤ M 404 i ∧ M 404 i ≤ 999)
theorem ip_n {M : MEM} (h : IP M) : M 342 0 = M 364 61 ∧ 0 ≤ M 364 61 ∧ M 364 61 ≤ 4 := h.1
theorem ip_v {M : MEM} (h : IP M) : ∀ i : Int, 0 ≤ i → i < M 364 61 → M 345 i = M 403 i ∧ M 343 i = M 404 i ∧ 0 ≤ M 403 i ∧ M 403 i ≤ 999 ∧ 0 ≤ M 404 i ∧ M 404 i ≤ 999 := h.2
/-- the sights -/
def IG (M : MEM) (N : NTW) : Prop := (M 355 0 = M 364 70 ∧ 0 ≤ M 364 70 ∧ M 364 70 ≤ 20) ∧ (M 0 14 = M 364 71 ∧ 0 ≤ M 364 71 ∧ M 364 71 ≤ 100000) ∧ (∀ i : Int, 0 ≤ i → i < M 364 70 → M 356 i = M 405 i ∧ M 357 i = M 406 i ∧ M 358 i = M 407 i ∧ M 359 i = M 408 i ∧ (0 ≤ M 405 i ∧ M 405 i < N 0 0) ∧ (1 ≤ M 406 i ∧ M 406 i ≤ 60) ∧ ((M 360 i = -1 ∧ M 409 i = -1) ∨ (M 360 i = M 409 i ∧ 0 ≤ M 409 i ∧ M 409 i ≤ 100000)))
theorem ig_n {M : MEM} {N : NTW} (h : IG M N) : M 355 0 = M 364 70 ∧ 0 ≤ M 364 70 ∧ M 364 70 ≤ 20 := h.1
theorem ig_t {M : MEM} {N : NTW} (h : IG M N) : M 0 14 = M 364 71 ∧ 0 ≤ M 364 71 ∧ M 364 71 ≤ 100000 := h.2.1
theorem ig_v {M : MEM} {N : NTW} (h : IG M N) : ∀ i : Int, 0 ≤ i → i < M 364 70 → M 356 i = M 405 i ∧ M 357 i = M 406 i ∧ M 358 i = M 407 i ∧ M 359 i = M 408 i ∧ (0 ≤ M 405 i ∧ M 405 i < N 0 0) ∧ (1 ≤ M 406 i ∧ M 406 i ≤ 60) ∧ ((M 360 i = -1 ∧ M 409 i = -1) ∨ (M 360 i = M 409 i ∧ 0 ≤ M 409 i ∧ M 409 i ≤ 100000)) := h.2.2
/-- what lies there -/
def IY (M : MEM) : Prop := (M 338 1 = M 364 55 ∧ 0 ≤ M 364 55 ∧ M 364 55 ≤ 8) ∧ (∀ i : Int, 0 ≤ i → i < M 364 55 → M 339 i = M 398 i)
theorem iy_n {M : MEM} (h : IY M) : M 338 1 = M 364 55 ∧ 0 ≤ M 364 55 ∧ M 364 55 ≤ 8 := h.1
theorem iy_v {M : MEM} (h : IY M) : ∀ i : Int, 0 ≤ i → i < M 364 55 → M 339 i = M 398 i := h.2
/-- all of it -/
def INV (c : Nat) (R M : MEM) (b : Int) (N : NTW) : Prop := (RG R b) ∧ (IA M b N) ∧ (IT M) ∧ (IF M) ∧ (IW M) ∧ (IS M N c) ∧ (IB M N c) ∧ (IP M) ∧ (IG M N) ∧ (IY M)
theorem in_r {c : Nat} {R M : MEM} {b : Int} {N : NTW} (h : INV c R M b N) : RG R b := h.1
theorem in_a {c : Nat} {R M : MEM} {b : Int} {N : NTW} (h : INV c R M b N) : IA M b N := h.2.1
theorem in_t {c : Nat} {R M : MEM} {b : Int} {N : NTW} (h : INV c R M b N) : IT M := h.2.2.1
theorem in_f {c : Nat} {R M : MEM} {b : Int} {N : NTW} (h : INV c R M b N) : IF M := h.2.2.2.1
theorem in_w {c : Nat} {R M : MEM} {b : Int} {N : NTW} (h : INV c R M b N) : IW M := h.2.2.2.2.1
theorem in_s {c : Nat} {R M : MEM} {b : Int} {N : NTW} (h : INV c R M b N) : IS M N c := h.2.2.2.2.2.1
theorem in_b {c : Nat} {R M : MEM} {b : Int} {N : NTW} (h : INV c R M b N) : IB M N c := h.2.2.2.2.2.2.1
theorem in_p {c : Nat} {R M : MEM} {b : Int} {N : NTW} (h : INV c R M b N) : IP M := h.2.2.2.2.2.2.2.1
theorem in_g {c : Nat} {R M : MEM} {b : Int} {N : NTW} (h : INV c R M b N) : IG M N := h.2.2.2.2.2.2.2.2.1
theorem in_y {c : Nat} {R M : MEM} {b : Int} {N : NTW} (h : INV c R M b N) : IY M := h.2.2.2.2.2.2.2.2.2
def Inv (c : Nat) (R M : MEM) : Prop := ∃ b N, INV c R M b N
/-- what is no scratch -/
def KP (q j : Int) : Prop := (q = 0 ∧ j = 14) ∨ (1 ≤ q ∧ q ≤ 25 ∧ q ≠ 13) ∨ (q = 27 ∧ j = 1) ∨ q = 28 ∨ q = 29 ∨ (q = 33 ∧ (j = 0 ∨ j = 1)) ∨ (q = 36 ∧ 1 ≤ j ∧ j ≤ 3) ∨ (38 ≤ q ∧ q ≤ 242) ∨ (244 ≤ q ∧ q ≤ 260) ∨ (q = 338 ∧ j = 1) ∨ q = 339 ∨ (q = 342 ∧ j = 0) ∨ q = 343 ∨ q = 345 ∨ (q = 355 ∧ j = 0) ∨ (356 ≤ q ∧ q ≤ 360) ∨ (q = 364 ∧ (j = 2 ∨ j = 4 ∨ j = 5 ∨ j = 36 ∨ j = 47 ∨ j = 51 ∨ j = 52 ∨ j = 55 ∨ j = 61 ∨ j = 70 ∨ j = 71)) ∨ q = 365 ∨ (367 ≤ q ∧ q ≤ 383) ∨ q = 387 ∨ q = 388 ∨ (q = 392 ∧ 0 ≤ j ∧ j < 218) ∨ q = 394 ∨ (q = 396 ∧ 0 ≤ j ∧ j < 3) ∨ q = 397 ∨ (q = 398 ∧ 0 ≤ j) ∨ (403 ≤ q ∧ q ≤ 409) ∨ q = 413 ∨ q = 414
theorem SKY_agree {δ : Int} {A A' : MEM} {S S' : SK} (h : SKY δ A S) (e : ∀ r j, 0 ≤ r → r < 5 → A' r j = A r j) (e2 : ∀ i, 0 ≤ i → i < 218 → S' i = S i) : SKY δ A' S' := by
  obtain ⟨a1, a2, a3, a4, a5, a6, a7, a8, a9, a10⟩ := h
  refine ⟨fun w l w0 w1 l0 l1 => ?_, fun u u0 u1 => ?_, fun u u0 u1 => ?_, ?_, ?_, ?_, ?_, ?_, ?_, ?_⟩
  · rw [e _ _ (by decide) (by decide), e2 216 (by decide) (by decide), a1 w l w0 w1 l0 l1]
    split
    · rw [e2 _ (by omega) (by omega)]
    · rfl
  · rw [e _ _ (by decide) (by decide), e2 _ (by omega) (by omega)]; exact a2 u u0 u1
  · rw [e _ _ (by decide) (by decide), e2 _ (by omega) (by omega)]; exact a3 u u0 u1
  · rw [e _ _ (by decide) (by decide), e2 _ (by decide) (by decide)]; exact a4
  · rw [e _ _ (by decide) (by decide), e2 _ (by decide) (by decide)]; exact a5
  · rw [e _ _ (by decide) (by decide), sm_congr (f := S') (g := S) 192 fun i g0 g1 => e2 i g0 (by omega)]; exact a6
  · rw [e _ _ (by decide) (by decide), e2 _ (by decide) (by decide)]; exact a7
  · rw [e _ _ (by decide) (by decide), e2 _ (by decide) (by decide)]; exact a8
  · rw [e _ _ (by decide) (by decide), e2 _ (by decide) (by decide)]; exact a9
  · rw [e _ _ (by decide) (by decide), e2 _ (by decide) (by decide)]; exact a10
theorem OKS_agree {N : NTW} {S S' : SK} {K : Int} (h : OKS N S K) (e2 : ∀ i, 0 ≤ i → i < 218 → S' i = S i) (h8 : 0 ≤ S' 218) (hT : 0 ≤ N 0 0 ∧ N 0 0 ≤ 10) (hw : 0 ≤ N 0 2) : OKS N S' K := by
  obtain ⟨a1, a2, a3, a4, a5⟩ := h
  refine ⟨fun i h0 h1 => ?_, ?_, fun i g0 g1 => ?_, fun i g0 g1 => ?_, fun t g0 g1 g2 => ?_⟩
  · by_cases h : i = 218
    · rw [h]; exact h8
    · rw [e2 i h0 (by omega)]; exact a1 i h0 h1
  · unfold ms
    rw [sm_congr (f := S') (g := S) 202 fun i g0 g1 => e2 i g0 (by omega), e2 _ (by decide) (by decide), e2 _ (by decide) (by decide)]
    exact a2
  · rw [e2 i (by omega) (by omega)]; exact a3 i g0 g1
  · rw [e2 i (by omega) (by omega)]; exact a4 i g0 g1
  · rw [e2 _ (by omega) (by omega)]; exact a5 t g0 g1 g2
theorem BD_agree {S S' : SK} (h : BD S) (e2 : ∀ i, 0 ≤ i → i < 218 → S' i = S i) : BD S' := by
  refine ⟨?_, fun t t0 t1 => ?_⟩
  · rw [e2 _ (by decide) (by decide), e2 _ (by decide) (by decide)]; exact h.1
  · rw [e2 _ (by omega) (by omega), e2 _ (by decide) (by decide)]; exact h.2 t t0 t1
theorem GD_mono {N : NTW} {S : SK} {c c' : Nat} (h : GD N S c) (hc : c ≤ c') : GD N S c' := ⟨h.1.mono (by omega), h.2.1, h.2.2.1, h.2.2.2.1, by have := h.2.2.2.2; omega⟩
theorem NM_of {M M' : MEM} {b : Int} {N : NTW} (h : NM M b N) (e0 : M' 364 36 = M 364 36) (e : ∀ q, 367 ≤ q → q ≤ 383 → M' q = M q) (e2 : M' 394 = M 394) : NM M' b N := by
  obtain ⟨a1, a2, a3, b1, b2, b3, b4, b5, b6, c1, c2, c3, c4, c5, c6, c7, c8, c9⟩ := h
  refine ⟨by rw [e0]; exact a1, a2, a3, ?_, ?_, ?_, ?_, ?_, ?_, ?_, ?_, ?_, ?_, ?_, ?_, ?_, ?_, ?_⟩
  · rw [e _ (by decide) (by decide)]; exact b1
  · rw [e _ (by decide) (by decide)]; exact b2
  · rw [e _ (by decide) (by decide)]; exact b3
  · rw [e _ (by decide) (by decide)]; exact b4
  · rw [e _ (by decide) (by decide)]; exact b5
  · rw [e _ (by decide) (by decide)]; exact b6
  · rw [e _ (by decide) (by decide)]; exact c1
  · rw [e _ (by decide) (by decide)]; exact c2
  · rw [e _ (by decide) (by decide)]; exact c3
  · rw [e _ (by decide) (by decide)]; exact c4
  · rw [e _ (by decide) (by decide)]; exact c5
  · rw [e _ (by decide) (by decide)]; exact c6
  · rw [e _ (by decide) (by decide)]; exact c7
  · rw [e2]; exact c8
  · rw [e _ (by decide) (by decide)]; exact c9
theorem NC_of9 {M M' : MEM} {n : Int} {N : NTW} (h : NC M n N) (e : ∀ q, n ≤ q → q ≤ n + 9 → M' q = M q) : NC M' n N := by
  obtain ⟨a1, a2, a3, a4, a5, a6, b1, b2, b3, b4, b5, b6, b7, b8, b9⟩ := h
  refine ⟨?_, ?_, ?_, ?_, ?_, ?_, ?_, ?_, ?_, ?_, ?_, ?_, ?_, ?_, ?_⟩
  · rw [e _ (by omega) (by omega)]; exact a1
  · rw [e _ (by omega) (by omega)]; exact a2
  · rw [e _ (by omega) (by omega)]; exact a3
  · rw [e _ (by omega) (by omega)]; exact a4
  · rw [e _ (by omega) (by omega)]; exact a5
  · rw [e _ (by omega) (by omega)]; exact a6
  all_goals intro t t0 t1
  all_goals rw [e _ (by omega) (by omega)]
  · exact b1 t t0 t1
  · exact b2 t t0 t1
  · exact b3 t t0 t1
  · exact b4 t t0 t1
  · exact b5 t t0 t1
  · exact b6 t t0 t1
  · exact b7 t t0 t1
  · exact b8 t t0 t1
  · exact b9 t t0 t1
/-! parts: what they rest on -/
theorem IA_of {M M' : MEM} {b : Int} {N : NTW} (h : IA M b N) (e0 : M' 364 36 = M 364 36) (e : ∀ q, 1 ≤ q → q ≤ 25 → q ≠ 13 → M' q = M q) (e1 : ∀ q, 367 ≤ q → q ≤ 383 → M' q = M q) (e2 : M' 394 = M 394) (e3 : M' 387 = M 387) (e4 : M' 388 = M 388) : IA M' b N := by
  obtain ⟨a1, a2, a3, a4, a5⟩ := h
  have b0 := nm_b0 a1
  have b1 := nm_b1 a1
  refine ⟨NM_of a1 e0 e1 e2, a2, NC_of9 a3 fun q h0 h1 => e q (by omega) (by omega) (by omega), fun w w0 w1 => by rw [e1 _ (by decide) (by decide)]; exact a4 w w0 w1, fun c c0 c1 => ?_⟩
  obtain ⟨s, e', H, h1, h2, h3, h4, h5, h6, h7, h8, h9, h10⟩ := a5 c c0 c1
  refine ⟨s, e', H, h1, h2, h3, ?_, ?_, ?_, ?_, h8, h9, fun i i0 i1 => ?_⟩
  · rw [e _ (by omega) (by omega) (by omega)]; exact h4
  · rw [e _ (by omega) (by omega) (by omega)]; exact h5
  · rw [e1 _ (by decide) (by decide)]; exact h6
  · rw [e1 _ (by decide) (by decide)]; exact h7
  · rw [e _ (by omega) (by omega) (by omega), e3, e4]
    exact h10 i i0 i1
theorem IT_of {M M' : MEM} (h : IT M) (e0 : M' 364 2 = M 364 2) (e1 : M' 27 1 = M 27 1) (e2 : M' 28 = M 28) (e3 : M' 29 = M 29) (e4 : M' 365 = M 365) : IT M' := by
  unfold IT at h ⊢
  rw [e0, e1, e2, e3, e4]
  exact h
theorem IF_of {M M' : MEM} (h : IF M) (e0 : M' 33 0 = M 33 0) (e1 : M' 33 1 = M 33 1) (e2 : M' 364 4 = M 364 4) (e3 : M' 364 5 = M 364 5) (e4 : M' 364 47 = M 364 47) (e5 : 0 ≤ M' 364 49) : IF M' := ⟨by rw [e0, e2]; exact if_k h, by rw [e1, e3]; exact if_p h, by rw [e4]; exact if_l h, e5⟩
theorem IW_of {M M' : MEM} (h : IW M) (e0 : ∀ i, 0 ≤ i → i < 3 → M' 260 i = M 260 i) (e1 : ∀ i, 0 ≤ i → i < 3 → M' 396 i = M 396 i) : IW M' := fun i i0 i1 => by
  rw [e0 i i0 i1, e1 i i0 i1]
  exact h i i0 i1
theorem stt_of {M M' : MEM} (e0 : M' 364 51 = M 364 51) (e1 : ∀ i, 0 ≤ i → i < 218 → M' 392 i = M 392 i) (e2 : M' 397 = M 397) (k : Int) : cut (stt M' k) = cut (stt M k) := by
  funext i
  unfold cut stt
  split
  · rename_i h
    rw [e0, e2, e1 i h.1 h.2]
  · rfl
theorem IS_of {M M' : MEM} {N : NTW} {c c' : Nat} (h : IS M N c) (hc : c ≤ c') (e0 : ∀ j, 1 ≤ j → j ≤ 3 → M' 36 j = M 36 j) (e1 : ∀ q, 38 ≤ q → q ≤ 242 → M' q = M q) (e2 : M' 364 51 = M 364 51) (e3 : M' 364 52 = M 364 52) (e4 : ∀ i, 0 ≤ i → i < 218 → M' 392 i = M 392 i) (e5 : M' 397 = M 397) : IS M' N c' := by
  obtain ⟨a1, a2, a3, a4, a5⟩ := h
  refine ⟨by rw [e0 1 (by decide) (by decide)]; exact a1, by rw [e0 2 (by decide) (by decide), e2]; exact a2, by rw [e0 3 (by decide) (by decide), e3]; exact a3, by rw [e2, e3]; exact a4, fun k k0 k1 => ?_⟩
  rw [e2] at k0
  rw [e3] at k1
  rw [e0 1 (by decide) (by decide), stt_of e2 e4 e5]
  obtain ⟨b1, b2⟩ := a5 k k0 k1
  refine ⟨SKY_agree b1 (fun r j r0 r1 => ?_) fun i _ _ => rfl, GD_mono b2 hc⟩
  show M' _ j = M _ j
  rw [e1 _ (by omega) (by omega)]
theorem IB_of {M M' : MEM} {N : NTW} {c c' : Nat} (h : IB M N c) (hc : c ≤ c') (e0 : M' 259 = M 259) (e1 : ∀ q, 244 ≤ q → q ≤ 258 → M' q = M q) (e2 : M' 413 = M 413) (e3 : M' 414 = M 414) : IB M' N c' := fun j j0 j1 => by
  obtain ⟨a1, a2⟩ := h j j0 j1
  rw [e0, e2, e3]
  refine ⟨a1, a2.imp id fun a => ⟨a.1, SKY_agree a.2.1 (fun r i r0 r1 => ?_) fun i _ _ => rfl, GD_mono a.2.2 hc⟩⟩
  show M' _ i = M _ i
  rw [e1 _ (by omega) (by omega)]
theorem IP_of {M M' : MEM} (h : IP M) (e0 : M' 342 0 = M 342 0) (e1 : M' 364 61 = M 364 61) (e2 : M' 345 = M 345) (e3 : M' 343 = M 343) (e4 : M' 403 = M 403) (e5 : M' 404 = M 404) : IP M' := by
  unfold IP at h ⊢
  rw [e0, e1, e2, e3, e4, e5]
  exact h
theorem IG_of {M M' : MEM} {N : NTW} (h : IG M N) (e0 : M' 355 0 = M 355 0) (e1 : M' 364 70 = M 364 70) (e2 : M' 364 71 = M 364 71) (e3 : M' 0 14 = M 0 14) (e4 : ∀ q, 356 ≤ q → q ≤ 360 → M' q = M q) (e5 : ∀ q, 405 ≤ q → q ≤ 409 → M' q = M q) : IG M' N := by
  unfold IG at h ⊢
  rw [e0, e1, e2, e3, e4 356 (by decide) (by decide), e4 357 (by decide) (by decide), e4 358 (by decide) (by decide), e4 359 (by decide) (by decide), e4 360 (by decide) (by decide), e5 405 (by decide) (by decide), e5 406 (by decide) (by decide), e5 407 (by decide) (by decide), e5 408 (by decide) (by decide), e5 409 (by decide) (by decide)]
  exact h
theorem IY_of {M M' : MEM} (h : IY M) (e0 : M' 338 1 = M 338 1) (e1 : M' 364 55 = M 364 55) (e2 : M' 339 = M 339) (e3 : ∀ i, 0 ≤ i → M' 398 i = M 398 i) : IY M' := ⟨by rw [e0, e1]; exact h.1, fun i i0 i1 => by rw [e1] at i1; rw [e2, e3 i i0]; exact h.2 i i0 i1⟩
/-- scratch alone has changed -/
theorem INV_keep {c c' : Nat} {R M M' : MEM} {b : Int} {N : NTW} (h : INV c R M b N) (hc : c ≤ c') (e : ∀ q j, KP q j → M' q j = M q j) (h9 : 0 ≤ M' 364 49) : INV c' R M' b N := by
  have er : ∀ q, (∀ j, KP q j) → M' q = M q := fun q hq => funext fun j => e q j (hq j)
  obtain ⟨hr, ha, ht, hf, hw, hs, hb, hp, hg, hy⟩ := h
  have k : ∀ {q j}, KP q j → M' q j = M q j := fun {q j} z => e q j z
  refine ⟨hr, IA_of ha (e _ _ (by unfold KP; omega)) (fun q h0 h1 h2 => er q fun j => by unfold KP; omega) (fun q h0 h1 => er q fun j => by unfold KP; omega) (er _ fun j => by unfold KP; omega) (er _ fun j => by unfold KP; omega) (er _ fun j => by unfold KP; omega), IT_of ht (e _ _ (by unfold KP; omega)) (e _ _ (by unfold KP; omega)) (er _ fun j => by unfold KP; omega) (er _ fun j => by unfold KP; omega) (er _ fun j => by unfold KP; omega), IF_of hf (e _ _ (by unfold KP; omega)) (e _ _ (by unfold KP; omega)) (e _ _ (by unfold KP; omega)) (e _ _ (by unfold KP; omega)) (e _ _ (by unfold KP; omega)) h9, IW_of hw (fun i _ _ => e _ _ (by unfold KP; omega)) (fun i _ _ => e _ _ (by unfold KP; omega)), IS_of hs hc (fun j _ _ => e _ _ (by unfold KP; omega)) (fun q h0 h1 => er q fun j => by unfold KP; omega) (e _ _ (by unfold KP; omega)) (e _ _ (by unfold KP; omega)) (fun i _ _ => e _ _ (by unfold KP; omega)) (er _ fun j => by unfold KP; omega), IB_of hb hc (er _ fun j => by unfold KP; omega) (fun q h0 h1 => er q fun j => by unfold KP; omega) (er _ fun j => by unfold KP; omega) (er _ fun j => by unfold KP; omega), IP_of hp (e _ _ (by unfold KP; omega)) (e _ _ (by unfold KP; omega)) (er _ fun j => by unfold KP; omega) (er _ fun j => by unfold KP; omega) (er _ fun j => by unfold KP; omega) (er _ fun j => by unfold KP; omega), IG_of hg (e _ _ (by unfold KP; omega)) (e _ _ (by unfold KP; omega)) (e _ _ (by unfold KP; omega)) (e _ _ (by unfold KP; omega)) (fun q h0 h1 => er q fun j => by unfold KP; omega) (fun q h0 h1 => er q fun j => by unfold KP; omega), IY_of hy (e _ _ (by unfold KP; omega)) (e _ _ (by unfold KP; omega)) (er _ fun j => by unfold KP; omega) (fun i _ => e _ _ (by unfold KP; omega))⟩
