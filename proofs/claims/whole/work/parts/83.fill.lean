/-! PATHS: the tables -/
section
variable {N : NTW}
theorem BF1 (b s t : Int) : Bf N 1 b s t = Ff N 1 b s t := by
  show (if b = 0 ∧ s = t then 1 else 0) + sm (fun w => if N 6 w = s ∧ N 8 w ≤ b then (if b - N 8 w = 0 ∧ N 7 w = t then 1 else 0) else 0) 0 (N 0 2).toNat = (if b = 0 ∧ s = t then 1 else 0) + sm (fun w => if N 7 w = t ∧ N 8 w ≤ b then (if b - N 8 w = 0 ∧ s = N 6 w then 1 else 0) else 0) 0 (N 0 2).toNat
  congr 1
  refine sm_congr _ fun w _ _ => ?_
  show (if N 6 w = s ∧ N 8 w ≤ b then (if b - N 8 w = 0 ∧ N 7 w = t then (1 : Int) else 0) else 0) = if N 7 w = t ∧ N 8 w ≤ b then (if b - N 8 w = 0 ∧ s = N 6 w then (1 : Int) else 0) else 0
  by_cases h : N 6 w = s ∧ N 7 w = t ∧ b - N 8 w = 0
  · rw [if_pos ⟨h.1, by omega⟩, if_pos ⟨h.2.2, h.2.1⟩, if_pos ⟨h.2.1, by omega⟩, if_pos ⟨h.2.2, h.1.symm⟩]
  · have e1 : (if N 6 w = s ∧ N 8 w ≤ b then (if b - N 8 w = 0 ∧ N 7 w = t then (1 : Int) else 0) else 0) = 0 := by
      split
      · rename_i g
        exact if_neg fun z => h ⟨g.1, z.2, z.1⟩
      · rfl
    have e2 : (if N 7 w = t ∧ N 8 w ≤ b then (if b - N 8 w = 0 ∧ s = N 6 w then (1 : Int) else 0) else 0) = 0 := by
      split
      · rename_i g
        exact if_neg fun z => h ⟨z.2.symm, g.1, z.1⟩
      · rfl
    rw [e1, e2]
theorem BF (hW : WN N) : ∀ k : Nat, (∀ b s t, Bf N k b s t = Ff N k b s t) ∧ (∀ b s t, Bf N (k + 1) b s t = Ff N (k + 1) b s t)
  | 0 => ⟨fun _ _ _ => rfl, BF1⟩
  | k + 1 => ⟨(BF hW k).2, BF2 hW (BF hW k).1 (BF hW k).2⟩
theorem imin_mn9 (x : Int) : imin 1000000000 x = mn9 x := by
  unfold imin mn9
  split <;> split <;> omega
/-- how many paths of b beats lead from s to t -/
def pth (N : NTW) (b s t : Int) : Int := Bf N 61 b s t
theorem pth_nn (b s t : Int) : 0 ≤ pth N b s t := Bf_nn _ _ _ _
/-- the part of the sum on the first u ways -/
def psB (N : NTW) (b s t : Int) (u : Int) : Int := (if b = 0 ∧ s = t then 1 else 0) + sm (fun w => if N 6 w = s ∧ N 8 w ≤ b then pth N (b - N 8 w) (N 7 w) t else 0) 0 u.toNat
def psF (N : NTW) (b s t : Int) (u : Int) : Int := (if b = 0 ∧ s = t then 1 else 0) + sm (fun w => if N 7 w = t ∧ N 8 w ≤ b then pth N (b - N 8 w) s (N 6 w) else 0) 0 u.toNat
theorem psB_end (hW : WN N) {b s t : Int} (h : b ≤ 61) : psB N b s t (N 0 2) = pth N b s t := by
  unfold pth psB
  rw [Bf_fuel hW 61 b s t h]
  rfl
theorem psF_end (hW : WN N) {b s t : Int} (h : b ≤ 61) : psF N b s t (N 0 2) = pth N b s t := by
  unfold pth psF
  rw [Bf_fuel hW 61 b s t h, (BF hW 61).2]
  show _ = (if b = 0 ∧ s = t then 1 else 0) + sm (fun w => if N 7 w = t ∧ N 8 w ≤ b then Ff N 61 (b - N 8 w) s (N 6 w) else 0) 0 (N 0 2).toNat
  congr 1
  refine sm_congr _ fun w _ _ => ?_
  show (if N 7 w = t ∧ N 8 w ≤ b then Bf N 61 (b - N 8 w) s (N 6 w) else 0) = if N 7 w = t ∧ N 8 w ≤ b then Ff N 61 (b - N 8 w) s (N 6 w) else 0
  rw [(BF hW 61).1]
theorem psB_nn (b s t u : Int) : 0 ≤ psB N b s t u := by
  unfold psB
  have h1 : (0 : Int) ≤ (if b = 0 ∧ s = t then 1 else 0) := by split <;> decide
  have h2 := sm_nn (f := fun w => if N 6 w = s ∧ N 8 w ≤ b then pth N (b - N 8 w) (N 7 w) t else 0) (a := 0) u.toNat fun w _ _ => by
    show (0 : Int) ≤ if N 6 w = s ∧ N 8 w ≤ b then pth N (b - N 8 w) (N 7 w) t else 0
    split
    · exact pth_nn _ _ _
    · decide
  omega
theorem psF_nn (b s t u : Int) : 0 ≤ psF N b s t u := by
  unfold psF
  have h1 : (0 : Int) ≤ (if b = 0 ∧ s = t then 1 else 0) := by split <;> decide
  have h2 := sm_nn (f := fun w => if N 7 w = t ∧ N 8 w ≤ b then pth N (b - N 8 w) s (N 6 w) else 0) (a := 0) u.toNat fun w _ _ => by
    show (0 : Int) ≤ if N 7 w = t ∧ N 8 w ≤ b then pth N (b - N 8 w) s (N 6 w) else 0
    split
    · exact pth_nn _ _ _
    · decide
  omega
theorem psB_step {b s t u : Int} (u0 : 0 ≤ u) : psB N b s t (u + 1) = psB N b s t u + if N 6 u = s ∧ N 8 u ≤ b then pth N (b - N 8 u) (N 7 u) t else 0 := by
  unfold psB
  rw [show (u + 1).toNat = u.toNat + 1 by omega]
  show _ + (sm _ 0 u.toNat + (fun w => if N 6 w = s ∧ N 8 w ≤ b then pth N (b - N 8 w) (N 7 w) t else 0) (0 + (u.toNat : Int))) = _
  rw [show 0 + (u.toNat : Int) = u by omega]
  show _ + (_ + if N 6 u = s ∧ N 8 u ≤ b then pth N (b - N 8 u) (N 7 u) t else 0) = _
  omega
theorem psF_step {b s t u : Int} (u0 : 0 ≤ u) : psF N b s t (u + 1) = psF N b s t u + if N 7 u = t ∧ N 8 u ≤ b then pth N (b - N 8 u) s (N 6 u) else 0 := by
  unfold psF
  rw [show (u + 1).toNat = u.toNat + 1 by omega]
  show _ + (sm _ 0 u.toNat + (fun w => if N 7 w = t ∧ N 8 w ≤ b then pth N (b - N 8 w) s (N 6 w) else 0) (0 + (u.toNat : Int))) = _
  rw [show 0 + (u.toNat : Int) = u by omega]
  show _ + (_ + if N 7 u = t ∧ N 8 u ≤ b then pth N (b - N 8 u) s (N 6 u) else 0) = _
  omega
end
section
variable {d : Nat} {R M : MEM} {n t b : Int} {N : NTW} {Q : RES}
theorem akPa {u i : Int} {P : Prop} (u0 : 0 ≤ u) (u1 : u < 61) : aok SHX 100 (276 + u) i P = (0 ≤ i ∧ i < 10 ∧ P) := by
  have h : ∀ k : Fin 61, shk SHX (276 + ((k.val : Nat) : Int)) = (100, 10) := by decide +kernel
  have := h ⟨u.toNat, by omega⟩
  simp only [Int.toNat_of_nonneg u0] at this
  exact ak_mk this
theorem c_fill (hc : RC R) (hN : NR R n) (hC : NC M n N) (hW : WN N) (n1 : n ≤ 14) (hq : ∀ M', (∀ q, (q < 276 ∨ 336 < q) → M' q = M q) → (∀ u s, 0 ≤ u → u ≤ 60 → 0 ≤ s → s < N 0 0 → M' (276 + u) s = mn9 (pth N u s t)) → Q 0 SHX R M') : Mw d 53 [vr 274, vr n, vi t] SHX R M 0 0 Q := by
  have hT := wn_T hW
  have hw := wn_W hW
  refine Mw_of mok53 rfl fun _ _ => b_X6_fill_0 ?_
  have cell : ∀ M' : MEM, (∀ q, (q < 276 ∨ 336 < q) → M' q = M q) → NC M' n N := fun M' f => NC_of9 hC fun q q0 q1 => f q (by omega)
  have L2 : ∀ b : Int, 0 ≤ b → b ≤ 61 → ∀ M', (∀ q, (q < 276 ∨ 336 < q) → M' q = M q) → (∀ u s, 0 ≤ u → u < b → 0 ≤ s → s < N 0 0 → M' (276 + u) s = mn9 (pth N u s t)) → Go d 53 Q 2 [vr 274, vr n, vi t, vi b, vn, vn, vn] [] SHX R M' 0 0 := by
    refine upto (fun M' f h => ?_) fun b b0 b1 ih M' f h => ?_
    · refine b_X6_fill_2 ?_
      rw [if_pos (by decide)]
      exact hq M' f fun u s u0 u1 s0 s1 => h u s u0 (by omega) s0 s1
    · refine b_X6_fill_2 ?_
      rw [if_neg (by omega)]
      have L29 : ∀ w : Int, 0 ≤ w → w ≤ N 0 2 → ∀ M', (∀ q, (q < 276 ∨ 336 < q) → M' q = M q) → (∀ u s, 0 ≤ u → u < b → 0 ≤ s → s < N 0 0 → M' (276 + u) s = mn9 (pth N u s t)) → (∀ s, 0 ≤ s → s < N 0 0 → M' (276 + b) s = mn9 (psB N b s t w)) → Go d 53 Q 29 [vr 274, vr n, vi t, vi b, vi w, vn, vn] [] SHX R M' 0 0 := by
        refine upto (fun M' f h g => ?_) fun w w0 w1 ih2 M' f h g => ?_
        · refine b_X6_fill_29 ?_
          rw [okN hN, nc_W (cell M' f), if_neg (by omega), iadd_of (by omega) (by omega)]
          refine ih M' f fun u s u0 u1 s0 s1 => ?_
          by_cases hu : u = b
          · rw [hu, g s s0 s1, psB_end hW (by omega)]
          · exact h u s u0 (by omega) s0 s1
        · have wf := wn_wf hW w w0 w1
          have wt := wn_wt hW w w0 w1
          have wb := wn_wb hW w w0 w1
          have C := cell M' f
          refine b_X6_fill_29 ?_
          rw [okN hN, nc_W C, if_pos w1, okN hN, nr10 hN, aN8 hN, nc8 C w w0 w1, iadd_of (x := w) (by omega) (by omega)]
          refine ⟨w0, by omega, ?_⟩
          by_cases hb : b < N 8 w
          · rw [if_pos hb]
            refine ih2 M' f h fun s s0 s1 => ?_
            rw [g s s0 s1, psB_step w0, if_neg (by omega), Int.add_zero]
          · have e1 := h (b - N 8 w) (N 7 w) (by omega) (by omega) wt.1 wt.2
            have e2 := g (N 6 w) wf.1 wf.2
            have p1 := mn9_b (psB_nn (N := N) b (N 6 w) t w)
            have p2 := mn9_b (pth_nn (N := N) (b - N 8 w) (N 7 w) t)
            rw [if_neg hb, okN hN, nr8 hN, nr9 hN, aN6 hN, aN7 hN, nc6 C w w0 w1, nc7 C w w0 w1, rc274_0 hc, isub_of (by omega) (by omega), rc275 hc (by omega) (by omega), rc275 hc (by omega) (by omega), akPa (by omega) (by omega), e2, e1, iadd_of (by omega) (by omega)]
            simp only [ok274, okN hN, ak275, aN7 hN, aN8 hN]
            rw [akPa (by omega) (by omega), akPa (by omega) (by omega)]
            refine ⟨w0, by omega, by omega, by omega, wf.1, by omega, w0, by omega, by omega, by omega, w0, by omega, wt.1, by omega, by omega, by omega, wf.1, by omega, ?_⟩
            refine ih2 _ (fun q hq => by rw [stm_ne (by omega), f q hq]) (fun u s u0 u1 s0 s1 => by rw [stm_neq (by omega), h u s u0 u1 s0 s1]) fun s s0 s1 => ?_
            rw [psB_step w0]
            by_cases hs : s = N 6 w
            · rw [hs, stm_hit, if_pos ⟨rfl, by omega⟩, ← mn9_add (psB_nn _ _ _ _) (pth_nn _ _ _)]
              exact imin_mn9 _
            · rw [stm_neq (by omega), g s s0 s1, if_neg (by omega), Int.add_zero]
      have L7 : ∀ s : Int, 0 ≤ s → s ≤ N 0 0 → ∀ M', (∀ q, (q < 276 ∨ 336 < q) → M' q = M q) → (∀ u s, 0 ≤ u → u < b → 0 ≤ s → s < N 0 0 → M' (276 + u) s = mn9 (pth N u s t)) → (∀ j, 0 ≤ j → j < s → M' (276 + b) j = mn9 (psB N b j t 0)) → Go d 53 Q 7 [vr 274, vr n, vi t, vi b, vi s, vn, vn] [] SHX R M' 0 0 := by
        refine upto (fun M' f h g => ?_) fun s s0 s1 ih2 M' f h g => ?_
        · refine b_X6_fill_7 ?_
          rw [okN hN, nc_T (cell M' f), if_neg (by omega)]
          exact L29 0 (by decide) hw.1 M' f h g
        · have nx : ∀ x, x = mn9 (psB N b s t 0) → Go d 53 Q 7 [vr 274, vr n, vi t, vi b, vi (s + 1), vn, vn] [] SHX R (stm M' (276 + b) s x) 0 0 := fun x hx => by
            refine ih2 _ (fun q hq => by rw [stm_ne (by omega), f q hq]) (fun u s u0 u1 s0 s1 => by rw [stm_neq (by omega), h u s u0 u1 s0 s1]) fun j j0 j1 => ?_
            by_cases hj : j = s
            · rw [hj, stm_hit, hx]
            · rw [stm_neq (by omega), g j j0 (by omega)]
          have v : psB N b s t 0 = if b = 0 ∧ s = t then 1 else 0 := by
            show (if b = 0 ∧ s = t then (1 : Int) else 0) + 0 = _
            omega
          refine b_X6_fill_7 ?_
          rw [okN hN, nc_T (cell M' f), if_pos s1, ok274, rc274_0 hc, ak275, rc275 hc (by omega) (by omega), akPa (by omega) (by omega), akPa (by omega) (by omega), iadd_of (x := s) (by omega) (by omega)]
          refine ⟨by omega, by omega, ?_⟩
          by_cases hb : b = 0
          · rw [if_pos hb]
            by_cases hs : s = t
            · rw [if_pos hs]
              exact ⟨s0, by omega, nx 1 (by rw [v, if_pos ⟨hb, hs⟩]; rfl)⟩
            · rw [if_neg hs]
              exact ⟨s0, by omega, nx 0 (by rw [v, if_neg fun z => hs z.2]; rfl)⟩
          · rw [if_neg hb]
            exact ⟨s0, by omega, nx 0 (by rw [v, if_neg fun z => hb z.1]; rfl)⟩
      exact L7 0 (by decide) hT.1 M' f h fun j j0 j1 => by omega
  exact L2 0 (by decide) (by decide) M (fun _ _ => rfl) fun u s u0 u1 => by omega
end
