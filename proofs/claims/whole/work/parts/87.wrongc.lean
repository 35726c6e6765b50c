/-! CLAIMS: wrong rows, the class -/
/-- the claim is wrong for the row of this number -/
def bad (N : NTW) (M : MEM) (b c m y v : Int) : Prop := vlR M b c (lay N m v) ≠ rk N (lay N m v) y (N 9 c)
def wrp (r x : Int) : Int := if x < r then x else x - r
section
variable {d : Nat} {R M : MEM} {b n x y z t m c : Int} {N : NTW} {Q : RES}
theorem bad_of {M' : MEM} {v : Int} (e3 : M' 382 = M 382) (e4 : M' 383 = M 383) (e5 : M' 387 = M 387) (e6 : M' 388 = M 388) : bad N M' b c m y v ↔ bad N M b c m y v := by
  unfold bad
  rw [vlR_of e3 e4 e5 e6]
theorem ASK_of {M' : MEM} (h : ASK N c m y M) (e : M' 340 = M 340) : ASK N c m y M' := by
  unfold ASK at h ⊢
  rw [e]
  exact h
theorem c_wf1 {idx : Int} {G : SHP → MEM → MEM → Prop} (hc : RC R) (hN : NR R n) (hC : NC M n N) (hW : WN N) (n1 : n ≤ 14) (hE : CDE M b n N) (c0 : 0 ≤ c) (c1 : c < N 0 3) (m0 : 0 ≤ m) (m1 : m ≤ 99) (y0 : 0 ≤ y) (y1 : y ≤ 200) (hA : ASK N c m y M) (i0 : 0 ≤ idx) (i1 : idx ≤ 1000000) (hg : ∀ M', (∀ q, q ≠ 341 → q ≠ n + 12 → (q < 262 ∨ 267 ≤ q) → M' q = M q) → (∀ s, 0 ≤ s → s < N 0 1 → M' 341 s = lay N m idx s) → ¬ bad N M b c m y idx → G SHX R M') (hq : ∀ M', (∀ q, q ≠ 341 → q ≠ n + 12 → (q < 262 ∨ 267 ≤ q) → M' q = M q) → (∀ s, 0 ≤ s → s < N 0 1 → M' 341 s = lay N m idx s) → bad N M b c m y idx → Q idx SHX R M') : Cd (d + 4) 30 [vr n, vr (R 340 3), vi (M 340 5), vi idx] SHX R M 0 0 (fun (_ : Int) (sh4 : SHP) (R4 M4 : MEM) => ook sh4 2 340 (ook sh4 2 340 (ook sh4 4 n (Cd (d + 4) 31 [vr n, vi (M4 340 4), vr (R4 340 3)] sh4 R4 M4 0 0 (fun (x5 : Int) (sh5 : SHP) (R5 M5 : MEM) => ook sh5 2 340 (ook sh5 2 340 (ook sh5 4 n (ook sh5 2 340 (aok sh5 100 (R5 n 12) (M5 340 4) (ook sh5 2 340 (ook sh5 10 (R5 340 0) (Cd (d + 4) 97 [vr (R5 340 0), vr n, vr (R5 340 3), vi (M5 (R5 n 12) (M5 340 4)), vi (M5 340 6)] sh5 R5 M5 0 0 (fun (x6 : Int) (sh6 : SHP) (R6 M6 : MEM) => (if x5 = x6 then G sh6 R6 M6 else Q idx sh6 R6 M6)))))))))))))) := by
  have c6 := wn_C hW
  have hS := wn_S hW
  have cd := wn_cd hW c c0 c1
  obtain ⟨a1, a2, a3, a4, a5, a6, a7⟩ := hA
  rw [rc340_3 hc, a2]
  refine c_setRow (d := d + 3) hN hC hW fs341 m0 (by omega) i0 (by omega) fun M1 k1 f1 => ?_
  have hC1 : NC M1 n N := NC_of9 hC fun q q0 q1 => f1 q (by omega)
  have hE1 : CDE M1 b n N := CDE_of hE (f1 _ (by omega)) (f1 _ (by omega)) (f1 _ (by omega)) (f1 _ (by omega)) (f1 _ (by omega)) (f1 _ (by omega))
  rw [ok340, ok340, okN hN, f1 340 (by decide), a1, rc340_3 hc]
  refine c_value (d := d + 2) hN fs341 (by omega) hW hE1 c0 c1 (by omega) fun M2 f2 => ?_
  have hC2 : NC M2 n N := NC_of9 hC1 fun q q0 q1 => f2 q (by omega)
  have e340 : M2 340 = M 340 := by rw [f2 _ (by omega), f1 _ (by decide)]
  have e341 : M2 341 = M1 341 := f2 _ (by omega)
  rw [ok340, ok340, okN hN, ok340, nr12 hN, aN9 hN, e340, a1, nc9 hC2 c c0 c1, a3, ok340, rc340_0 hc, ok261, rc340_3 hc]
  have hrow : ∀ s, 0 ≤ s → s < N 0 1 → M2 341 s = lay N m idx s := fun s s0 s1 => by rw [e341]; exact k1 s s0 s1
  refine ⟨c0, by omega, c_rec (d := d) hc hN hC2 hW (by omega) fs341 (by omega) (fun s s0 s1 => by rw [hrow s s0 s1]; exact lay_RW m0 (by omega) s s0 s1) y0 y1 cd.1 (by have := wn_T hW; omega) fun M3 f3 => ?_⟩
  have F : ∀ q, q ≠ 341 → q ≠ n + 12 → (q < 262 ∨ 267 ≤ q) → M3 q = M q := fun q q1 q2 q3 => by rw [f3 q q3, f2 q q2, f1 q q1]
  have hrow3 : ∀ s, 0 ≤ s → s < N 0 1 → M3 341 s = lay N m idx s := fun s s0 s1 => by rw [f3 _ (by decide)]; exact hrow s s0 s1
  have ev : vlR M1 b c (M1 341) = vlR M b c (lay N m idx) := by
    rw [vlR_row hE1 c0 c1 k1]
    exact vlR_of (f1 _ (by decide)) (f1 _ (by decide)) (f1 _ (by decide)) (f1 _ (by decide))
  have er : rk N (M2 341) y (N 9 c) = rk N (lay N m idx) y (N 9 c) := rk_row hW hrow
  rw [ev, er]
  by_cases hb : vlR M b c (lay N m idx) = rk N (lay N m idx) y (N 9 c)
  · rw [if_pos hb]
    exact hg M3 F hrow3 fun z => z hb
  · rw [if_neg hb]
    exact hq M3 F hrow3 hb
theorem c_wrongFrom {f k : Int} (hc : RC R) (hN : NR R n) (hC : NC M n N) (hW : WN N) (n1 : n ≤ 14) (hE : CDE M b n N) (c0 : 0 ≤ c) (c1 : c < N 0 3) (m0 : 0 ≤ m) (m1 : m ≤ 99) (y0 : 0 ≤ y) (y1 : y ≤ 200) (hA : ASK N c m y M) (f0 : 0 ≤ f) (f1 : f < rwsN N m) (k0 : 0 ≤ k) (k1 : k ≤ rwsN N m) (hq1 : ∀ M' i, (∀ q, q ≠ 341 → q ≠ n + 12 → (q < 262 ∨ 267 ≤ q) → M' q = M q) → 0 ≤ i → i < k → (∀ j, 0 ≤ j → j < i → ¬ bad N M b c m y (wrp (rwsN N m) (f + j))) → bad N M b c m y (wrp (rwsN N m) (f + i)) → (∀ s, 0 ≤ s → s < N 0 1 → M' 341 s = lay N m (wrp (rwsN N m) (f + i)) s) → Q (wrp (rwsN N m) (f + i)) SHX R M') (hq0 : ∀ M', (∀ q, q ≠ 341 → q ≠ n + 12 → (q < 262 ∨ 267 ≤ q) → M' q = M q) → (∀ j, 0 ≤ j → j < k → ¬ bad N M b c m y (wrp (rwsN N m) (f + j))) → Q (-1) SHX R M') : Mw (d + 4) 15 [vr 340, vr n, vi f, vi k] SHX R M 0 0 Q := by
  have hS := wn_S hW
  have hr := rwsN_b (N := N) (m := m) hS.2 m0 m1
  refine Mw_of mok15 rfl fun _ _ => b_X2_wrongFrom_0 ?_
  have key : ∀ i : Int, 0 ≤ i → i ≤ k → ∀ M', (∀ q, q ≠ 341 → q ≠ n + 12 → (q < 262 ∨ 267 ≤ q) → M' q = M q) → (∀ j, 0 ≤ j → j < i → ¬ bad N M b c m y (wrp (rwsN N m) (f + j))) → Go (d + 4) 15 Q 2 [vr 340, vr n, vi f, vi k, vi i, vn] [] SHX R M' 0 0 := by
    refine upto (fun M' g h => ?_) fun i i0 i1 ih M' g h => ?_
    · refine b_X2_wrongFrom_2 ?_
      rw [if_neg (by omega)]
      exact hq0 M' g h
    · have hC' : NC M' n N := NC_of9 hC fun q q0 q1 => g q (by omega) (by omega) (by omega)
      have hE' : CDE M' b n N := CDE_of hE (g _ (by omega) (by omega) (by omega)) (g _ (by omega) (by omega) (by omega)) (g _ (by omega) (by omega) (by omega)) (g _ (by omega) (by omega) (by omega)) (g _ (by omega) (by omega) (by omega)) (g _ (by omega) (by omega) (by omega))
      have hA' : ASK N c m y M' := ASK_of hA (g _ (by omega) (by omega) (by omega))
      have a4 : M' 340 7 = rwsN N m := hA'.2.2.2.1
      have bd : ∀ v, bad N M' b c m y v ↔ bad N M b c m y v := fun v => bad_of (g _ (by omega) (by omega) (by omega)) (g _ (by omega) (by omega) (by omega)) (g _ (by omega) (by omega) (by omega)) (g _ (by omega) (by omega) (by omega))
      have fin : ∀ idx, idx = wrp (rwsN N m) (f + i) → 0 ≤ idx → idx ≤ 1000000 → ∀ P : Prop, P = Cd (d + 4) 30 [vr n, vr (R 340 3), vi (M' 340 5), vi idx] SHX R M' 0 0 (fun (_ : Int) (sh4 : SHP) (R4 M4 : MEM) => ook sh4 2 340 (ook sh4 2 340 (ook sh4 4 n (Cd (d + 4) 31 [vr n, vi (M4 340 4), vr (R4 340 3)] sh4 R4 M4 0 0 (fun (x5 : Int) (sh5 : SHP) (R5 M5 : MEM) => ook sh5 2 340 (ook sh5 2 340 (ook sh5 4 n (ook sh5 2 340 (aok sh5 100 (R5 n 12) (M5 340 4) (ook sh5 2 340 (ook sh5 10 (R5 340 0) (Cd (d + 4) 97 [vr (R5 340 0), vr n, vr (R5 340 3), vi (M5 (R5 n 12) (M5 340 4)), vi (M5 340 6)] sh5 R5 M5 0 0 (fun (x6 : Int) (sh6 : SHP) (R6 M6 : MEM) => (if x5 = x6 then Go (d + 4) 15 Q 2 [vr 340, vr n, vi f, vi k, vi (i + 1), vn] [] sh6 R6 M6 0 0 else Q idx sh6 R6 M6)))))))))))))) → P := by
        intro idx he e0 e1 P hP
        rw [hP]
        refine c_wf1 (G := fun sh6 R6 M6 => Go (d + 4) 15 Q 2 [vr 340, vr n, vi f, vi k, vi (i + 1), vn] [] sh6 R6 M6 0 0) hc hN hC' hW n1 hE' c0 c1 m0 m1 y0 y1 hA' e0 e1 (fun M2 g2 r2 hb => ?_) fun M2 g2 r2 hb => ?_
        · refine ih M2 (fun q q1 q2 q3 => by rw [g2 q q1 q2 q3, g q q1 q2 q3]) fun j j0 j1 => ?_
          by_cases hj : j = i
          · rw [hj, ← he]
            exact fun z => hb ((bd _).2 z)
          · exact h j j0 (by omega)
        · rw [he]
          rw [he] at hb r2
          exact hq1 M2 i (fun q q1 q2 q3 => by rw [g2 q q1 q2 q3, g q q1 q2 q3]) i0 i1 h ((bd _).1 hb) r2
      refine b_X2_wrongFrom_2 ?_
      rw [if_pos i1, ok340, iadd_of (x := f) (by omega) (by omega), iadd_of (x := i) (by omega) (by omega), a4]
      by_cases hlt : f + i < rwsN N m
      · rw [if_pos hlt, ok340, ok340, okN hN]
        exact fin (f + i) (by unfold wrp; rw [if_pos hlt]) (by omega) (by omega) _ rfl
      · rw [if_neg hlt, ok340, ok340, ok340, okN hN, isub_of (by omega) (by omega)]
        exact fin (f + i - rwsN N m) (by unfold wrp; rw [if_neg hlt]) (by omega) (by omega) _ rfl
  exact key 0 (by decide) k0 M (fun _ _ _ _ => rfl) fun j j0 j1 => by omega
end
