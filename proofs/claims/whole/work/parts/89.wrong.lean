/-! WRONG -/
section
variable {d c0' : Nat} {R M M1 X : MEM} {b n x y z t m c r : Int} {N : NTW} {Q : RES}
theorem m_wr0 (hR : RM R) (hM : NM M b N) (hW : WN N) (hf : IF M) (n1 : n = 1 ∨ n = 14) (hE : CDE M b n N) (c0 : 0 ≤ c) (c1 : c < N 0 3) (m0 : 0 ≤ m) (m1 : m ≤ 99) (y0 : 0 ≤ y) (y1 : y ≤ 200) (hq : ∀ M', (∀ q j, KP q j → M' q j = M q j) → 0 ≤ M' 364 49 → Q r SHX R M') : ∀ (k : Nat) (v u fnd : Int) (X : MEM), v + (k : Int) = rwsN N m → 0 ≤ v → 0 ≤ u → u ≤ v → RT M X → cnF N M b c m y k v u = r → Go (d + 5) 239 Q 10 [vr 364, vi c, vi m, vi y, vi 0, vi u, vi fnd, vi v] [] SHX R X 0 0
  | 0, v, u, fnd, X, hk, v0, u0, u1, hX, hr => by
    have hS := wn_S hW
    have hr : u = r := hr
    refine b_X12_wrongRows_10 ?_
    rw [ok364]
    refine m_rowsOf (d := d + 3) hR (RT_nm hM hX) hW m0 m1 ?_
    rw [if_neg (by omega), ok364]
    exact m_wrend (d := d + 4) (r := u) (w := 0) (f := fnd) (x := r) hR hX (by rw [if_pos rfl]; exact hr) hq
  | k + 1, v, u, fnd, X, hk, v0, u0, u1, hX, hr => by
    have hS := wn_S hW
    have rb := rwsN_b (N := N) (m := m) hS.2 m0 m1
    have ih := fun u' f' X' => m_wr0 hR hM hW hf n1 hE c0 c1 m0 m1 y0 y1 hq k (v + 1) u' f' X' (by omega) (by omega)
    unfold cnF at hr
    refine b_X12_wrongRows_10 ?_
    rw [ok364]
    refine m_rowsOf (d := d + 3) hR (RT_nm hM hX) hW m0 m1 ?_
    rw [if_pos (by omega), ok364, if_pos rfl, iadd_of (x := u) (by omega) (by omega), iadd_of (x := v) (by omega) (by omega)]
    have body : Cd (d + 5) 235 [vr 364, vi v, vi m] SHX R X 0 0 (fun (_ : Int) (sh4 : SHP) (R4 M4 : MEM) => ook sh4 12 364 (Cd (d + 5) 236 [vr 364, vi c, vi y] sh4 R4 M4 0 0 (fun (x5 : Int) (sh5 : SHP) (R5 M5 : MEM) => (x5 = 0 ∨ x5 = 1) → (if x5 = 0 then (if fnd < 0 then Go (d + 5) 239 Q 10 [vr 364, vi c, vi m, vi y, vi 0, vi (u + 1), vi v, vi (v + 1)] [] sh5 R5 M5 0 0 else Go (d + 5) 239 Q 10 [vr 364, vi c, vi m, vi y, vi 0, vi (u + 1), vi fnd, vi (v + 1)] [] sh5 R5 M5 0 0) else Go (d + 5) 239 Q 10 [vr 364, vi c, vi m, vi y, vi 0, vi u, vi fnd, vi (v + 1)] [] sh5 R5 M5 0 0)))) := by
      refine m_right hR hM hW hf n1 hE c0 c1 m0 m1 y0 y1 v0 (by omega) hX (fun X' hX' _ he _ => ?_) fun X' hX' _ he _ => ?_
      · rw [if_neg (by decide)]
        rw [if_pos he] at hr
        exact ih u fnd X' u0 (by omega) hX' hr
      · rw [if_pos rfl]
        rw [if_neg he] at hr
        split
        · exact ih (u + 1) v X' (by omega) (by omega) hX' hr
        · exact ih (u + 1) fnd X' (by omega) (by omega) hX' hr
    by_cases hfn : fnd < 0
    · rw [if_pos hfn]; exact body
    · rw [if_neg hfn]; exact body
theorem m_wr1 (hR : RM R) (hM : NM M b N) (hW : WN N) (hf : IF M) (n1 : n = 1 ∨ n = 14) (hE : CDE M b n N) (c0 : 0 ≤ c) (c1 : c < N 0 3) (m0 : 0 ≤ m) (m1 : m ≤ 99) (y0 : 0 ≤ y) (y1 : y ≤ 200) (hq : ∀ M', (∀ q j, KP q j → M' q j = M q j) → 0 ≤ M' 364 49 → Q r SHX R M') : ∀ (k : Nat) (v u : Int) (X : MEM), v + (k : Int) = rwsN N m → 0 ≤ v → 0 ≤ u → u ≤ v → RT M X → fsF N M b c m y k v = r → Go (d + 5) 239 Q 10 [vr 364, vi c, vi m, vi y, vi 1, vi u, vi (-1), vi v] [] SHX R X 0 0
  | 0, v, u, X, hk, v0, u0, u1, hX, hr => by
    have hS := wn_S hW
    have hr : -1 = r := hr
    refine b_X12_wrongRows_10 ?_
    rw [ok364]
    refine m_rowsOf (d := d + 3) hR (RT_nm hM hX) hW m0 m1 ?_
    rw [if_neg (by omega), ok364]
    exact m_wrend (d := d + 4) (r := u) (w := 1) (f := -1) (x := r) hR hX (by rw [if_neg (by decide)]; exact hr) hq
  | k + 1, v, u, X, hk, v0, u0, u1, hX, hr => by
    have hS := wn_S hW
    have rb := rwsN_b (N := N) (m := m) hS.2 m0 m1
    have ih := fun u' X' => m_wr1 hR hM hW hf n1 hE c0 c1 m0 m1 y0 y1 hq k (v + 1) u' X' (by omega) (by omega)
    unfold fsF at hr
    refine b_X12_wrongRows_10 ?_
    rw [ok364]
    refine m_rowsOf (d := d + 3) hR (RT_nm hM hX) hW m0 m1 ?_
    rw [if_pos (by omega), if_pos (by decide), ok364, iadd_of (x := u) (by omega) (by omega), iadd_of (x := v) (by omega) (by omega)]
    refine m_right hR hM hW hf n1 hE c0 c1 m0 m1 y0 y1 v0 (by omega) hX (fun X' hX' _ he _ => ?_) fun X' hX' _ he _ => ?_
    · rw [if_neg (by decide)]
      rw [if_pos he] at hr
      exact ih u X' u0 (by omega) hX' hr
    · rw [if_pos rfl, if_pos (by decide)]
      rw [if_neg he] at hr
      have fin := m_wrend (d := d + 4) (Q := Q) (r := u + 1) (w := 1) (f := v) (x := r) hR hX' (by rw [if_neg (by decide)]; exact hr) hq
      refine b_X12_wrongRows_10 ?_
      rw [ok364]
      refine m_rowsOf (d := d + 3) hR (RT_nm hM hX') hW m0 m1 ?_
      rw [if_neg (show ¬ v < 0 by omega), if_neg (show ¬ (1 : Int) = 0 by decide), ok364]
      split
      · exact fin
      · exact fin
theorem m_wrongRows {w : Int} (hR : RM R) (hM : NM M b N) (hW : WN N) (hf : IF M) (n1 : n = 1 ∨ n = 14) (hE : CDE M b n N) (c0 : 0 ≤ c) (c1 : c < N 0 3) (m0 : 0 ≤ m) (m1 : m ≤ 99) (y0 : 0 ≤ y) (y1 : y ≤ 200) (e1 : ∀ q j, KP q j → M1 q j = M q j) (h9 : 0 ≤ M1 364 49) (hw : w = 0 ∨ w = 1) (hr : r = if w = 0 then cnF N M b c m y (rwsN N m).toNat 0 0 else fsF N M b c m y (rwsN N m).toNat 0) (hq : ∀ M', (∀ q j, KP q j → M' q j = M q j) → 0 ≤ M' 364 49 → Q r SHX R M') : Mw (d + 5) 239 [vr 364, vi c, vi m, vi y, vi w] SHX R M1 0 0 Q := by
  have hS := wn_S hW
  have rb := rwsN_b (N := N) (m := m) hS.2 m0 m1
  refine Mw_of mok239 rfl fun _ _ => b_X12_wrongRows_0 ?_
  rw [ok364]
  refine m_putAside (d := d + 4) hR ?_
  rw [ok364]
  refine m_keepRow (d := d + 4) hR fun X x1 x2 => ?_
  have hX := RT_new e1 h9 x1 x2
  rcases hw with rfl | rfl
  · exact m_wr0 hR hM hW hf n1 hE c0 c1 m0 m1 y0 y1 hq _ 0 0 (-1) X (by omega) (by decide) (by decide) (by decide) hX hr.symm
  · exact m_wr1 hR hM hW hf n1 hE c0 c1 m0 m1 y0 y1 hq _ 0 0 X (by omega) (by decide) (by decide) (by decide) hX hr.symm
theorem c_wrongOnes (hc : RC R) (hN : NR R n) (hC : NC M n N) (hW : WN N) (n1 : n ≤ 14) (hE : CDE M b n N) (c0 : 0 ≤ c) (c1 : c < N 0 3) (m0 : 0 ≤ m) (m1 : m ≤ 99) (y0 : 0 ≤ y) (y1 : y ≤ 200) (hA : ASK N c m y M) (hq : ∀ M', (∀ q, q ≠ 341 → q ≠ n + 12 → (q < 262 ∨ 267 ≤ q) → M' q = M q) → Q (cnF N M b c m y (rwsN N m).toNat 0 0) SHX R M') : Mw (d + 5) 16 [vr 340, vr n] SHX R M 0 0 Q := by
  have hS := wn_S hW
  have rb := rwsN_b (N := N) (m := m) hS.2 m0 m1
  refine Mw_of mok16 rfl fun _ _ => b_X2_wrongOnes_0 ?_
  obtain ⟨r, hr0⟩ : ∃ r, r = cnF N M b c m y (rwsN N m).toNat 0 0 := ⟨_, rfl⟩
  rw [← hr0] at hq
  have key : ∀ (k : Nat) (v u : Int) (M' : MEM), v + (k : Int) = rwsN N m → 0 ≤ v → 0 ≤ u → u ≤ v → (∀ q, q ≠ 341 → q ≠ n + 12 → (q < 262 ∨ 267 ≤ q) → M' q = M q) → cnF N M b c m y k v u = r → Go (d + 5) 16 Q 4 [vr 340, vr n, vi u, vi v] [] SHX R M' 0 0 := by
    intro k
    induction k with
    | zero =>
      intro v u M' hk v0 u0 u1 g hr
      have hr : u = _ := hr
      refine b_X2_wrongOnes_4 ?_
      rw [ok340, (ASK_of hA (g 340 (by omega) (by omega) (by omega))).2.2.2.1, if_neg (by omega), hr]
      exact hq M' g
    | succ k ih =>
      intro v u M' hk v0 u0 u1 g hr
      have hA' := ASK_of hA (g 340 (by omega) (by omega) (by omega))
      have hC' : NC M' n N := NC_of9 hC fun q q0 q1 => g q (by omega) (by omega) (by omega)
      have hE' : CDE M' b n N := CDE_of hE (g _ (by omega) (by omega) (by omega)) (g _ (by omega) (by omega) (by omega)) (g _ (by omega) (by omega) (by omega)) (g _ (by omega) (by omega) (by omega)) (g _ (by omega) (by omega) (by omega)) (g _ (by omega) (by omega) (by omega))
      have bd : ∀ v, bad N M' b c m y v ↔ bad N M b c m y v := fun v => bad_of (g _ (by omega) (by omega) (by omega)) (g _ (by omega) (by omega) (by omega)) (g _ (by omega) (by omega) (by omega)) (g _ (by omega) (by omega) (by omega))
      unfold cnF at hr
      refine b_X2_wrongOnes_4 ?_
      rw [ok340, hA'.2.2.2.1, if_pos (by omega), ok340, iadd_of (x := u) (by omega) (by omega), iadd_of (x := v) (by omega) (by omega)]
      have ew : wrp (rwsN N m) (v + 0) = v := by unfold wrp; rw [if_pos (by omega)]; omega
      refine c_wrongFrom (d := d) hc hN hC' hW n1 hE' c0 c1 m0 m1 y0 y1 hA' v0 (by omega) (by decide) (by omega) (fun M2 i g2 i0 i1 _ hb _ => ?_) fun M2 g2 hb => ?_
      · have hi : i = 0 := by omega
        subst hi
        rw [ew] at hb ⊢
        have hb2 : ¬ vlR M b c (lay N m v) = rk N (lay N m v) y (N 9 c) := (bd v).1 hb
        rw [if_neg hb2] at hr
        rw [if_neg (by omega)]
        exact ih (v + 1) (u + 1) M2 (by omega) (by omega) (by omega) (by omega) (fun q q1 q2 q3 => by rw [g2 q q1 q2 q3, g q q1 q2 q3]) hr
      · have hb1 := hb 0 (by decide) (by decide)
        rw [ew] at hb1
        have hb2 : vlR M b c (lay N m v) = rk N (lay N m v) y (N 9 c) := Decidable.of_not_not fun z => hb1 ((bd v).2 z)
        rw [if_pos hb2] at hr
        rw [if_pos rfl]
        exact ih (v + 1) u M2 (by omega) (by omega) u0 (by omega) (fun q q1 q2 q3 => by rw [g2 q q1 q2 q3, g q q1 q2 q3]) hr
  exact key _ 0 0 M (by omega) (by decide) (by decide) (by decide) (fun _ _ _ _ => rfl) hr0.symm
end
