/-! THE PARSER, the class: what lines add -/
section
variable {d : Nat} {R X : MEM} {n x y v s a b t nm : Int} {G : NTW} {Q : RES}
theorem adT_pos (hs : s = 0) : adT G s v = stm (stm (stm (stm (stm (stm (stm G 1 (G 0 0) s) 2 (G 0 0) v) 3 (G 0 0) (-1)) 4 (G 0 0) (-1)) 5 (G 0 1) (G 0 0)) 0 1 (G 0 1 + 1)) 0 0 (G 0 0 + 1) := by
  unfold adT
  rw [if_pos hs]
theorem adT_neg (hs : ¬ s = 0) : adT G s v = stm (stm (stm (stm (stm G 1 (G 0 0) s) 2 (G 0 0) v) 3 (G 0 0) (-1)) 4 (G 0 0) (-1)) 0 0 (G 0 0 + 1) := by
  unfold adT
  rw [if_neg hs]
theorem c_addTower (hN : NR R n) (n1 : n = 1 ∨ n = 14) (hG : CNG X n G) (h34 : X 34 (G 0 0) = nm) (hT : 0 ≤ G 0 0 ∧ G 0 0 < 10) (hS : s = 0 → 0 ≤ G 0 1 ∧ G 0 1 < 3) (hq : ∀ X', CNG X' n (adT (stm G 10 (G 0 0) nm) s v) → (∀ q, ¬ (n ≤ q ∧ q ≤ n + 11) → X' q = X q) → Q 0 SHX R X') : Mw d 24 [vr n, vi s, vi v] SHX R X 0 0 Q := by
  obtain ⟨⟨a0, a1, a2, a3, a4, a5, a6, a7⟩, bT, bS, bW, bC, bK⟩ := hG
  refine Mw_of mok24 rfl fun _ _ => b_X4_addTower_0 ?_
  simp (disch := omega) only [okN hN, nr1 hN, nr2 hN, nr3 hN, nr4 hN, nr6 hN, aN1 hN, aN2 hN, aN3 hN, aN4 hN, aN5 hN, stm_neq, stm_hit, a0, a1, iadd_of]
  rw [if_pos hT.2]
  by_cases hs : s = 0
  · obtain ⟨s0, s1⟩ := hS hs
    rw [if_pos hs, if_pos s1]
    refine ⟨hT.1, by omega, hT.1, by omega, hT.1, by omega, hT.1, by omega, s0, by omega, hq _ ?_ fun q hq2 => ?_⟩
    · rw [adT_pos hs]
      refine ⟨⟨?_, ?_, ?_, ?_, ?_, ?_, ?_, ?_⟩, fun t t0 t1 => ?_, fun u u0 u1 => ?_, fun w w0 w1 => ?_, fun c c0 c1 => ?_, fun i i0 i1 => ?_⟩
      · simp (disch := omega) only [stm_neq, stm_hit]
      · simp (disch := omega) only [stm_neq, stm_hit]
      · simp (disch := omega) only [stm_neq, stm_hit]; exact a2
      · simp (disch := omega) only [stm_neq, stm_hit]; exact a3
      · simp (disch := omega) only [stm_neq, stm_hit]; exact a4
      · simp (disch := omega) only [stm_neq, stm_hit]; exact a5
      · simp (disch := omega) only [stm_neq, stm_hit]; exact p33_of a6 fun j hj => by simp (disch := omega) only [stm_neq]
      · simp (disch := omega) only [stm_neq, stm_hit]; exact a7
      · simp (disch := omega) only [stm_neq, stm_hit] at t1
        by_cases ht : t = G 0 0
        · subst ht
          simp (disch := omega) only [stm_neq, stm_hit]
          exact ⟨trivial, trivial, trivial, trivial, h34⟩
        · simp (disch := omega) only [stm_neq, stm_hit]
          exact bT t t0 (by omega)
      · simp (disch := omega) only [stm_neq, stm_hit] at u1
        by_cases hu : u = G 0 1
        · subst hu
          simp (disch := omega) only [stm_neq, stm_hit]
        · simp (disch := omega) only [stm_neq, stm_hit]
          exact bS u u0 (by omega)
      · simp (disch := omega) only [stm_neq, stm_hit] at w1 ⊢
        exact bW w w0 w1
      · simp (disch := omega) only [stm_neq, stm_hit] at c1 ⊢
        exact bC c c0 c1
      · simp (disch := omega) only [stm_neq, stm_hit] at i1 ⊢
        exact bK i i0 i1
    · simp (disch := omega) only [stm_ne]
  · rw [if_neg hs]
    refine ⟨hT.1, by omega, hT.1, by omega, hT.1, by omega, hT.1, by omega, ?_⟩
    refine hq _ ?_ fun q hq2 => ?_
    · rw [adT_neg hs]
      refine ⟨⟨?_, ?_, ?_, ?_, ?_, ?_, ?_, ?_⟩, fun t t0 t1 => ?_, fun u u0 u1 => ?_, fun w w0 w1 => ?_, fun c c0 c1 => ?_, fun i i0 i1 => ?_⟩
      · simp (disch := omega) only [stm_neq, stm_hit]
      · simp (disch := omega) only [stm_neq, stm_hit]; exact a1
      · simp (disch := omega) only [stm_neq, stm_hit]; exact a2
      · simp (disch := omega) only [stm_neq, stm_hit]; exact a3
      · simp (disch := omega) only [stm_neq, stm_hit]; exact a4
      · simp (disch := omega) only [stm_neq, stm_hit]; exact a5
      · simp (disch := omega) only [stm_neq, stm_hit]; exact p33_of a6 fun j hj => by simp (disch := omega) only [stm_neq]
      · simp (disch := omega) only [stm_neq, stm_hit]; exact a7
      · simp (disch := omega) only [stm_neq, stm_hit] at t1
        by_cases ht : t = G 0 0
        · subst ht
          simp (disch := omega) only [stm_neq, stm_hit]
          exact ⟨trivial, trivial, trivial, trivial, h34⟩
        · simp (disch := omega) only [stm_neq, stm_hit]
          exact bT t t0 (by omega)
      · simp (disch := omega) only [stm_neq, stm_hit] at u1 ⊢
        exact bS u u0 u1
      · simp (disch := omega) only [stm_neq, stm_hit] at w1 ⊢
        exact bW w w0 w1
      · simp (disch := omega) only [stm_neq, stm_hit] at c1 ⊢
        exact bC c c0 c1
      · simp (disch := omega) only [stm_neq, stm_hit] at i1 ⊢
        exact bK i i0 i1
    · simp (disch := omega) only [stm_ne]
theorem c_hasRoom (hN : NR R n) (hG : CNG X n G) (t0 : 0 ≤ t) (t1 : t < G 0 0) (hT : G 0 0 ≤ 10) (h34 : -1 ≤ G 3 t ∧ -1 ≤ G 4 t) (hq1 : rmG G t → Q 1 SHX R X) (hq0 : ¬ rmG G t → Q 0 SHX R X) : Mw d 25 [vr n, vi t] SHX R X 0 0 Q := by
  obtain ⟨e1, e2, e3, e4, e5⟩ := hG.2.1 t t0 t1
  refine Mw_of mok25 rfl fun _ _ => b_X4_hasRoomForWay_0 ?_
  simp only [okN hN, nr1 hN, nr3 hN, nr4 hN, aN1 hN, aN3 hN, aN4 hN, e1, e3, e4]
  refine ⟨t0, by omega, ?_⟩
  unfold rmG at hq1 hq0
  by_cases h4 : G 1 t = 4
  · rw [if_pos h4]; exact hq0 fun q => q.1 h4
  · rw [if_neg h4]
    refine ⟨t0, by omega, ?_⟩
    by_cases h3 : G 3 t = -1
    · rw [if_pos h3]; exact hq1 ⟨h4, Or.inl (by omega)⟩
    · rw [if_neg h3]
      by_cases s2 : G 1 t = 2
      · rw [if_pos s2]
        refine ⟨t0, by omega, ?_⟩
        by_cases g4 : G 4 t = -1
        · rw [if_pos g4]; exact hq1 ⟨h4, Or.inr ⟨Or.inl s2, by omega⟩⟩
        · rw [if_neg g4]; exact hq0 fun q => by omega
      · rw [if_neg s2]
        by_cases s3 : G 1 t = 3
        · rw [if_pos s3]
          refine ⟨t0, by omega, ?_⟩
          by_cases g4 : G 4 t = -1
          · rw [if_pos g4]; exact hq1 ⟨h4, Or.inr ⟨Or.inr s3, by omega⟩⟩
          · rw [if_neg g4]; exact hq0 fun q => by omega
        · rw [if_neg s3]; exact hq0 fun q => by omega
theorem c_addWay (hN : NR R n) (n1 : n = 1 ∨ n = 14) (hG : CNG X n G) (a0 : 0 ≤ a) (a1 : a < G 0 0) (hT : G 0 0 ≤ 10) (hW : 0 ≤ G 0 2 ∧ G 0 2 < 16) (h3 : -1 ≤ G 3 a) (hq : ∀ X', CNG X' n (adW G a b v) → (∀ q, ¬ (n ≤ q ∧ q ≤ n + 11) → X' q = X q) → Q 0 SHX R X') : Mw d 26 [vr n, vi a, vi b, vi v] SHX R X 0 0 Q := by
  obtain ⟨⟨s0, s1, s2, s3, s4, s5, s6, s7⟩, bT, bS, bW, bC, bK⟩ := hG
  obtain ⟨e1, e2, e3, e4, e5⟩ := bT a a0 a1
  have fin : ∀ ρ : Int, (ρ = n + 3 ∧ G 3 a < 0) ∨ (ρ = n + 4 ∧ ¬ G 3 a < 0) → Q 0 SHX R (stm (stm (stm (stm (stm X (n + 6) (G 0 2) a) (n + 7) (G 0 2) b) (n + 8) (G 0 2) v) ρ a (G 0 2)) n 7 (G 0 2 + 1)) := fun ρ hρ => by
    refine hq _ ?_ fun q hq2 => ?_
    · rcases hρ with ⟨rfl, hlt⟩ | ⟨rfl, hlt⟩
      · have eW : adW G a b v = stm (stm (stm (stm (stm G 6 (G 0 2) a) 7 (G 0 2) b) 8 (G 0 2) v) 3 a (G 0 2)) 0 2 (G 0 2 + 1) := by
          unfold adW; rw [if_pos hlt]
        rw [eW]
        refine ⟨⟨?_, ?_, ?_, ?_, ?_, ?_, ?_, ?_⟩, fun t t0 t1 => ?_, fun u u0 u1 => ?_, fun w w0 w1 => ?_, fun c c0 c1 => ?_, fun i i0 i1 => ?_⟩
        · simp (disch := omega) only [stm_neq, stm_hit]; exact s0
        · simp (disch := omega) only [stm_neq, stm_hit]; exact s1
        · simp (disch := omega) only [stm_neq, stm_hit]
        · simp (disch := omega) only [stm_neq, stm_hit]; exact s3
        · simp (disch := omega) only [stm_neq, stm_hit]; exact s4
        · simp (disch := omega) only [stm_neq, stm_hit]; exact s5
        · simp (disch := omega) only [stm_neq, stm_hit]; exact p33_of s6 fun j hj => by simp (disch := omega) only [stm_neq]
        · simp (disch := omega) only [stm_neq, stm_hit]; exact s7
        · simp (disch := omega) only [stm_neq, stm_hit] at t1
          have := bT t t0 t1
          by_cases ht : t = a
          · subst ht
            simp (disch := omega) only [stm_neq, stm_hit]
            exact ⟨e1, e2, trivial, e4, e5⟩
          · simp (disch := omega) only [stm_neq, stm_hit]
            exact this
        · simp (disch := omega) only [stm_neq, stm_hit] at u1 ⊢
          exact bS u u0 u1
        · simp (disch := omega) only [stm_neq, stm_hit] at w1
          by_cases hw : w = G 0 2
          · subst hw
            simp (disch := omega) only [stm_neq, stm_hit]
            exact ⟨trivial, trivial, trivial⟩
          · simp (disch := omega) only [stm_neq, stm_hit]
            exact bW w w0 (by omega)
        · simp (disch := omega) only [stm_neq, stm_hit] at c1 ⊢
          exact bC c c0 c1
        · simp (disch := omega) only [stm_neq, stm_hit] at i1 ⊢
          exact bK i i0 i1
      · have eW : adW G a b v = stm (stm (stm (stm (stm G 6 (G 0 2) a) 7 (G 0 2) b) 8 (G 0 2) v) 4 a (G 0 2)) 0 2 (G 0 2 + 1) := by
          unfold adW; rw [if_neg hlt]
        rw [eW]
        refine ⟨⟨?_, ?_, ?_, ?_, ?_, ?_, ?_, ?_⟩, fun t t0 t1 => ?_, fun u u0 u1 => ?_, fun w w0 w1 => ?_, fun c c0 c1 => ?_, fun i i0 i1 => ?_⟩
        · simp (disch := omega) only [stm_neq, stm_hit]; exact s0
        · simp (disch := omega) only [stm_neq, stm_hit]; exact s1
        · simp (disch := omega) only [stm_neq, stm_hit]
        · simp (disch := omega) only [stm_neq, stm_hit]; exact s3
        · simp (disch := omega) only [stm_neq, stm_hit]; exact s4
        · simp (disch := omega) only [stm_neq, stm_hit]; exact s5
        · simp (disch := omega) only [stm_neq, stm_hit]; exact p33_of s6 fun j hj => by simp (disch := omega) only [stm_neq]
        · simp (disch := omega) only [stm_neq, stm_hit]; exact s7
        · simp (disch := omega) only [stm_neq, stm_hit] at t1
          have := bT t t0 t1
          by_cases ht : t = a
          · subst ht
            simp (disch := omega) only [stm_neq, stm_hit]
            exact ⟨e1, e2, e3, trivial, e5⟩
          · simp (disch := omega) only [stm_neq, stm_hit]
            exact this
        · simp (disch := omega) only [stm_neq, stm_hit] at u1 ⊢
          exact bS u u0 u1
        · simp (disch := omega) only [stm_neq, stm_hit] at w1
          by_cases hw : w = G 0 2
          · subst hw
            simp (disch := omega) only [stm_neq, stm_hit]
            exact ⟨trivial, trivial, trivial⟩
          · simp (disch := omega) only [stm_neq, stm_hit]
            exact bW w w0 (by omega)
        · simp (disch := omega) only [stm_neq, stm_hit] at c1 ⊢
          exact bC c c0 c1
        · simp (disch := omega) only [stm_neq, stm_hit] at i1 ⊢
          exact bK i i0 i1
    · rcases hρ with ⟨rfl, hlt⟩ | ⟨rfl, hlt⟩
      · simp (disch := omega) only [stm_ne]
      · simp (disch := omega) only [stm_ne]
  refine Mw_of mok26 rfl fun _ _ => b_X4_addWay_0 ?_
  simp (disch := omega) only [okN hN, nr8 hN, nr9 hN, nr10 hN, nr3 hN, nr4 hN, aN6 hN, aN7 hN, aN8 hN, aN3 hN, aN4 hN, stm_neq, stm_hit, s2, e3]
  rw [if_pos hW.2, iadd_of (x := G 0 2) (by omega) (by omega)]
  refine ⟨hW.1, by omega, hW.1, by omega, hW.1, by omega, a0, by omega, ?_⟩
  by_cases hlt : G 3 a = -1
  · rw [if_pos hlt]
    exact ⟨a0, by omega, fin _ (Or.inl ⟨rfl, by omega⟩)⟩
  · rw [if_neg hlt]
    exact ⟨a0, by omega, fin _ (Or.inr ⟨rfl, by omega⟩)⟩
theorem c_addClaim (hN : NR R n) (n1 : n = 1 ∨ n = 14) (hG : CNG X n G) (h35 : X 35 (G 0 3) = nm) (hC : 0 ≤ G 0 3 ∧ G 0 3 < 6) (g11 : G 11 (G 0 3) = nm) (hq : ∀ X', CNG X' n (adC G t) → (∀ q, ¬ (n ≤ q ∧ q ≤ n + 11) → X' q = X q) → Q 0 SHX R X') : Mw d 27 [vr n, vi t] SHX R X 0 0 Q := by
  obtain ⟨⟨s0, s1, s2, s3, s4, s5, s6, s7⟩, bT, bS, bW, bC, bK⟩ := hG
  refine Mw_of mok27 rfl fun _ _ => b_X4_addClaim_0 ?_
  simp (disch := omega) only [okN hN, nr12 hN, nr13 hN, aN9 hN, aN10 hN, stm_neq, stm_hit, s3, s7]
  rw [if_pos hC.2, iadd_of (x := G 0 3) (by omega) (by omega)]
  refine ⟨hC.1, by omega, hC.1, by omega, hq _ ?_ fun q hq2 => ?_⟩
  · unfold adC
    refine ⟨⟨?_, ?_, ?_, ?_, ?_, ?_, ?_, ?_⟩, fun t t0 t1 => ?_, fun u u0 u1 => ?_, fun w w0 w1 => ?_, fun c c0 c1 => ?_, fun i i0 i1 => ?_⟩
    · simp (disch := omega) only [stm_neq, stm_hit]; exact s0
    · simp (disch := omega) only [stm_neq, stm_hit]; exact s1
    · simp (disch := omega) only [stm_neq, stm_hit]; exact s2
    · simp (disch := omega) only [stm_neq, stm_hit]
    · simp (disch := omega) only [stm_neq, stm_hit]; exact s4
    · simp (disch := omega) only [stm_neq, stm_hit]; exact s5
    · simp (disch := omega) only [stm_neq, stm_hit]; exact p33_of s6 fun j hj => by simp (disch := omega) only [stm_neq]
    · simp (disch := omega) only [stm_neq, stm_hit]; exact s7
    · simp (disch := omega) only [stm_neq, stm_hit] at t1 ⊢
      exact bT t t0 t1
    · simp (disch := omega) only [stm_neq, stm_hit] at u1 ⊢
      exact bS u u0 u1
    · simp (disch := omega) only [stm_neq, stm_hit] at w1 ⊢
      exact bW w w0 w1
    · simp (disch := omega) only [stm_neq, stm_hit] at c1
      by_cases hc : c = G 0 3
      · subst hc
        simp (disch := omega) only [stm_neq, stm_hit]
        exact ⟨trivial, trivial, h35.trans g11.symm⟩
      · simp (disch := omega) only [stm_neq, stm_hit]
        exact bC c c0 (by omega)
    · simp (disch := omega) only [stm_neq, stm_hit] at i1 ⊢
      exact bK i i0 i1
  · simp (disch := omega) only [stm_ne]
end
