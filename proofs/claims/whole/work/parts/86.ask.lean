/-! CLAIMS: asked -/
/-- a way between a start and a tower -/
def UFW (N : NTW) (t w : Int) : Prop := (∃ s, 0 ≤ s ∧ s < N 0 1 ∧ (RCH N (N 5 s) (N 6 w) ∨ N 5 s = N 6 w)) ∧ (RCH N (N 7 w) t ∨ N 7 w = t)
section
variable {d c : Nat} {R M : MEM} {b n x y z t m : Int} {N : NTW} {Q : RES}
theorem c_between (hc : RC R) (hN : NR R n) (hC : NC M n N) (hW : WN N) (n1 : n ≤ 14) (t0 : 0 ≤ t) (t1 : t < N 0 0) (hq : ∀ M' x, (∀ q, q ≠ 337 → M' q = M q) → B16 x → (∀ w, 0 ≤ w → w < N 0 2 → (HB x w ↔ UFW N t w)) → Q x SHX R M') : Mw (d + 1) 59 [vr 274, vr n, vi t] SHX R M 0 0 Q := by
  have hT := wn_T hW
  have hS := wn_S hW
  have hw := wn_W hW
  refine Mw_of mok59 rfl fun _ _ => b_X6_between_0 ?_
  rw [ok274]
  refine c_close (d := d) hc hN hC hW n1 fun M' f hb hr => ?_
  have hC' : NC M' n N := NC_of9 hC fun q q0 q1 => f q (by omega)
  have L33 : ∀ g, B16 g → (∀ i, 0 ≤ i → i < 16 → (HB g i ↔ ∃ s, 0 ≤ s ∧ s < N 0 1 ∧ (RCH N (N 5 s) i ∨ N 5 s = i))) → ∀ u, 0 ≤ u → u ≤ N 0 2 → ∀ x, B16 x → (∀ w, 0 ≤ w → w < 16 → (HB x w ↔ w < u ∧ UFW N t w)) → Go (d + 1) 59 Q 33 [vr 274, vr n, vi t, vi g, vi x, vi u, vn] [] SHX R M' 0 0 := by
    intro g hg hg2
    refine upto (fun x hx h => ?_) fun u u0 u1 ih x hx h => ?_
    · refine b_X6_between_33 ?_
      rw [okN hN, nc_W hC', if_neg (by omega)]
      exact hq M' x f hx fun w w0 w1 => (h w w0 (by omega)).trans ⟨fun z => z.2, fun z => ⟨w1, z⟩⟩
    · have wf := wn_wf hW u u0 u1
      have wt := wn_wt hW u u0 u1
      refine b_X6_between_33 ?_
      rw [okN hN, nc_W hC', if_pos u1, ok274, rc274_1 hc, okN hN, nr8 hN, nr9 hN, aN7 hN, aN7 hN, aN6 hN, nc6 hC' u u0 u1, nc7 hC' u u0 u1, ak337, okN hN, okN hN, iadd_of (x := u) (by omega) (by omega)]
      refine ⟨u0, by omega, wt.1, by omega, u0, by omega, u0, by omega, ?_⟩
      have bw := hb (N 7 u) wt.1 wt.2
      have bs := (hb_shl (s := N 7 u) (t := 0) wt.1 (by omega) (by decide)).2
      have bo := (hb_or (t := 0) bw bs).2
      have bu := (hb_shl (s := u) (t := 0) u0 (by omega) (by decide)).2
      have tg := hb_test (t := N 6 u) hg wf.1 (by omega)
      have tb := hb_test (t := t) bo t0 (by omega)
      have e1 : HB g (N 6 u) ↔ ∃ s, 0 ≤ s ∧ s < N 0 1 ∧ (RCH N (N 5 s) (N 6 u) ∨ N 5 s = N 6 u) := hg2 _ wf.1 (by omega)
      have e2 : HB (ior (M' 337 (N 7 u)) (ishl 1 (N 7 u))) t ↔ (RCH N (N 7 u) t ∨ N 7 u = t) := by
        rw [(hb_or bw bs).1, hr _ t wt.1 wt.2 t0 (by omega), (hb_shl wt.1 (by omega) t0).1]
      have nx0 : ¬ UFW N t u → Go (d + 1) 59 Q 33 [vr 274, vr n, vi t, vi g, vi x, vi (u + 1), vn] [] SHX R M' 0 0 := fun hno => ih x hx fun w w0 w1 => by
        rw [h w w0 w1]
        constructor
        · rintro ⟨z1, z2⟩; exact ⟨by omega, z2⟩
        · rintro ⟨z1, z2⟩
          by_cases hwu : w = u
          · subst hwu; exact absurd z2 hno
          · exact ⟨by omega, z2⟩
      by_cases h1 : iand (ishr g (N 6 u)) 1 = 1
      · rw [if_pos h1]
        by_cases h2 : iand (ishr (ior (M' 337 (N 7 u)) (ishl 1 (N 7 u))) t) 1 = 1
        · rw [if_pos h2]
          refine ih _ (hb_or (t := 0) hx bu).2 fun w w0 w1 => ?_
          rw [(hb_or hx bu).1, (hb_shl u0 (by omega) w0).1, h w w0 w1]
          constructor
          · rintro (⟨z1, z2⟩ | z)
            · exact ⟨by omega, z2⟩
            · subst z; exact ⟨by omega, e1.1 (tg.1 h1), e2.1 (tb.1 h2)⟩
          · rintro ⟨z1, z2⟩
            by_cases hwu : u = w
            · exact Or.inr hwu
            · exact Or.inl ⟨by omega, z2⟩
        · rw [if_neg h2]
          exact nx0 fun z => h2 (tb.2 (e2.2 z.2))
      · rw [if_neg h1]
        exact nx0 fun z => h1 (tg.2 (e1.2 z.1))
  have L7 : ∀ u, 0 ≤ u → u ≤ N 0 1 → ∀ g, B16 g → (∀ i, 0 ≤ i → i < 16 → (HB g i ↔ ∃ s, 0 ≤ s ∧ s < u ∧ (RCH N (N 5 s) i ∨ N 5 s = i))) → Go (d + 1) 59 Q 7 [vr 274, vr n, vi t, vi g, vi u, vn, vn] [] SHX R M' 0 0 := by
    refine upto (fun g hg h => ?_) fun u u0 u1 ih g hg h => ?_
    · refine b_X6_between_7 ?_
      rw [okN hN, nc_S hC', if_neg (by omega)]
      exact L33 g hg h 0 (by decide) hw.1 0 B16_0 fun w w0 w1 => ⟨fun z => absurd z hb_0, fun z => by omega⟩
    · have st := wn_st hW u u0 u1
      refine b_X6_between_7 ?_
      rw [okN hN, nc_S hC', if_pos u1, okN hN, nr6 hN, aN5 hN, nc5 hC' u u0 u1, ok274, rc274_1 hc, ak337, iadd_of (by omega) (by omega)]
      have bw := hb (N 5 u) st.1 st.2.1
      have bs := (hb_shl (s := N 5 u) (t := 0) st.1 (by omega) (by decide)).2
      have bo := (hb_or (t := 0) bw bs).2
      refine ⟨u0, by omega, st.1, by omega, ih _ (hb_or (t := 0) hg bo).2 fun i i0 i1 => ?_⟩
      rw [(hb_or hg bo).1, (hb_or bw bs).1, h i i0 i1, hr _ i st.1 st.2.1 i0 i1, (hb_shl st.1 (by omega) i0).1]
      constructor
      · rintro (⟨s, s0, s1, s2⟩ | z)
        · exact ⟨s, s0, by omega, s2⟩
        · exact ⟨u, u0, by omega, z⟩
      · rintro ⟨s, s0, s1, s2⟩
        by_cases hs : s = u
        · subst hs; exact Or.inr s2
        · exact Or.inl ⟨s, s0, by omega, s2⟩
  exact L7 0 (by decide) hS.1 0 B16_0 fun i i0 i1 => ⟨fun z => absurd z hb_0, fun ⟨s, s0, s1, _⟩ => by omega⟩
/-- what a claims object holds once it is asked -/
def ASK (N : NTW) (c m y : Int) (M : MEM) : Prop := M 340 4 = c ∧ M 340 5 = m ∧ M 340 6 = y ∧ M 340 7 = rwsN N m ∧ (0 ≤ M 340 8 ∧ M 340 8 < rwsN N m) ∧ B16 (M 340 9) ∧ ∀ w, 0 ≤ w → w < N 0 2 → (HB (M 340 9) w ↔ UFW N (N 9 c) w)
theorem c_ask {c : Int} (hc : RC R) (hN : NR R n) (hC : NC M n N) (hW : WN N) (n1 : n ≤ 14) (c0 : 0 ≤ c) (c1 : c < N 0 3) (m0 : 0 ≤ m) (m1 : m ≤ 99) (hq : ∀ M', (∀ q, q ≠ 337 → q ≠ 340 → M' q = M q) → ASK N c m y M' → Q (rwsN N m) SHX R M') : Mw (d + 2) 14 [vr 340, vr n, vi c, vi m, vi y] SHX R M 0 0 Q := by
  have c6 := wn_C hW
  have cd := wn_cd hW c c0 c1
  refine Mw_of mok14 rfl fun _ _ => b_X2_ask_0 ?_
  have hC1 : NC (stm (stm (stm M 340 4 c) 340 5 m) 340 6 y) n N := NC_of9 hC fun q q0 q1 => by rw [stm_ne (by omega), stm_ne (by omega), stm_ne (by omega)]
  rw [ok340, ok340, ok340, ok340, okN hN, stm_neq (by decide), stm_hit]
  refine c_rows (d := d + 1) hN hC1 hW m0 m1 ?_
  have hC2 : NC (stm (stm (stm (stm (stm M 340 4 c) 340 5 m) 340 6 y) 340 7 (rwsN N m)) 340 8 0) n N := NC_of9 hC1 fun q q0 q1 => by rw [stm_ne (by omega), stm_ne (by omega)]
  have e4 : stm (stm (stm (stm (stm M 340 4 c) 340 5 m) 340 6 y) 340 7 (rwsN N m)) 340 8 0 340 4 = c := by simp (disch := omega) only [stm_neq, stm_hit]
  rw [ok340, ok340, ok340, okN hN, ok340, e4, nr12 hN, aN9 hN, nc9 hC2 c c0 c1, rc340_1 hc, ok274]
  refine ⟨c0, by omega, c_between (d := d) hc hN hC2 hW n1 cd.1 cd.2.1 fun M' x f hx hu => ?_⟩
  rw [ok340, ok340, stm_neq (by decide), f 340 (by decide), stm_neq (by decide), stm_hit]
  refine hq _ (fun q q1 q2 => by rw [stm_ne q2, f q q1, stm_ne q2, stm_ne q2, stm_ne q2, stm_ne q2, stm_ne q2]) ⟨?_, ?_, ?_, ?_, ?_, ?_, ?_⟩
  · rw [stm_neq (by decide), f 340 (by decide)]; exact e4
  · rw [stm_neq (by decide), f 340 (by decide)]; simp (disch := omega) only [stm_neq, stm_hit]
  · rw [stm_neq (by decide), f 340 (by decide)]; simp (disch := omega) only [stm_neq, stm_hit]
  · rw [stm_neq (by decide), f 340 (by decide)]; simp (disch := omega) only [stm_neq, stm_hit]
  · have e8 : (stm M' 340 9 x) 340 8 = 0 := by rw [stm_neq (by decide), f 340 (by decide)]; simp (disch := omega) only [stm_neq, stm_hit]
    have rb := rwsN_b (N := N) (m := m) (wn_S hW).2 m0 m1
    rw [e8]
    exact ⟨Int.le_refl _, by omega⟩
  · rw [stm_hit]; exact hx
  · rw [stm_hit]; exact hu
end
