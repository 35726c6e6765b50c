/-! RING -/
section
variable {d c : Nat} {R M : MEM} {b n t x : Int} {N : NTW} {Q : RES}
theorem hb_le {x y : Int} (h : B16 x) (g : B16 y) (e : ∀ t, 0 ≤ t → t < 16 → HB x t → HB y t) : x ≤ y := by
  have := hb_and (t := 0) h g
  have e2 : iand x y = x := hb_ext this.2 h fun t t0 t1 => by
    rw [(hb_and h g).1]
    exact ⟨fun z => z.1, fun z => ⟨z, e t t0 t1 z⟩⟩
  obtain ⟨a, rfl⟩ := Int.eq_ofNat_of_zero_le h.1
  obtain ⟨b, rfl⟩ := Int.eq_ofNat_of_zero_le g.1
  have h2 := h.2
  have g2 := g.2
  rw [iand_nat (by omega) (by omega)] at e2
  have : a &&& b ≤ b := Nat.and_le_right
  omega
def RGS (N : NTW) (u x : Int) : Prop := B16 x ∧ ∀ t, 0 ≤ t → t < 16 → (HB x t ↔ t < u ∧ RCH N t t)
theorem c_returning (hc : RC R) (hN : NR R n) (hC : NC M n N) (hW : WN N) (n1 : n ≤ 14) (hq : ∀ M' x, (∀ q, q ≠ 337 → M' q = M q) → RGS N (N 0 0) x → Q x SHX R M') : Mw (d + 1) 58 [vr 274, vr n] SHX R M 0 0 Q := by
  have hT := wn_T hW
  refine Mw_of mok58 rfl fun _ _ => b_X6_returning_0 ?_
  rw [ok274]
  refine c_close (d := d) hc hN hC hW n1 fun M' f hb hr => ?_
  have hC' : NC M' n N := NC_of9 hC fun q q0 q1 => f q (by omega)
  have key : ∀ u, 0 ≤ u → u ≤ N 0 0 → ∀ x, RGS N u x → Go (d + 1) 58 Q 7 [vr 274, vr n, vi x, vi u] [] SHX R M' 0 0 := by
    refine upto (fun x hx => ?_) fun u u0 u1 ih x hx => ?_
    · refine b_X6_returning_7 ?_
      rw [okN hN, nc_T hC', if_neg (by omega)]
      exact hq M' x f hx
    · refine b_X6_returning_7 ?_
      rw [okN hN, nc_T hC', if_pos u1, ok274, rc274_1 hc, ak337, iadd_of (by omega) (by omega)]
      have bs := (hb_shl (s := u) (t := 0) u0 (by omega) (by decide)).2
      have ba := hb_and (t := 0) (hb u u0 u1) bs
      have bo := hb_or (t := 0) hx.1 ba.2
      refine ⟨u0, by omega, ih _ ⟨bo.2, fun t t0 t1 => ?_⟩⟩
      rw [(hb_or hx.1 ba.2).1, (hb_and (hb u u0 u1) bs).1, (hb_shl u0 (by omega) t0).1, hx.2 t t0 t1, hr u t u0 u1 t0 t1]
      constructor
      · rintro (⟨z1, z2⟩ | ⟨z1, z2⟩)
        · exact ⟨by omega, z2⟩
        · subst z2; exact ⟨by omega, z1⟩
      · rintro ⟨z1, z2⟩
        by_cases ht : t = u
        · subst ht; exact Or.inr ⟨z2, rfl⟩
        · exact Or.inl ⟨by omega, z2⟩
  exact key 0 (by decide) (by omega) 0 ⟨B16_0, fun t t0 t1 => ⟨fun z => absurd z hb_0, fun z => by omega⟩⟩
def WDR (N : NTW) (s x : Int) : Prop := B16 x ∧ ∀ i, 0 ≤ i → i < 16 → (HB x i ↔ HB s i ∨ ∃ w, 0 ≤ w ∧ w < N 0 2 ∧ HB s (N 6 w) ∧ N 7 w = i)
theorem m_wider {s : Int} (hR : RM R) (hM : NM M b N) (hW : WN N) (hs : B16 s) (hq : ∀ x, WDR N s x → Q x SHX R M) : Mw (d + 1) 255 [vr 364, vi s] SHX R M 0 0 Q := by
  have hT := wn_T hW
  have hw := wn_W hW
  have b0 := nm_b0 hM
  have b1 := nm_b1 hM
  refine Mw_of mok255 rfl fun _ _ => b_X12_wider_0 ?_
  have key : ∀ u, 0 ≤ u → u ≤ N 0 2 → ∀ x, B16 x → (∀ i, 0 ≤ i → i < 16 → (HB x i ↔ HB s i ∨ ∃ w, 0 ≤ w ∧ w < u ∧ HB s (N 6 w) ∧ N 7 w = i)) → Go (d + 1) 255 Q 4 [vr 364, vi s, vi x, vi u] [] SHX R M 0 0 := by
    refine upto (fun x hx h => ?_) fun u u0 u1 ih x hx h => ?_
    · refine b_X12_wider_4 ?_
      rw [ok364]
      refine w_wayMany (d := d) hR (nm_b hM) b0 b1 ?_
      rw [nm_W hM, if_neg (by omega)]
      exact hq x ⟨hx, h⟩
    · have wf := wn_wf hW u u0 u1
      have wt := wn_wt hW u u0 u1
      refine b_X12_wider_4 ?_
      rw [ok364]
      refine w_wayMany (d := d) hR (nm_b hM) b0 b1 ?_
      rw [nm_W hM, if_pos (by omega)]
      simp (disch := omega) only [ok364, fr20 hR, fr21 hR, ak376, ak377, nm_b hM, imul_of, iadd_of, nm6 hM, nm7 hM]
      refine ⟨by omega, by omega, ?_⟩
      have tst := hb_test (t := N 6 u) hs (by omega) (by omega)
      have bs := (hb_shl (s := N 7 u) (t := 0) (by omega) (by omega) (by decide)).2
      by_cases hbit : iand (ishr s (N 6 u)) 1 = 1
      · rw [if_pos hbit]
        refine ⟨by omega, by omega, ih _ (hb_or (t := 0) hx bs).2 fun i i0 i1 => ?_⟩
        rw [(hb_or hx bs).1, (hb_shl (by omega) (by omega) i0).1, h i i0 i1]
        constructor
        · rintro ((z | ⟨w, w0, w1, w2, w3⟩) | z)
          · exact Or.inl z
          · exact Or.inr ⟨w, w0, by omega, w2, w3⟩
          · exact Or.inr ⟨u, u0, by omega, tst.1 hbit, z⟩
        · rintro (z | ⟨w, w0, w1, w2, w3⟩)
          · exact Or.inl (Or.inl z)
          · by_cases hwu : w = u
            · subst hwu; exact Or.inr w3
            · exact Or.inl (Or.inr ⟨w, w0, by omega, w2, w3⟩)
      · rw [if_neg hbit]
        refine ih x hx fun i i0 i1 => ?_
        rw [h i i0 i1]
        constructor
        · rintro (z | ⟨w, w0, w1, w2, w3⟩)
          · exact Or.inl z
          · exact Or.inr ⟨w, w0, by omega, w2, w3⟩
        · rintro (z | ⟨w, w0, w1, w2, w3⟩)
          · exact Or.inl z
          · by_cases hwu : w = u
            · subst hwu; exact absurd (tst.2 w2) hbit
            · exact Or.inr ⟨w, w0, by omega, w2, w3⟩
  exact key 0 (by decide) (by omega) s hs fun i i0 i1 => ⟨Or.inl, fun z => z.elim id fun ⟨w, w0, w1, _⟩ => by omega⟩
theorem walk_snoc {j i : Int} : ∀ (k : Nat) (t : Int), walk N k t j → EW N j i → walk N (k + 1) t i
  | 0, t, h, g => ⟨j, h, g⟩
  | k + 1, t, ⟨u, h1, h2⟩, g => ⟨u, h1, walk_snoc k u h2 g⟩
theorem closed_walk {s : Int} (hW : WN N) (h : WDR N s s) {i : Int} : ∀ (k : Nat) (j : Int), HB s j → walk N k j i → HB s i := by
  have step : ∀ j i, HB s j → EW N j i → HB s i := fun j i hj ⟨w, w0, w1, w2, w3⟩ => by
    have wt := wn_wt hW w w0 w1
    have hT := wn_T hW
    exact (h.2 i (by omega) (by omega)).2 (Or.inr ⟨w, w0, w1, by rw [w2]; exact hj, w3⟩)
  intro k
  induction k with
  | zero => exact fun j hj hw => step j i hj hw
  | succ k ih => exact fun j hj ⟨u, h1, h2⟩ => ih u (step j u hj h1) h2
theorem m_isInRing (hR : RM R) (hM : NM M b N) (hW : WN N) (t0 : 0 ≤ t) (t1 : t < N 0 0) (h1 : RCH N t t → Q 1 SHX R M) (h0 : ¬ RCH N t t → Q 0 SHX R M) : Mw (d + 2) 256 [vr 364, vi t] SHX R M 0 0 Q := by
  have hT := wn_T hW
  have hw := wn_W hW
  have b0 := nm_b0 hM
  have b1 := nm_b1 hM
  refine Mw_of mok256 rfl fun _ _ => b_X12_isInRing_0 ?_
  have L39 : ∀ (k : Nat) (s x : Int), 65536 - s ≤ (k : Int) → B16 s → WDR N s x → (∀ i, 0 ≤ i → i < 16 → HB s i → RCH N t i) → (∀ i, EW N t i → HB s i) → Go (d + 2) 256 Q 39 [vr 364, vi t, vi s, vi x] [] SHX R M 0 0 := by
    intro k
    induction k with
    | zero => exact fun s x hk hs _ _ _ => absurd hs.2 (by omega)
    | succ k ih =>
      intro s x hk hs hx snd cmp
      refine b_X12_isInRing_39 ?_
      by_cases hxs : x = s
      · subst hxs
        rw [if_pos rfl]
        have tst := hb_test (t := t) hs t0 (by omega)
        by_cases hbit : iand (ishr x t) 1 = 1
        · rw [if_pos hbit]
          exact h1 (snd t t0 (by omega) (tst.1 hbit))
        · rw [if_neg hbit]
          refine h0 fun ⟨m, hm⟩ => hbit (tst.2 ?_)
          cases m with
          | zero => exact cmp t hm
          | succ m =>
            obtain ⟨u, g1, g2⟩ := hm
            exact closed_walk hW hx m u (cmp u g1) g2
      · rw [if_neg hxs, ok364]
        have le : s ≤ x := hb_le hs hx.1 fun i i0 i1 z => (hx.2 i i0 i1).2 (Or.inl z)
        refine m_wider (d := d) hR hM hW hx.1 fun y hy => ih x y (by omega) hx.1 hy (fun i i0 i1 z => ?_) fun i hi => ?_
        · rcases (hx.2 i i0 i1).1 z with z | ⟨w, w0, w1, w2, w3⟩
          · exact snd i i0 i1 z
          · have wf := wn_wf hW w w0 w1
            obtain ⟨m, hm⟩ := snd (N 6 w) (by omega) (by omega) w2
            exact ⟨m + 1, walk_snoc m t hm ⟨w, w0, w1, rfl, w3⟩⟩
        · have := EW_rng hW hi
          exact (hx.2 i (by omega) (by omega)).2 (Or.inl (cmp i hi))
  have L4 : ∀ u, 0 ≤ u → u ≤ N 0 2 → ∀ x, B16 x → (∀ i, 0 ≤ i → i < 16 → (HB x i ↔ ∃ w, 0 ≤ w ∧ w < u ∧ N 6 w = t ∧ N 7 w = i)) → Go (d + 2) 256 Q 4 [vr 364, vi t, vi x, vi u] [] SHX R M 0 0 := by
    refine upto (fun x hx h => ?_) fun u u0 u1 ih x hx h => ?_
    · refine b_X12_isInRing_4 ?_
      rw [ok364]
      refine w_wayMany (d := d + 1) hR (nm_b hM) b0 b1 ?_
      rw [nm_W hM, if_neg (by omega), ok364]
      refine m_wider (d := d) hR hM hW hx fun y hy => L39 65536 x y (by have := hx.1; omega) hx hy (fun i i0 i1 z => ⟨0, (h i i0 i1).1 z⟩) fun i hi => ?_
      have := EW_rng hW hi
      exact (h i (by omega) (by omega)).2 hi
    · have wf := wn_wf hW u u0 u1
      have wt := wn_wt hW u u0 u1
      refine b_X12_isInRing_4 ?_
      rw [ok364]
      refine w_wayMany (d := d + 1) hR (nm_b hM) b0 b1 ?_
      rw [nm_W hM, if_pos (by omega)]
      simp (disch := omega) only [ok364, fr20 hR, fr21 hR, ak376, ak377, nm_b hM, imul_of, iadd_of, nm6 hM, nm7 hM]
      refine ⟨by omega, by omega, ?_⟩
      have bs := (hb_shl (s := N 7 u) (t := 0) (by omega) (by omega) (by decide)).2
      by_cases hu : N 6 u = t
      · rw [if_pos hu]
        refine ⟨by omega, by omega, ih _ (hb_or (t := 0) hx bs).2 fun i i0 i1 => ?_⟩
        rw [(hb_or hx bs).1, (hb_shl (by omega) (by omega) i0).1, h i i0 i1]
        constructor
        · rintro (⟨w, w0, w1, w2, w3⟩ | z)
          · exact ⟨w, w0, by omega, w2, w3⟩
          · exact ⟨u, u0, by omega, hu, z⟩
        · rintro ⟨w, w0, w1, w2, w3⟩
          by_cases hwu : w = u
          · subst hwu; exact Or.inr w3
          · exact Or.inl ⟨w, w0, by omega, w2, w3⟩
      · rw [if_neg hu]
        refine ih x hx fun i i0 i1 => ?_
        rw [h i i0 i1]
        constructor
        · rintro ⟨w, w0, w1, w2, w3⟩
          exact ⟨w, w0, by omega, w2, w3⟩
        · rintro ⟨w, w0, w1, w2, w3⟩
          by_cases hwu : w = u
          · subst hwu; exact absurd w2 hu
          · exact ⟨w, w0, by omega, w2, w3⟩
  exact L4 0 (by decide) (by omega) 0 B16_0 fun i i0 i1 => ⟨fun z => absurd z hb_0, fun ⟨w, w0, w1, _⟩ => by omega⟩
theorem m_ring (hR : RM R) (hM : NM M b N) (hW : WN N) (hq : ∀ x, RGS N (N 0 0) x → Q x SHX R M) : Mw (d + 3) 257 [vr 364] SHX R M 0 0 Q := by
  have hT := wn_T hW
  have b0 := nm_b0 hM
  have b1 := nm_b1 hM
  refine Mw_of mok257 rfl fun _ _ => b_X12_ring_0 ?_
  have key : ∀ u, 0 ≤ u → u ≤ N 0 0 → ∀ x, RGS N u x → Go (d + 3) 257 Q 4 [vr 364, vi x, vi u] [] SHX R M 0 0 := by
    refine upto (fun x hx => ?_) fun u u0 u1 ih x hx => ?_
    · refine b_X12_ring_4 ?_
      rw [ok364]
      refine w_towerMany (d := d + 2) hR (nm_b hM) b0 b1 ?_
      rw [nm_T hM, if_neg (by omega)]
      exact hq x hx
    · refine b_X12_ring_4 ?_
      rw [ok364]
      refine w_towerMany (d := d + 2) hR (nm_b hM) b0 b1 ?_
      rw [nm_T hM, if_pos u1, ok364]
      have bs := (hb_shl (s := u) (t := 0) u0 (by omega) (by decide)).2
      refine m_isInRing (d := d) hR hM hW u0 u1 (fun hr _ => ?_) fun hr _ => ?_
      · rw [if_neg (by decide), iadd_of (by omega) (by omega)]
        refine ih _ ⟨(hb_or (t := 0) hx.1 bs).2, fun t t0 t1 => ?_⟩
        rw [(hb_or hx.1 bs).1, (hb_shl u0 (by omega) t0).1, hx.2 t t0 t1]
        constructor
        · rintro (⟨z1, z2⟩ | z)
          · exact ⟨by omega, z2⟩
          · subst z; exact ⟨by omega, hr⟩
        · rintro ⟨z1, z2⟩
          by_cases ht : u = t
          · exact Or.inr ht
          · exact Or.inl ⟨by omega, z2⟩
      · rw [if_pos rfl, iadd_of (by omega) (by omega)]
        refine ih _ ⟨(hb_or (t := 0) hx.1 B16_0).2, fun t t0 t1 => ?_⟩
        rw [(hb_or hx.1 B16_0).1, hx.2 t t0 t1]
        constructor
        · rintro (⟨z1, z2⟩ | z)
          · exact ⟨by omega, z2⟩
          · exact absurd z hb_0
        · rintro ⟨z1, z2⟩
          by_cases ht : u = t
          · subst ht; exact absurd z2 hr
          · exact Or.inl ⟨by omega, z2⟩
  exact key 0 (by decide) (by omega) 0 ⟨B16_0, fun t t0 t1 => ⟨fun z => absurd z hb_0, fun z => by omega⟩⟩
theorem p_ring (h : INV c R M b N) : PR (d + 3) 131 257 [] R M (Inv (c + 1)) := by
  obtain ⟨hn, hN, hC, hW, hM, hc, hR, b0, b1⟩ := in_net h
  refine Mw_of mok131 rfl fun _ _ => b_X11_ring_0 ?_
  rw [ok0, ok0, rc0_8 hc, hn, ok274]
  refine c_returning (d := d + 1) hc hN hC hW (by omega) fun M1 x f hx => ?_
  have hM1 : NM M1 b N := NM_of hM (by rw [f _ (by omega)]) (fun q q0 q1 => f q (by omega)) (f _ (by omega))
  refine ⟨rfl, m_ring (d := d) hR hM1 hW fun y hy => ⟨rfl, hb_ext hx.1 hy.1 fun t t0 t1 => (hx.2 t t0 t1).trans (hy.2 t t0 t1).symm, b, N, INV_keep h (Nat.le_succ c) (fun q j hk => by rw [f q (by have := KP_out hk; omega)]) (by rw [f _ (by decide)]; exact if_s (in_f h))⟩⟩
end
