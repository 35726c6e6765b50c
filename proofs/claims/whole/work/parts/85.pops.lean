/-! PATHS, MEET, SPREAD -/
section
variable {d c : Nat} {R M : MEM} {n s t b x y z : Int} {N : NTW} {Q : RES}
/-- only the paths' tables have changed -/
theorem path_inv {M1 M2 : MEM} (h : INV c R M b N) (f1 : ∀ q, (q < 276 ∨ 336 < q) → M1 q = M q) (f2 : ∀ q, q ≠ 401 → q ≠ 402 → M2 q = M1 q) : Inv (c + 1) R M2 := ⟨b, N, INV_keep h (Nat.le_succ c) (fun q j hk => by
  have := KP_out hk
  have := KP_out2 hk
  rw [f2 q (by omega) (by omega), f1 q (by omega)]) (by rw [f2 _ (by decide) (by decide), f1 _ (by decide)]; exact if_s (in_f h))⟩
theorem p_paths (h : INV c R M b N) : PR (d + 2) 128 252 [vi x, vi y, vi z] R M (Inv (c + 1)) := by
  obtain ⟨hn, hN, hC, hW, hM, hc, hR, b0, b1⟩ := in_net h
  have hb := ia_b (in_a h)
  have hT := wn_T hW
  have no : ¬ ((0 ≤ x ∧ x < N 0 0) ∧ (0 ≤ y ∧ y < N 0 0) ∧ (0 ≤ z ∧ z ≤ 60)) → Mw (d + 2) 252 [vr 364, vi x, vi y, vi z] SHX R M 0 0 (fun w sh2 R2 M2 => sh2 = SHX ∧ -1 = w ∧ Inv (c + 1) R2 M2) := fun hx => by
    refine Mw_of mok252 rfl fun _ _ => b_X12_paths_0 ?_
    rw [ok364]
    refine m_isTower (d := d) hR hM hW (fun q0 q1 _ => ?_) fun g _ => ?_
    · rw [if_neg (by decide), ok364]
      refine m_isTower (d := d) hR hM hW (fun k0 k1 _ => ?_) fun g _ => ?_
      · rw [if_neg (by decide)]
        refine m_isIn (fun u0 u1 _ => absurd ⟨⟨q0, q1⟩, ⟨k0, k1⟩, u0, u1⟩ hx) fun g _ => ?_
        rw [if_pos rfl]
        exact ⟨rfl, rfl, same h⟩
      · rw [if_pos rfl]
        exact ⟨rfl, rfl, same h⟩
    · rw [if_pos rfl]
      exact ⟨rfl, rfl, same h⟩
  refine Mw_of mok128 rfl fun _ _ => b_X11_paths_0 ?_
  rw [ok0]
  refine c_isTower (d := d) hn hN hC hW (fun x0 x1 _ => ?_) fun x0 _ => ?_
  · rw [if_neg (by decide), ok0]
    refine c_isTower (d := d) hn hN hC hW (fun y0 y1 _ => ?_) fun y0 _ => ?_
    · rw [if_neg (by decide)]
      refine c_isWithin (fun z0 z1 _ => ?_) fun z0 _ => ?_
      · rw [if_neg (by decide), ok0, ok0, rc0_8 hc, hn, ok274]
        refine Mw_of mok54 rfl fun _ _ => b_X6_count_0 ?_
        rw [ok274]
        refine c_fill (d := d) hc hN hC hW (by omega) fun M1 f1 k1 => ?_
        have hM1 : NM M1 b N := NM_of hM (by rw [f1 _ (by omega)]) (fun q q0 q1 => f1 q (by omega)) (f1 _ (by omega))
        rw [ok274, rc274_0 hc, ak275, rc275 hc z0 (by omega), akPa z0 (by omega), k1 z x z0 z1 x0 x1]
        refine ⟨z0, by omega, x0, by omega, rfl, Mw_of mok252 rfl fun _ _ => b_X12_paths_0 ?_⟩
        rw [ok364]
        refine m_isTower (d := d) hR hM1 hW (fun _ _ _ => ?_) fun g _ => absurd ⟨x0, x1⟩ g
        rw [if_neg (by decide), ok364]
        refine m_isTower (d := d) hR hM1 hW (fun _ _ _ => ?_) fun g _ => absurd ⟨y0, y1⟩ g
        rw [if_neg (by decide)]
        refine m_isIn (fun _ _ _ => ?_) fun g _ => absurd ⟨z0, z1⟩ g
        rw [if_neg (by decide), ok364]
        refine m_lay (d := d) hR hM1 hW (fun w w0 w1 => by rw [f1 _ (by omega)]; exact hb w w0 w1) x0 x1 fun M2 f2 k2 => ?_
        rw [ok364, fr57 hR, ak401, imul_of (by omega) (by omega), iadd_of (by omega) (by omega), k2 z y z0 z1 y0 y1]
        exact ⟨by omega, by omega, rfl, rfl, path_inv h f1 fun q q1 _ => f2 q q1⟩
      · rw [if_pos rfl]
        exact ⟨rfl, no fun q => z0 q.2.2⟩
    · rw [if_pos rfl]
      exact ⟨rfl, no fun q => y0 q.2.1⟩
  · rw [if_pos rfl]
    exact ⟨rfl, no fun q => x0 q.1⟩
/-- the first number of beats at which both can be there; from u on -/
def mtF (N : NTW) (x y z : Int) : Nat → Int → Int
  | 0, _ => -1
  | k + 1, u => if 0 < pth N u x z then (if 0 < pth N u y z then u else mtF N x y z k (u + 1)) else mtF N x y z k (u + 1)
theorem c_meet6 {r : Int} (hc : RC R) (x0 : 0 ≤ x) (x1 : x < N 0 0) (y0 : 0 ≤ y) (y1 : y < N 0 0) (hT : N 0 0 ≤ 10) (k1 : ∀ u s, 0 ≤ u → u ≤ 60 → 0 ≤ s → s < N 0 0 → M (276 + u) s = mn9 (pth N u s z)) (hq : Q r SHX R M) : ∀ (k : Nat) (u : Int), u + (k : Int) = 61 → 0 ≤ u → mtF N x y z k u = r → Go d 55 Q 6 [vr 274, vn, vi x, vi y, vn, vi u] [] SHX R M 0 0
  | 0, u, hk, u0, hr => by
    refine b_X6_firstMeeting_6 ?_
    rw [if_pos (by omega)]
    have hr : -1 = r := hr
    rw [hr]
    exact hq
  | k + 1, u, hk, u0, hr => by
    have ih := c_meet6 hc x0 x1 y0 y1 hT k1 hq k (u + 1) (by omega) (by omega)
    have px := (mn9_b (pth_nn (N := N) u x z)).2.2
    have py := (mn9_b (pth_nn (N := N) u y z)).2.2
    unfold mtF at hr
    refine b_X6_firstMeeting_6 ?_
    rw [if_neg (by omega), ok274, rc274_0 hc, ak275, rc275 hc u0 (by omega), akPa u0 (by omega), k1 u x u0 (by omega) x0 x1, ok274, ak275, akPa u0 (by omega), k1 u y u0 (by omega) y0 y1, iadd_of (by omega) (by omega)]
    refine ⟨u0, by omega, x0, by omega, ?_⟩
    by_cases hx : 0 < pth N u x z
    · rw [if_pos hx] at hr
      rw [if_pos (px.2 hx)]
      refine ⟨u0, by omega, y0, by omega, ?_⟩
      by_cases hy : 0 < pth N u y z
      · rw [if_pos hy] at hr
        rw [if_pos (py.2 hy), hr]
        exact hq
      · rw [if_neg hy] at hr
        rw [if_neg fun z => hy (py.1 z)]
        exact ih hr
    · rw [if_neg hx] at hr
      rw [if_neg fun z => hx (px.1 z)]
      exact ih hr
theorem m_meet45 {r : Int} (hR : RM R) (z0 : 0 ≤ z) (z1 : z < N 0 0) (hT : N 0 0 ≤ 10) (km : ∀ u, 0 ≤ u → u ≤ 60 → M 402 u = if 0 < pth N u x z then 1 else 0) (k1 : ∀ u t, 0 ≤ u → u ≤ 60 → 0 ≤ t → t < N 0 0 → M 401 (10 * u + t) = mn9 (pth N u y t)) (hq : Q r SHX R M) : ∀ (k : Nat) (u : Int), u + (k : Int) = 61 → 0 ≤ u → mtF N x y z k u = r → Go d 253 Q 45 [vr 364, vn, vn, vi z, vi u] [] SHX R M 0 0
  | 0, u, hk, u0, hr => by
    refine b_X12_meet_45 ?_
    rw [if_pos (by omega)]
    have hr : -1 = r := hr
    rw [hr]
    exact hq
  | k + 1, u, hk, u0, hr => by
    have ih := m_meet45 hR z0 z1 hT km k1 hq k (u + 1) (by omega) (by omega)
    have py := (mn9_b (pth_nn (N := N) u y z)).2.2
    unfold mtF at hr
    refine b_X12_meet_45 ?_
    rw [if_neg (by omega), ok364, fr58 hR, ak402, km u u0 (by omega), iadd_of (x := u) (by omega) (by omega)]
    refine ⟨u0, by omega, ?_⟩
    by_cases hx : 0 < pth N u x z
    · rw [if_pos hx] at hr
      rw [if_pos hx, if_neg (by decide), ok364, fr57 hR, ak401, imul_of (by omega) (by omega), iadd_of (by omega) (by omega), k1 u z u0 (by omega) z0 z1]
      refine ⟨by omega, by omega, ?_⟩
      by_cases hy : 0 < pth N u y z
      · rw [if_pos hy] at hr
        rw [if_pos (py.2 hy), hr]
        exact hq
      · rw [if_neg hy] at hr
        rw [if_neg fun z => hy (py.1 z)]
        exact ih hr
    · rw [if_neg hx] at hr
      rw [if_neg hx, if_pos rfl]
      exact ih hr
theorem p_meet (h : INV c R M b N) : PR (d + 2) 129 253 [vi x, vi y, vi z] R M (Inv (c + 1)) := by
  obtain ⟨hn, hN, hC, hW, hM, hc, hR, b0, b1⟩ := in_net h
  have hb := ia_b (in_a h)
  have hT := wn_T hW
  have no : ¬ ((0 ≤ x ∧ x < N 0 0) ∧ (0 ≤ y ∧ y < N 0 0) ∧ (0 ≤ z ∧ z < N 0 0)) → Mw (d + 2) 253 [vr 364, vi x, vi y, vi z] SHX R M 0 0 (fun w sh2 R2 M2 => sh2 = SHX ∧ -1 = w ∧ Inv (c + 1) R2 M2) := fun hx => by
    refine Mw_of mok253 rfl fun _ _ => b_X12_meet_0 ?_
    rw [ok364]
    refine m_isTower (d := d) hR hM hW (fun q0 q1 _ => ?_) fun g _ => ?_
    · rw [if_neg (by decide), ok364]
      refine m_isTower (d := d) hR hM hW (fun k0 k1 _ => ?_) fun g _ => ?_
      · rw [if_neg (by decide), ok364]
        refine m_isTower (d := d) hR hM hW (fun u0 u1 _ => absurd ⟨⟨q0, q1⟩, ⟨k0, k1⟩, u0, u1⟩ hx) fun g _ => ?_
        rw [if_pos rfl]
        exact ⟨rfl, rfl, same h⟩
      · rw [if_pos rfl]
        exact ⟨rfl, rfl, same h⟩
    · rw [if_pos rfl]
      exact ⟨rfl, rfl, same h⟩
  refine Mw_of mok129 rfl fun _ _ => b_X11_meet_0 ?_
  rw [ok0]
  refine c_isTower (d := d) hn hN hC hW (fun x0 x1 _ => ?_) fun x0 _ => ?_
  · rw [if_neg (by decide), ok0]
    refine c_isTower (d := d) hn hN hC hW (fun y0 y1 _ => ?_) fun y0 _ => ?_
    · rw [if_neg (by decide), ok0]
      refine c_isTower (d := d) hn hN hC hW (fun z0 z1 _ => ?_) fun z0 _ => ?_
      · rw [if_neg (by decide), ok0, ok0, rc0_8 hc, hn, ok274]
        refine Mw_of mok55 rfl fun _ _ => b_X6_firstMeeting_0 ?_
        rw [ok274]
        refine c_fill (d := d) hc hN hC hW (by omega) fun M1 f1 k1 => ?_
        have hM1 : NM M1 b N := NM_of hM (by rw [f1 _ (by omega)]) (fun q q0 q1 => f1 q (by omega)) (f1 _ (by omega))
        have hb1 : ∀ w : Int, 0 ≤ w → w < 16 → M1 378 (16 * b + w) = N 8 w := fun w w0 w1 => by rw [f1 _ (by omega)]; exact hb w w0 w1
        refine c_meet6 (r := mtF N x y z 61 0) hc x0 x1 y0 y1 hT.2 k1 ?_ 61 0 (by decide) (by decide) rfl
        refine ⟨rfl, Mw_of mok253 rfl fun _ _ => b_X12_meet_0 ?_⟩
        rw [ok364]
        refine m_isTower (d := d) hR hM1 hW (fun _ _ _ => ?_) fun g _ => absurd ⟨x0, x1⟩ g
        rw [if_neg (by decide), ok364]
        refine m_isTower (d := d) hR hM1 hW (fun _ _ _ => ?_) fun g _ => absurd ⟨y0, y1⟩ g
        rw [if_neg (by decide), ok364]
        refine m_isTower (d := d) hR hM1 hW (fun _ _ _ => ?_) fun g _ => absurd ⟨z0, z1⟩ g
        rw [if_neg (by decide), ok364]
        refine m_lay (d := d) hR hM1 hW hb1 x0 x1 fun M2 f2 k2 => ?_
        have key : ∀ u : Int, 0 ≤ u → u ≤ 61 → ∀ M3, (∀ q, q ≠ 402 → M3 q = M2 q) → (∀ i, 0 ≤ i → i < u → M3 402 i = if 0 < pth N i x z then 1 else 0) → Go (d + 2) 253 (fun w sh2 R2 M2 => sh2 = SHX ∧ mtF N x y z 61 0 = w ∧ Inv (c + 1) R2 M2) 19 [vr 364, vn, vi y, vi z, vi u] [] SHX R M3 0 0 := by
          refine upto (fun M3 f3 h3 => ?_) fun u u0 u1 ih M3 f3 h3 => ?_
          · refine b_X12_meet_19 ?_
            rw [if_pos (by decide), ok364]
            have f13 : ∀ q, q ≠ 401 → q ≠ 402 → M3 q = M1 q := fun q q1 q2 => by rw [f3 q q2, f2 q q1]
            have hM3 : NM M3 b N := NM_of hM1 (by rw [f13 _ (by decide) (by decide)]) (fun q q0 q1 => f13 q (by omega) (by omega)) (f13 _ (by decide) (by decide))
            refine m_lay (d := d) hR hM3 hW (fun w w0 w1 => by rw [f13 _ (by decide) (by decide)]; exact hb1 w w0 w1) y0 y1 fun M4 f4 k4 => ?_
            refine m_meet45 (r := mtF N x y z 61 0) (x := x) hR z0 z1 hT.2 (fun u u0 u1 => by rw [f4 _ (by decide)]; exact h3 u u0 (by omega)) k4 ?_ 61 0 (by decide) (by decide) rfl
            exact ⟨rfl, rfl, path_inv h f1 fun q q1 q2 => by rw [f4 q q1, f13 q q1 q2]⟩
          · have px := (mn9_b (pth_nn (N := N) u x z)).2.2
            have nx : ∀ v, v = (if 0 < pth N u x z then (1 : Int) else 0) → Go (d + 2) 253 (fun w sh2 R2 M2 => sh2 = SHX ∧ mtF N x y z 61 0 = w ∧ Inv (c + 1) R2 M2) 19 [vr 364, vn, vi y, vi z, vi (u + 1)] [] SHX R (stm M3 402 u v) 0 0 := fun v hv => by
              refine ih _ (fun q hq => by rw [stm_ne hq, f3 q hq]) fun i i0 i1 => ?_
              by_cases hi : i = u
              · rw [hi, stm_hit, hv]
              · rw [stm_neq (by omega), h3 i i0 (by omega)]
            refine b_X12_meet_19 ?_
            rw [if_neg (by omega), ok364, ok364, fr57 hR, fr58 hR, ak401, ak402, ak402, imul_of (by omega) (by omega), iadd_of (by omega) (by omega), f3 401 (by decide), k2 u z u0 (by omega) z0 z1, iadd_of (x := u) (by omega) (by omega)]
            refine ⟨by omega, by omega, ?_⟩
            by_cases hx : 0 < pth N u x z
            · rw [if_pos (px.2 hx)]
              exact ⟨u0, by omega, nx 1 (by rw [if_pos hx])⟩
            · rw [if_neg fun z => hx (px.1 z)]
              exact ⟨u0, by omega, nx 0 (by rw [if_neg hx])⟩
        exact key 0 (by decide) (by decide) M2 (fun _ _ => rfl) fun i i0 i1 => by omega
      · rw [if_pos rfl]
        exact ⟨rfl, no fun q => z0 q.2.2⟩
    · rw [if_pos rfl]
      exact ⟨rfl, no fun q => y0 q.2.1⟩
  · rw [if_pos rfl]
    exact ⟨rfl, no fun q => x0 q.1⟩
def spF (N : NTW) (x y : Int) : Nat → Int → Int → Int
  | 0, _, n => n
  | k + 1, u, n => spF N x y k (u + 1) (if 0 < pth N u x y then n + 1 else n)
theorem c_len8 {r : Int} (hc : RC R) (x0 : 0 ≤ x) (x1 : x < N 0 0) (hT : N 0 0 ≤ 10) (k1 : ∀ u s, 0 ≤ u → u ≤ 60 → 0 ≤ s → s < N 0 0 → M (276 + u) s = mn9 (pth N u s y)) (hq : Q r SHX R M) : ∀ (k : Nat) (u n : Int), u + (k : Int) = 61 → 0 ≤ u → 0 ≤ n → n ≤ u → spF N x y k u n = r → Go d 56 Q 8 [vr 274, vn, vi x, vn, vi n, vi u] [] SHX R M 0 0
  | 0, u, n, hk, u0, n0, n1, hr => by
    refine b_X6_lengths_8 ?_
    rw [if_pos (by omega)]
    have hr : n = r := hr
    rw [hr]
    exact hq
  | k + 1, u, n, hk, u0, n0, n1, hr => by
    have ih := fun n' => c_len8 hc x0 x1 hT k1 hq k (u + 1) n' (by omega) (by omega)
    have px := (mn9_b (pth_nn (N := N) u x y)).2.2
    unfold spF at hr
    refine b_X6_lengths_8 ?_
    rw [if_neg (by omega), ok274, rc274_0 hc, ak275, rc275 hc u0 (by omega), akPa u0 (by omega), k1 u x u0 (by omega) x0 x1, iadd_of (x := u) (by omega) (by omega), iadd_of (x := n) (by omega) (by omega)]
    refine ⟨u0, by omega, x0, by omega, ?_⟩
    by_cases hx : 0 < pth N u x y
    · rw [if_pos hx] at hr
      rw [if_pos (px.2 hx)]
      exact ih (n + 1) (by omega) (by omega) hr
    · rw [if_neg hx] at hr
      rw [if_neg fun z => hx (px.1 z)]
      exact ih n n0 (by omega) hr
theorem m_spr17 {r : Int} (hR : RM R) (y0 : 0 ≤ y) (y1 : y < N 0 0) (hT : N 0 0 ≤ 10) (k1 : ∀ u t, 0 ≤ u → u ≤ 60 → 0 ≤ t → t < N 0 0 → M 401 (10 * u + t) = mn9 (pth N u x t)) (hq : Q r SHX R M) : ∀ (k : Nat) (u n : Int), u + (k : Int) = 61 → 0 ≤ u → 0 ≤ n → n ≤ u → spF N x y k u n = r → Go d 254 Q 17 [vr 364, vn, vi y, vi n, vi u] [] SHX R M 0 0
  | 0, u, n, hk, u0, n0, n1, hr => by
    refine b_X12_spread_17 ?_
    rw [if_pos (by omega)]
    have hr : n = r := hr
    rw [hr]
    exact hq
  | k + 1, u, n, hk, u0, n0, n1, hr => by
    have ih := fun n' => m_spr17 hR y0 y1 hT k1 hq k (u + 1) n' (by omega) (by omega)
    have px := (mn9_b (pth_nn (N := N) u x y)).2.2
    unfold spF at hr
    refine b_X12_spread_17 ?_
    rw [if_neg (by omega), ok364, fr57 hR, ak401, imul_of (by omega) (by omega), iadd_of (x := 10 * u) (by omega) (by omega), k1 u y u0 (by omega) y0 y1, iadd_of (x := u) (by omega) (by omega), iadd_of (x := n) (y := 1) (by omega) (by omega), iadd_of (x := n) (y := 0) (by omega) (by omega), Int.add_zero]
    refine ⟨by omega, by omega, ?_⟩
    by_cases hx : 0 < pth N u x y
    · rw [if_pos hx] at hr
      rw [if_pos (px.2 hx)]
      exact ih (n + 1) (by omega) (by omega) hr
    · rw [if_neg hx] at hr
      rw [if_neg fun z => hx (px.1 z)]
      exact ih n n0 (by omega) hr
theorem p_spread (h : INV c R M b N) : PR (d + 2) 130 254 [vi x, vi y] R M (Inv (c + 1)) := by
  obtain ⟨hn, hN, hC, hW, hM, hc, hR, b0, b1⟩ := in_net h
  have hb := ia_b (in_a h)
  have hT := wn_T hW
  have no : ¬ ((0 ≤ x ∧ x < N 0 0) ∧ (0 ≤ y ∧ y < N 0 0)) → Mw (d + 2) 254 [vr 364, vi x, vi y] SHX R M 0 0 (fun w sh2 R2 M2 => sh2 = SHX ∧ -1 = w ∧ Inv (c + 1) R2 M2) := fun hx => by
    refine Mw_of mok254 rfl fun _ _ => b_X12_spread_0 ?_
    rw [ok364]
    refine m_isTower (d := d) hR hM hW (fun q0 q1 _ => ?_) fun g _ => ?_
    · rw [if_neg (by decide), ok364]
      refine m_isTower (d := d) hR hM hW (fun k0 k1 _ => absurd ⟨⟨q0, q1⟩, k0, k1⟩ hx) fun g _ => ?_
      rw [if_pos rfl]
      exact ⟨rfl, rfl, same h⟩
    · rw [if_pos rfl]
      exact ⟨rfl, rfl, same h⟩
  refine Mw_of mok130 rfl fun _ _ => b_X11_spread_0 ?_
  rw [ok0]
  refine c_isTower (d := d) hn hN hC hW (fun x0 x1 _ => ?_) fun x0 _ => ?_
  · rw [if_neg (by decide), ok0]
    refine c_isTower (d := d) hn hN hC hW (fun y0 y1 _ => ?_) fun y0 _ => ?_
    · rw [if_neg (by decide), ok0, ok0, rc0_8 hc, hn, ok274]
      refine Mw_of mok56 rfl fun _ _ => b_X6_lengths_0 ?_
      rw [ok274]
      refine c_fill (d := d) hc hN hC hW (by omega) fun M1 f1 k1 => ?_
      have hM1 : NM M1 b N := NM_of hM (by rw [f1 _ (by omega)]) (fun q q0 q1 => f1 q (by omega)) (f1 _ (by omega))
      refine c_len8 (r := spF N x y 61 0 0) hc x0 x1 hT.2 k1 ?_ 61 0 0 (by decide) (by decide) (by decide) (by decide) rfl
      refine ⟨rfl, Mw_of mok254 rfl fun _ _ => b_X12_spread_0 ?_⟩
      rw [ok364]
      refine m_isTower (d := d) hR hM1 hW (fun _ _ _ => ?_) fun g _ => absurd ⟨x0, x1⟩ g
      rw [if_neg (by decide), ok364]
      refine m_isTower (d := d) hR hM1 hW (fun _ _ _ => ?_) fun g _ => absurd ⟨y0, y1⟩ g
      rw [if_neg (by decide), ok364]
      refine m_lay (d := d) hR hM1 hW (fun w w0 w1 => by rw [f1 _ (by omega)]; exact hb w w0 w1) x0 x1 fun M2 f2 k2 => ?_
      refine m_spr17 (r := spF N x y 61 0 0) hR y0 y1 hT.2 k2 ?_ 61 0 0 (by decide) (by decide) (by decide) (by decide) rfl
      exact ⟨rfl, rfl, path_inv h f1 fun q q1 _ => f2 q q1⟩
    · rw [if_pos rfl]
      exact ⟨rfl, no fun q => y0 q.2⟩
  · rw [if_pos rfl]
    exact ⟨rfl, no fun q => x0 q.1⟩
end
