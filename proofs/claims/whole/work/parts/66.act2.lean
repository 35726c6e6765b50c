/-! OPS IN EARNEST: beats, a gust -/
section
variable {N : NTW} {S : SK} {L : Int × Int}
theorem setO_Lm (h : L.1 = -1) {u m : Int} : setO N L S u m = setO N L0 S u m := by
  unfold setO
  split
  · rfl
  · split
    · rfl
    · rename_i hu
      rw [if_neg (fun z => by omega), if_neg (fun z => by have := z.1; simp only [L0] at this; omega)]
theorem beat_Lm (h : L.1 = -1) : beatS N L S = beatS N L0 S := by
  have e1 : setO N L = setO N L0 := funext fun S => funext fun u => funext fun m => setO_Lm h
  have e2 : doS N L = doS N L0 := by
    funext S t f
    unfold doS doT
    rw [e1]
  have e3 : ∀ (F : Int → Int) (Y : SK) (n : Nat), wkS N L F Y n = wkS N L0 F Y n := by
    intro F Y n
    induction n with
    | zero => rfl
    | succ n ih =>
      show doS N L (wkS N L F Y n) _ _ = doS N L0 (wkS N L0 F Y n) _ _
      rw [ih, e2]
  exact e3 _ _ _
theorem fly_Lm (h : L.1 = -1) : ∀ k : Nat, flyS N L S k = flyS N L0 S k
  | 0 => rfl
  | k + 1 => by
    show beatS N L (flyS N L S k) = beatS N L0 (flyS N L0 S k)
    rw [fly_Lm h k, beat_Lm h]
theorem fly_GD (hW : WN N) {c : Nat} (h : GD N S c) (k : Nat) (hk : S 216 + (k : Int) ≤ 1000) : GD N (flyS N L0 S k) (c + 1) := by
  obtain ⟨a1, a2, a3, a4, a5⟩ := h
  have e6 := fly_216 (S := S) (L := L0) hW k
  refine ⟨(fly_ok (L := L0) hW a1 k).mono (by omega), fly_BD hW a2 k, by omega, ?_, ?_⟩
  · rw [fly_217 hW (Or.inr rfl)]; exact a4
  · rw [fly_217 hW (Or.inl rfl)]; omega
theorem bl_GD (hW : WN N) {c : Nat} {w v : Int} (h : GD N S c) (w0 : 0 ≤ w) (w1 : w < N 0 2) (v0 : 0 ≤ v) (v1 : v ≤ 999) : GD N (blS (upf S 217 v) w) (c + 1) := by
  have hw := wn_W hW
  have hT := wn_T hW
  obtain ⟨a1, a2, a3, a4, a5⟩ := h
  have e : ∀ i, 192 ≤ i → i ≠ 217 → blS (upf S 217 v) w i = S i := fun i hi h7 => by rw [blS_out (by omega), upf_ne h7]
  have nnS : nn (blS (upf S 217 v) w) := fun i i0 i1 => by
    have n1 : nn (upf S 217 v) := nn_upf a1.1 v0
    by_cases hi : i < 12 * w ∨ 12 * w + 12 ≤ i
    · rw [blS_out hi]; exact n1 i i0 i1
    · have := blS_val (S := upf S 217 v) (w := w) (k := i - 12 * w) (by omega) (by omega)
      rw [show 12 * w + (i - 12 * w) = i by omega] at this
      rw [this]
      have p1 := n1 (12 * w + 11) (by omega) (by omega)
      have p2 := n1 (12 * w + 10) (by omega) (by omega)
      split
      · omega
      · split
        · decide
        · exact n1 _ (by omega) (by omega)
  have msS : ms (blS (upf S 217 v) w) = ms S := by
    have k : ∀ f : SK, sm f 0 202 = sm f 0 192 + sm f (0 + ((192 : Nat) : Int)) 10 := fun f => sm_add 192 10
    unfold ms
    rw [k, k, sm_bl w0 (by omega), sm_out 192 (by omega), e _ (by decide) (by decide), e _ (by decide) (by decide), sm_congr (f := blS (upf S 217 v) w) (g := S) 10 fun i i0 i1 => e i (by omega) (by omega)]
  refine ⟨⟨nnS, ?_, fun i g0 g1 => ?_, fun i g0 g1 => ?_, fun t g0 g1 g2 => ?_⟩, ⟨?_, fun t t0 t1 => ?_⟩, ?_, ?_, ?_⟩
  · rw [msS, e _ (by decide) (by decide)]
    have := a1.2.1
    omega
  · rw [blS_out (by omega), upf_ne (by omega)]; exact a1.2.2.1 i g0 g1
  · rw [e _ (by omega) (by omega)]; exact a1.2.2.2.1 i g0 g1
  · rw [e _ (by omega) (by omega)]; exact a1.2.2.2.2 t g0 g1 g2
  · rw [e _ (by decide) (by decide), e _ (by decide) (by decide)]; exact a2.1
  · rw [e _ (by omega) (by omega), e _ (by decide) (by decide)]; exact a2.2 t t0 t1
  · rw [e _ (by decide) (by decide)]; exact a3
  · rw [blS_out (by omega), upf_hit]; exact v1
  · rw [e _ (by decide) (by decide)]; omega
end
section
variable {d c : Nat} {R M M2 : MEM} {b : Int} {N : NTW} {x y z : Int}
/-- an act has been kept on both sides, and the new sky stands on both -/
theorem INV_act {u' h' : Int} {S' : SK} {A2 : MEM} (h : INV c R M b N) (hu : u' = if M 364 51 = 40 then 40 else M 364 51 + 1) (hh : h' = (M 36 1 + 1) % 41) (e : ∀ q j, q ≠ 392 → q ≠ 393 → q ≠ 395 → q ≠ 397 → (q < 38 + 5 * h' ∨ 38 + 5 * h' + 5 ≤ q) → q ≠ 36 → (q = 364 → j ≠ 49 ∧ j ≠ 51 ∧ j ≠ 52) → M2 q j = M q j) (e1 : M2 36 1 = h') (e2 : M2 36 2 = u') (e3 : M2 36 3 = 0) (e4 : M2 364 51 = u') (e5 : M2 364 52 = 0) (e9 : 0 ≤ M2 364 49) (eA : ∀ r j, 0 ≤ r → r < 5 → M2 (38 + 5 * h' + r) j = A2 r j) (hA : SKY 0 A2 S') (eS : ∀ i, 0 ≤ i → i < 218 → M2 392 i = S' i) (hG : GD N S' (c + 1)) (w1 : ∀ q i, 0 ≤ q → q < u' - 1 → 0 ≤ i → i < 218 → M2 397 (218 * q + i) = M 397 (218 * (q + (M 364 51 + 1 - u')) + i)) (w2 : ∀ i, 0 ≤ i → i < 218 → M2 397 (218 * (u' - 1) + i) = M 392 i) : Inv (c + 1) R M2 := by
  obtain ⟨hn, hN, hC, hW, hM, hc, hR, b0, b1⟩ := in_net h
  obtain ⟨hr, ha, ht, hf, hw, hs, hb, hp, hg, hy⟩ := h
  have h1 := is_h hs
  have eC : ∀ i, 0 ≤ i → i < 218 → cut (M2 392) i = S' i := fun i i0 i1 => by rw [cut_at i0 i1]; exact eS i i0 i1
  have hs' : IS M2 N (c + 1) := IS_new hs (by omega) e2 e3 e4 e5 hu (fun q q0 q1 q2 => funext fun j => e q j (by omega) (by omega) (by omega) (by omega) (by omega) (by omega) (fun z => by omega)) (by
    rw [e1]
    exact SKY_agree hA (fun r j r0 r1 => eA r j r0 r1) eC) (GD_agree hW hG eC (by unfold cut; rw [if_neg (by decide)]; decide)) w1 w2
  exact ⟨b, N, ⟨hr, IA_of ha (e _ _ (by omega) (by omega) (by omega) (by omega) (by omega) (by omega) (fun z => by omega)) (fun q _ _ _ => funext fun j => e _ j (by omega) (by omega) (by omega) (by omega) (by omega) (by omega) (fun z => by omega)) (fun q _ _ => funext fun j => e _ j (by omega) (by omega) (by omega) (by omega) (by omega) (by omega) (fun z => by omega)) (funext fun j => e _ j (by omega) (by omega) (by omega) (by omega) (by omega) (by omega) (fun z => by omega)) (funext fun j => e _ j (by omega) (by omega) (by omega) (by omega) (by omega) (by omega) (fun z => by omega)) (funext fun j => e _ j (by omega) (by omega) (by omega) (by omega) (by omega) (by omega) (fun z => by omega)), IT_of ht (e _ _ (by omega) (by omega) (by omega) (by omega) (by omega) (by omega) (fun z => by omega)) (e _ _ (by omega) (by omega) (by omega) (by omega) (by omega) (by omega) (fun z => by omega)) (funext fun j => e _ j (by omega) (by omega) (by omega) (by omega) (by omega) (by omega) (fun z => by omega)) (funext fun j => e _ j (by omega) (by omega) (by omega) (by omega) (by omega) (by omega) (fun z => by omega)) (funext fun j => e _ j (by omega) (by omega) (by omega) (by omega) (by omega) (by omega) (fun z => by omega)), IF_of hf (e _ _ (by omega) (by omega) (by omega) (by omega) (by omega) (by omega) (fun z => by omega)) (e _ _ (by omega) (by omega) (by omega) (by omega) (by omega) (by omega) (fun z => by omega)) (e _ _ (by omega) (by omega) (by omega) (by omega) (by omega) (by omega) (fun z => by omega)) (e _ _ (by omega) (by omega) (by omega) (by omega) (by omega) (by omega) (fun z => by omega)) (e _ _ (by omega) (by omega) (by omega) (by omega) (by omega) (by omega) (fun z => by omega)) (e9), IW_of hw (fun i _ _ => e _ _ (by omega) (by omega) (by omega) (by omega) (by omega) (by omega) (fun z => by omega)) (fun i _ _ => e _ _ (by omega) (by omega) (by omega) (by omega) (by omega) (by omega) (fun z => by omega)), hs', IB_of hb (Nat.le_succ c) (funext fun j => e _ j (by omega) (by omega) (by omega) (by omega) (by omega) (by omega) (fun z => by omega)) (fun q _ _ => funext fun j => e _ j (by omega) (by omega) (by omega) (by omega) (by omega) (by omega) (fun z => by omega)) (funext fun j => e _ j (by omega) (by omega) (by omega) (by omega) (by omega) (by omega) (fun z => by omega)) (funext fun j => e _ j (by omega) (by omega) (by omega) (by omega) (by omega) (by omega) (fun z => by omega)), IP_of hp (e _ _ (by omega) (by omega) (by omega) (by omega) (by omega) (by omega) (fun z => by omega)) (e _ _ (by omega) (by omega) (by omega) (by omega) (by omega) (by omega) (fun z => by omega)) (funext fun j => e _ j (by omega) (by omega) (by omega) (by omega) (by omega) (by omega) (fun z => by omega)) (funext fun j => e _ j (by omega) (by omega) (by omega) (by omega) (by omega) (by omega) (fun z => by omega)) (funext fun j => e _ j (by omega) (by omega) (by omega) (by omega) (by omega) (by omega) (fun z => by omega)) (funext fun j => e _ j (by omega) (by omega) (by omega) (by omega) (by omega) (by omega) (fun z => by omega)), IG_of hg (e _ _ (by omega) (by omega) (by omega) (by omega) (by omega) (by omega) (fun z => by omega)) (e _ _ (by omega) (by omega) (by omega) (by omega) (by omega) (by omega) (fun z => by omega)) (e _ _ (by omega) (by omega) (by omega) (by omega) (by omega) (by omega) (fun z => by omega)) (e _ _ (by omega) (by omega) (by omega) (by omega) (by omega) (by omega) (fun z => by omega)) (fun q _ _ => funext fun j => e _ j (by omega) (by omega) (by omega) (by omega) (by omega) (by omega) (fun z => by omega)) (fun q _ _ => funext fun j => e _ j (by omega) (by omega) (by omega) (by omega) (by omega) (by omega) (fun z => by omega)), IY_of hy (e _ _ (by omega) (by omega) (by omega) (by omega) (by omega) (by omega) (fun z => by omega)) (e _ _ (by omega) (by omega) (by omega) (by omega) (by omega) (by omega) (fun z => by omega)) (funext fun j => e _ j (by omega) (by omega) (by omega) (by omega) (by omega) (by omega) (fun z => by omega)) (fun i _ => e _ _ (by omega) (by omega) (by omega) (by omega) (by omega) (by omega) (fun z => by omega))⟩⟩
theorem in_sky {c : Nat} {R M : MEM} {b : Int} {N : NTW} (h : INV c R M b N) : SKY 0 (blk M (38 + 5 * M 36 1)) (fsk M) := SKY_agree (in_now h).2.2.1 (fun _ _ _ _ => rfl) fun i i0 i1 => by rw [fsk_at i1, cut_at i0 i1]
theorem p_beats (h : INV c R M b N) (hc5 : c ≤ 512) : PR (d + 3) 114 220 [vi x] R M (Inv (c + 1)) := by
  obtain ⟨hn, hN, hC, hW, hM, hc, hR, b0, b1⟩ := in_net h
  obtain ⟨hS, h37, hA, hG, g0, g1⟩ := in_now h
  have hF := in_fsk h
  have hA := in_sky h
  have hs := in_s h
  have hf := in_f h
  have h2 := is_u hs
  have h3 := is_r hs
  have h4 := is_m hs
  have f6 : fsk M 216 = M 392 216 := fsk_at (by decide)
  have q10 : M (38 + 5 * M 36 1) 10 = M 392 216 := by have := sky_bt hA; rw [f6] at this; rw [← this]; show _ = M (_ + 0) 10; rw [Int.add_zero]
  have n6 := hF.1.1 216 (by decide) (by decide)
  have m6 := hF.2.2.1
  rw [f6] at n6 m6
  have no : ¬ ((0 ≤ x ∧ x ≤ 60) ∧ M 392 216 + x ≤ 1000) → Mw (d + 3) 220 [vr 364, vi x] SHX R M 0 0 (fun w sh2 R2 M2 => sh2 = SHX ∧ -1 = w ∧ Inv (c + 1) R2 M2) := fun hx => by
    refine Mw_of mok220 rfl fun _ _ => b_X12_beats_0 ?_
    refine m_isIn (fun k0 k1 _ => ?_) fun g _ => ?_
    · rw [if_neg (by decide), ok364, fr42 hR, ak392, iadd_of (by omega) (by omega), if_pos (by omega)]
      exact ⟨by decide, by decide, rfl, rfl, same h⟩
    · rw [if_pos rfl]
      exact ⟨rfl, rfl, same h⟩
  refine Mw_of mok114 rfl fun _ _ => b_X11_beats_0 ?_
  refine c_isWithin (d := d + 2) (fun k0 k1 _ => ?_) fun k0 _ => ?_
  · rw [if_neg (by decide), ok0, rc0_2 hc, ok36]
    refine c_now (d := d + 2) hc g0 g1 ?_
    rw [okS hS, q10, isub_of (by omega) (by omega)]
    by_cases hmax : 1000 - x < M 392 216
    · rw [if_pos hmax]
      exact ⟨rfl, no fun z => by omega⟩
    · rw [if_neg hmax, ok0, rc0_2 hc, ok36]
      obtain ⟨n, rfl⟩ := Int.eq_ofNat_of_zero_le k0
      obtain ⟨u', hu⟩ : ∃ u', u' = if M 364 51 = 40 then 40 else M 364 51 + 1 := ⟨_, rfl⟩
      have hu1 : 1 ≤ u' ∧ u' ≤ 40 := by rw [hu]; split <;> omega
      refine c_goOn (d := d + 1) (u' := u') hc g0 g1 (by omega) (by omega) hA (by rw [h2.1]; exact hu) fun A1 hA1 => ?_
      obtain ⟨h', hh⟩ : ∃ h', h' = (M 36 1 + 1) % 41 := ⟨_, rfl⟩
      rw [← hh]
      have hS' := SR37 hc (show 0 ≤ h' by omega) (show h' < 41 by omega)
      obtain ⟨a, haa⟩ : ∃ a, a = 38 + 5 * h' := ⟨_, rfl⟩
      rw [← haa] at hS' ⊢
      have a0 : 38 ≤ a ∧ a ≤ 238 := by omega
      have hC3 : NC (stm (stm (stm M 36 1 h') 36 2 u') 36 3 0) (1 + 13 * b) N := NC_of hC fun q q0 q1 => by rw [stm_ne (by omega), stm_ne (by omega), stm_ne (by omega)]
      have o : ∀ j : Nat, j ≤ n → GD N (flyS N L0 (fsk M) j) (c + 1) := fun j hj => fly_GD hW hF j (by rw [f6]; omega)
      have loop : ∀ j : Nat, j ≤ n → ∀ A', SKY 0 A' (flyS N L0 (fsk M) j) → Go (d + 3) 114 (fun x sh1 R1 M1 => sh1 = SHX ∧ Mw (d + 3) 220 [vr 364, vi (n : Int)] SHX R1 M1 0 0 (fun w sh2 R2 M2 => sh2 = SHX ∧ x = w ∧ Inv (c + 1) R2 M2)) 21 [vr 0, vi (n : Int), vr a, vi (j : Int)] [] SHX R (CS (stm (stm (stm M 36 1 h') 36 2 u') 36 3 0) a A') 0 0 := by
        refine uptoN ?_ ?_
        · intro A' hA'
          refine b_X11_beats_21 ?_
          have e6 := fly_216 (S := fsk M) (L := L0) hW n
          rw [f6] at e6
          rw [if_neg (by omega), okS hS', CS_0, sky_bt hA', e6]
          refine ⟨rfl, Mw_of mok220 rfl fun _ _ => b_X12_beats_0 ?_⟩
          have r364 : ∀ j, CS (stm (stm (stm M 36 1 h') 36 2 u') 36 3 0) a A' 364 j = M 364 j := fun j => by rw [CS_ne (by omega)]; simp (disch := omega) only [stm_neq]
          have rhi : ∀ q, 243 ≤ q → CS (stm (stm (stm M 36 1 h') 36 2 u') 36 3 0) a A' q = M q := fun q hq => by rw [CS_ne (by omega)]; simp (disch := omega) only [stm_ne]
          refine m_isIn (fun _ _ _ => ?_) fun g _ => absurd ⟨k0, k1⟩ g
          rw [if_neg (by decide), ok364, fr42 hR, ak392, rhi 392 (by decide), iadd_of (by omega) (by omega), if_neg (by omega), ok364]
          refine ⟨by decide, by decide, m_keepAct (d := d + 2) (u' := u') hR (by rw [r364]; omega) (by rw [r364]; omega) (by rw [r364]; exact hu) fun W w1 w2 => ?_⟩
          rw [r364, rhi 397 (by decide)] at w1
          rw [rhi 392 (by decide)] at w2
          obtain ⟨X, hX⟩ : ∃ X, X = stm (stm (rset (CS (stm (stm (stm M 36 1 h') 36 2 u') 36 3 0) a A') 397 W) 364 51 u') 364 52 0 := ⟨_, rfl⟩
          have x392 : X 392 = M 392 := by rw [hX, stm_ne (by omega), stm_ne (by omega), rset_ne (by omega), rhi _ (by decide)]
          have x364 : ∀ j, j ≠ 51 → j ≠ 52 → X 364 j = M 364 j := fun j j1 j2 => by rw [hX, stm_neq (by omega), stm_neq (by omega), rset_ne (by omega), r364]
          have xhi : ∀ q, 365 ≤ q → q ≠ 397 → X q = M q := fun q q0 q1 => by rw [hX, stm_ne (by omega), stm_ne (by omega), rset_ne q1, rhi _ (by omega)]
          have xf : fsk X = fsk M := by
            unfold fsk
            rw [x392, x364 49 (by decide) (by decide)]
          have hMX : NM X b N := NM_of hM (x364 36 (by decide) (by decide)) (fun q q0 q1 => xhi q (by omega) (by omega)) (xhi _ (by decide) (by decide))
          rw [← hX]
          have lp2 : ∀ j : Nat, j ≤ n → ∀ F', Go (d + 3) 220 (fun w sh2 R2 M2 => sh2 = SHX ∧ M 392 216 + (n : Int) = w ∧ Inv (c + 1) R2 M2) 19 [vr 364, vi (n : Int), vi (j : Int)] [] SHX R (FM X (flyS N L0 (fsk M) j) F') 0 0 := by
            refine uptoN ?_ ?_
            · intro F'
              refine b_X12_beats_19 ?_
              rw [if_neg (by omega), ok364, fr42 hR, ak392, FM_all (by decide), e6]
              refine ⟨by decide, by decide, rfl, rfl, ?_⟩
              have og := o n (Nat.le_refl _)
              have x36 : ∀ j, FM X (flyS N L0 (fsk M) n) F' 36 j = stm (stm (stm M 36 1 h') 36 2 u') 36 3 0 36 j := fun j => by rw [FM_ne2 (by decide) (by decide) (by decide), hX, stm_neq (by omega), stm_neq (by omega), rset_ne (by omega), CS_n (by omega)]
              refine INV_act (A2 := A') (S' := flyS N L0 (fsk M) n) h hu hh (fun q j q1 q2 q3 q4 q5 q6 q7 => ?_) (by rw [x36]; simp (disch := omega) only [stm_neq, stm_hit]) (by rw [x36]; simp (disch := omega) only [stm_neq, stm_hit]) (by rw [x36, stm_hit]) (by rw [FM_fld (by decide), hX, stm_neq (by omega), stm_hit]) (by rw [FM_fld (by decide), hX, stm_hit]) (by rw [FM_did]; exact og.1.1 218 (by decide) (by decide)) (fun r j r0 r1 => ?_) hA' (fun i i0 i1 => FM_all i1) og (fun q i q0 q1 i0 i1 => ?_) (fun i i0 i1 => ?_)
              · by_cases hq : q = 364
                · subst hq
                  have := q7 rfl
                  rw [FM_fld this.1, x364 _ this.2.1 this.2.2]
                · rw [FM_ne2 q1 q3 hq, hX, stm_neq (by omega), stm_neq (by omega), rset_ne q4, CS_ne (by omega), stm_neq (by omega), stm_neq (by omega), stm_neq (by omega)]
              · rw [FM_ne2 (by omega) (by omega) (by omega), hX, stm_neq (by omega), stm_neq (by omega), rset_ne (by omega), ← haa, CS_k r0 r1]
              · rw [FM_ne2 (by decide) (by decide) (by decide), hX, stm_neq (by omega), stm_neq (by omega), rset_hit]
                exact w1 q i q0 q1 i0 i1
              · rw [FM_ne2 (by decide) (by decide) (by decide), hX, stm_neq (by omega), stm_neq (by omega), rset_hit]
                exact w2 i i0 i1
            · intro j hj ih F'
              refine b_X12_beats_19 ?_
              have oj := o j (by omega)
              have e6j := fly_216 (S := fsk M) (L := L0) hW j
              rw [f6] at e6j
              rw [if_pos (by omega), ok364]
              refine f_beat (d := d) (L := (-1, X 364 48)) hR hMX hW oj.1 (by omega) (by omega) oj.2.1 (by rw [x364 47 (by decide) (by decide)]; exact if_l hf) rfl (by show (-1 : Int) ≤ -1; decide) fun F'' => ?_
              rw [beat_Lm rfl, iadd_of (by omega) (by omega), show (j : Int) + 1 = ((j + 1 : Nat) : Int) by omega]
              exact ih F''
          have := lp2 0 (Nat.zero_le _) (X 395)
          have ex : FM X (flyS N L0 (fsk M) 0) (X 395) = X := by
            show FM X (fsk M) (X 395) = X
            rw [← xf]
            exact FM_fsk X
          rw [ex] at this
          exact this
        · intro j hj ih A' hA'
          refine b_X11_beats_21 ?_
          have oj := o j (by omega)
          have e6j := fly_216 (S := fsk M) (L := L0) hW j
          rw [f6] at e6j
          rw [if_pos (by omega), ok0, hn, okS hS']
          refine c_pass (d := d) hS' hN hC3 hW (by omega) hA' oj.1 (by omega) oj.2.1 (by omega) fun A2 hA2 => ?_
          rw [iadd_of (by omega) (by omega), show (j : Int) + 1 = ((j + 1 : Nat) : Int) by omega]
          exact ih A2 hA2
      exact loop 0 (Nat.zero_le _) A1 hA1
  · rw [if_pos rfl]
    exact ⟨rfl, no fun z => k0 z.1⟩
theorem p_gust (h : INV c R M b N) (hc5 : c ≤ 512) : PR (d + 2) 115 221 [] R M (Inv (c + 1)) := by
  obtain ⟨hn, hN, hC, hW, hM, hc, hR, b0, b1⟩ := in_net h
  obtain ⟨hS, h37, hA, hG, g0, g1⟩ := in_now h
  have hF := in_fsk h
  have hA := in_sky h
  have hs := in_s h
  have h2 := is_u hs
  have h3 := is_r hs
  have h4 := is_m hs
  have hw := wn_W hW
  have f6 : fsk M 216 = M 392 216 := fsk_at (by decide)
  have f7 : fsk M 217 = M 392 217 := fsk_at (by decide)
  have n7 := hF.1.1 217 (by decide) (by decide)
  have m7 := hF.2.2.2.1
  have m6 := hF.2.2.1
  refine Mw_of mok115 rfl fun _ _ => b_X11_gust_0 ?_
  rw [ok0, hn, okN hN, nc_W hC]
  by_cases hz : N 0 2 = 0
  · rw [if_pos hz]
    refine ⟨rfl, Mw_of mok221 rfl fun _ _ => b_X12_gust_0 ?_⟩
    rw [ok364]
    refine w_wayMany (d := d + 1) hR (nm_b hM) b0 b1 ?_
    rw [nm_W hM, if_pos hz]
    exact ⟨rfl, rfl, same h⟩
  · rw [if_neg hz, ok0, rc0_2 hc, ok36]
    obtain ⟨u', hu⟩ : ∃ u', u' = if M 364 51 = 40 then 40 else M 364 51 + 1 := ⟨_, rfl⟩
    have hu1 : 1 ≤ u' ∧ u' ≤ 40 := by rw [hu]; split <;> omega
    refine c_goOn (d := d) (u' := u') hc g0 g1 (by omega) (by omega) hA (by rw [h2.1]; exact hu) fun A1 hA1 => ?_
    obtain ⟨h', hh⟩ : ∃ h', h' = (M 36 1 + 1) % 41 := ⟨_, rfl⟩
    rw [← hh]
    have hS' := SR37 hc (show 0 ≤ h' by omega) (show h' < 41 by omega)
    obtain ⟨a, haa⟩ : ∃ a, a = 38 + 5 * h' := ⟨_, rfl⟩
    rw [← haa] at hS' ⊢
    have a0 : 38 ≤ a ∧ a ≤ 238 := by omega
    have hC3 : NC (stm (stm (stm M 36 1 h') 36 2 u') 36 3 0) (1 + 13 * b) N := NC_of hC fun q q0 q1 => by rw [stm_ne (by omega), stm_ne (by omega), stm_ne (by omega)]
    rw [ok0, hn, okN hN, okS hS', CS_n (show 1 + 13 * b < a by omega), nc_W hC3]
    obtain ⟨s, hse⟩ : ∃ s, s = (fsk M 217 * 137 + 71) % 1000 := ⟨_, rfl⟩
    obtain ⟨w, hwe⟩ : ∃ w, w = s % N 0 2 := ⟨_, rfl⟩
    have w0 : 0 ≤ w := by rw [hwe]; exact Int.emod_nonneg _ hz
    have w1' : w < N 0 2 := by rw [hwe]; exact Int.emod_lt_of_pos _ (by omega)
    refine c_blow (d := d) hS' hA1 hF.1 (by omega) (by omega) m7 (by omega) hw.2 fun A2 hA2 => ?_
    rw [← hse, ← hwe] at hA2 ⊢
    have r364 : ∀ j, CS (stm (stm (stm M 36 1 h') 36 2 u') 36 3 0) a A2 364 j = M 364 j := fun j => by rw [CS_ne (by omega)]; simp (disch := omega) only [stm_neq]
    have rhi : ∀ q, 243 ≤ q → CS (stm (stm (stm M 36 1 h') 36 2 u') 36 3 0) a A2 q = M q := fun q hq => by rw [CS_ne (by omega)]; simp (disch := omega) only [stm_ne]
    refine ⟨rfl, Mw_of mok221 rfl fun _ _ => b_X12_gust_0 ?_⟩
    rw [ok364]
    refine w_wayMany (d := d + 1) hR (by rw [r364]; exact nm_b hM) b0 b1 ?_
    rw [rhi _ (by decide), nm_W hM, if_neg hz, ok364]
    refine m_keepAct (d := d + 1) (u' := u') hR (by rw [r364]; omega) (by rw [r364]; omega) (by rw [r364]; exact hu) fun W w1 w2 => ?_
    rw [r364, rhi 397 (by decide)] at w1
    rw [rhi 392 (by decide)] at w2
    obtain ⟨X, hX⟩ : ∃ X, X = stm (stm (rset (CS (stm (stm (stm M 36 1 h') 36 2 u') 36 3 0) a A2) 397 W) 364 51 u') 364 52 0 := ⟨_, rfl⟩
    have x392 : X 392 = M 392 := by rw [hX, stm_ne (by omega), stm_ne (by omega), rset_ne (by omega), rhi _ (by decide)]
    have x364 : ∀ j, j ≠ 51 → j ≠ 52 → X 364 j = M 364 j := fun j j1 j2 => by rw [hX, stm_neq (by omega), stm_neq (by omega), rset_ne (by omega), r364]
    have xhi : ∀ q, 365 ≤ q → q ≠ 397 → X q = M q := fun q q0 q1 => by rw [hX, stm_ne (by omega), stm_ne (by omega), rset_ne q1, rhi _ (by omega)]
    have xf : fsk X = fsk M := by
      unfold fsk
      rw [x392, x364 49 (by decide) (by decide)]
    have hMX : NM X b N := NM_of hM (x364 36 (by decide) (by decide)) (fun q q0 q1 => xhi q (by omega) (by omega)) (xhi _ (by decide) (by decide))
    rw [← hX]
    have ex : X = FM X (fsk M) (X 395) := by rw [← xf]; exact (FM_fsk X).symm
    obtain ⟨F, hFe⟩ : ∃ F, F = X 395 := ⟨_, rfl⟩
    rw [ex, ← hFe]
    obtain ⟨S1, hS1⟩ : ∃ S1, S1 = upf (fsk M) 217 s := ⟨_, rfl⟩
    have e9 : ∀ i, i < 217 → S1 i = fsk M i := fun i hi => by rw [hS1]; exact upf_ne (by omega)
    have bnd : ∀ i, 0 ≤ i → i < 192 → 0 ≤ S1 i ∧ S1 i ≤ 2000000 := fun i i0 i1 => by
      rw [e9 i (by omega)]
      have z1 := hF.1.1 i i0 (by omega)
      have z2 := ms_le hF.1.1 (i := i) i0 (by omega)
      have z3 := hF.1.2.1
      omega
    have z12 := bnd (12 * w + 11) (by omega) (by omega)
    have z11 := bnd (12 * w + 10) (by omega) (by omega)
    have es : irem (iadd (imul 137 (fsk M 217)) 71) 1000 = s := by
      rw [imul_of (by omega) (by omega), iadd_of (by omega) (by omega), irem_of (by omega) (by omega) (by omega) (by omega), hse]
      congr 1
      omega
    have ew : irem s (N 0 2) = w := by rw [irem_of (by omega) (by omega) (by omega) (by omega), hwe]
    rw [ok364, ok364, fr42 hR, ak392, ak392, ok364, ak392, ok364, FM_all (by decide), es, stm_FM_all (by decide)]
    refine ⟨by decide, by decide, by decide, by decide, by decide, by decide, by decide, ?_⟩
    rw [← hS1]
    refine f_wayMany (d := d + 1) hR hMX ?_
    rw [FM_all (by decide)]
    have e7 : S1 217 = s := by rw [hS1, upf_hit]
    rw [e7, ew]
    simp (disch := omega) only [ok364, fr42 hR, ak392, FM_all, FM_flo, FM_did, FM_fld, FM_ne2, stm_FM_all, stm_FM_flo, stm_FM_did, upf_hit, upf_ne, iadd_of, isub_of, imul_of]
    have l54 : ∀ j : Int, 0 ≤ j → j ≤ 10 → Go (d + 2) 221 (fun y sh2 R2 M2 => sh2 = SHX ∧ w = y ∧ Inv (c + 1) R2 M2) 54 [vr 364, vi w, vi (10 - j)] [] SHX R (FM X (blP S1 w j) F) 0 0 := by
      refine upto ?_ ?_
      · refine b_X12_gust_54 ?_
        rw [if_neg (by decide)]
        simp (disch := omega) only [ok364, fr42 hR, ak392, FM_all, FM_flo, FM_did, FM_fld, FM_ne2, stm_FM_all, stm_FM_flo, stm_FM_did, upf_hit, upf_ne, iadd_of, isub_of, imul_of]
        have eb : upf (blP S1 w 10) (12 * w) 0 = blS S1 w := rfl
        rw [eb]
        refine ⟨by omega, by omega, trivial, trivial, ?_⟩
        have og : GD N (blS S1 w) (c + 1) := by rw [hS1]; exact bl_GD hW hF w0 w1' (by omega) (by omega)
        have x36 : ∀ j, FM X (blS S1 w) F 36 j = stm (stm (stm M 36 1 h') 36 2 u') 36 3 0 36 j := fun j => by rw [FM_ne2 (by decide) (by decide) (by decide), hX, stm_neq (by omega), stm_neq (by omega), rset_ne (by omega), CS_n (by omega)]
        refine INV_act (A2 := A2) (S' := blS S1 w) h hu hh (fun q j q1 q2 q3 q4 q5 q6 q7 => ?_) (by rw [x36]; simp (disch := omega) only [stm_neq, stm_hit]) (by rw [x36]; simp (disch := omega) only [stm_neq, stm_hit]) (by rw [x36, stm_hit]) (by rw [FM_fld (by decide), hX, stm_neq (by omega), stm_hit]) (by rw [FM_fld (by decide), hX, stm_hit]) (by rw [FM_did]; exact og.1.1 218 (by decide) (by decide)) (fun r j r0 r1 => ?_) (by rw [hS1]; exact hA2) (fun i i0 i1 => FM_all i1) og (fun q i q0 q1 i0 i1 => ?_) (fun i i0 i1 => ?_)
        · by_cases hq : q = 364
          · subst hq
            have := q7 rfl
            rw [FM_fld this.1, x364 _ this.2.1 this.2.2]
          · rw [FM_ne2 q1 q3 hq, hX, stm_neq (by omega), stm_neq (by omega), rset_ne q4, CS_ne (by omega), stm_neq (by omega), stm_neq (by omega), stm_neq (by omega)]
        · rw [FM_ne2 (by omega) (by omega) (by omega), hX, stm_neq (by omega), stm_neq (by omega), rset_ne (by omega), ← haa, CS_k r0 r1]
        · rw [FM_ne2 (by decide) (by decide) (by decide), hX, stm_neq (by omega), stm_neq (by omega), rset_hit]
          exact w1 q i q0 q1 i0 i1
        · rw [FM_ne2 (by decide) (by decide) (by decide), hX, stm_neq (by omega), stm_neq (by omega), rset_hit]
          exact w2 i i0 i1
      · intro j j0 j1 ih
        refine b_X12_gust_54 ?_
        rw [if_pos (by omega)]
        simp (disch := omega) only [ok364, fr42 hR, ak392, FM_all, FM_flo, FM_did, FM_fld, FM_ne2, stm_FM_all, stm_FM_flo, stm_FM_did, upf_hit, upf_ne, iadd_of, isub_of, imul_of, blP_lo]
        rw [show 12 * w + (10 - j) = 12 * w + 10 - j by omega, blP_step j0, show 10 - j + -1 = 10 - (j + 1) by omega]
        exact ⟨by omega, by omega, by omega, by omega, ih⟩
    have l0 := l54 0 (by decide) (by decide)
    rw [blP_0, show (10 : Int) - 0 = 10 by decide] at l0
    rw [show 12 * w + 12 - 1 = 12 * w + 11 by omega, show 12 * w + 12 - 2 = 12 * w + 10 by omega]
    refine ⟨hz, by omega, by omega, by omega, by omega, by omega, by omega, ?_⟩
    rw [iadd_of (by omega) (by omega)]
    exact l0
end
