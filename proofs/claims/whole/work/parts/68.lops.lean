/-! OPS THAT TRY WHAT ONE LOST GOOSE CHANGES -/
theorem stm_FM_fld {M : MEM} {S F : SK} {j v : Int} (h : j ≠ 49) : stm (FM M S F) 364 j v = FM (stm M 364 j v) S F := by
  funext q i
  unfold stm FM
  by_cases h1 : q = 364 ∧ i = j
  · obtain ⟨rfl, rfl⟩ := h1
    simp [h]
  · rw [if_neg h1]
    by_cases h2 : q = 392
    · subst h2
      simp
    · by_cases h3 : q = 395
      · subst h3
        simp
      · by_cases h4 : q = 364
        · subst h4
          have h5 : i ≠ j := fun z => h1 ⟨rfl, z⟩
          simp [h5]
        · simp [h2, h3, h4]
theorem sm_addf {f g : Int → Int} {a : Int} : ∀ n : Nat, sm (fun i => f i + g i) a n = sm f a n + sm g a n
  | 0 => rfl
  | n + 1 => by
    show sm (fun i => f i + g i) a n + (f (a + (n : Int)) + g (a + (n : Int))) = (sm f a n + f (a + (n : Int))) + (sm g a n + g (a + (n : Int)))
    rw [sm_addf n]
    omega
theorem sm_swap {f : Int → Int → Int} {a : Int} (W : Nat) : ∀ n : Nat, sm (fun b => sm (fun w => f b w) 0 W) a n = sm (fun w => sm (fun b => f b w) a n) 0 W
  | 0 => (sm_0 W fun i _ _ => rfl).symm
  | n + 1 => by
    show sm (fun b => sm (fun w => f b w) 0 W) a n + sm (fun w => f (a + (n : Int)) w) 0 W = sm (fun w => sm (fun b => f b w) a n + f (a + (n : Int)) w) 0 W
    rw [sm_swap W n, ← sm_addf]
section
variable {d c : Nat} {R M X : MEM} {b : Int} {N : NTW} {x y z : Int} {Q : RES} {S F : SK}
theorem f_lossOf {w t base : Int} {p k : Nat} (hR : RM R) (hN : NM X b N) (hW : WN N) (hr : RW N (X 396)) (hk : k ≤ 100) (t0 : 0 ≤ t) (t1 : t < 10) (w0 : 0 ≤ w) (hb0 : 0 ≤ base) (hb1 : base ≤ 2000000) (hq : ∀ F', Q (base - flyS N (w, (p : Int)) (opS N (X 396) (upf S 218 0)) k (192 + t)) SHX R (FM (stm (stm (stm X 364 47 w) 364 48 (p : Int)) 364 47 (-1)) (flyS N (w, (p : Int)) (opS N (X 396) (upf S 218 0)) k) F')) : Mw (d + 4) 247 [vr 364, vi w, vi (p : Int), vi t, vi (k : Int), vi base] SHX R (FM X S F) 0 0 Q := by
  refine Mw_of mok247 rfl fun _ _ => b_X12_lossOf_0 ?_
  rw [ok364, ok364, ok364, ok364, stm_FM_fld (by decide), stm_FM_fld (by decide), stm_FM_did]
  have e396 : stm (stm X 364 47 w) 364 48 (p : Int) 396 = X 396 := by rw [stm_ne (by decide), stm_ne (by decide)]
  have h8 : (0 : Int) ≤ upf S 218 0 218 := by rw [upf_hit]; decide
  refine f_reckoned (d := d) (L := (w, (p : Int))) hR (NM_of hN (by rw [stm_neq (by omega), stm_neq (by omega)]) (fun q q0 q1 => by rw [stm_ne (by omega), stm_ne (by omega)]) (by rw [stm_ne (by omega), stm_ne (by omega)])) hW (by rw [e396]; exact hr) h8 (by omega) t0 t1 (by rw [stm_neq (by omega), stm_hit]) (by rw [stm_hit]) (by show -1 ≤ w; omega) fun F' => ?_
  rw [ok364, stm_FM_fld (by decide)]
  have o := fly_ok (L := (w, (p : Int))) hW (opS_ok (S := upf S 218 0) hW hr h8) k
  have r1 := there_rng hW o t0 t1
  rw [e396, isub_of (by omega) (by omega)]
  exact hq F'
/-- nothing but the last lost goose's beat has changed -/
def LK (X Y : MEM) : Prop := ∀ q j, ¬ (q = 364 ∧ j = 48) → Y q j = X q j
theorem LK_step {Y : MEM} {w p : Int} (h : LK X Y) (h7 : X 364 47 = -1) : LK X (stm (stm (stm Y 364 47 w) 364 48 p) 364 47 (-1)) := fun q j hq => by
  by_cases h1 : q = 364 ∧ j = 47
  · obtain ⟨rfl, rfl⟩ := h1
    rw [stm_hit, h7]
  · rw [stm_neq h1, stm_neq hq, stm_neq h1]
    exact h q j hq
theorem NM_LK {Y : MEM} (h : NM X b N) (hl : LK X Y) : NM Y b N := NM_of h (hl _ _ (by omega)) (fun q q0 q1 => funext fun j => hl _ _ (by omega)) (funext fun j => hl _ _ (by omega))
theorem p_loss {u : Int} (h : INV c R M b N) (hc5 : c ≤ 512) : PR (d + 5) 125 248 [vi x, vi z, vi y, vi u] R M (Inv (c + 1)) := by
  obtain ⟨hn, hN, hC, hW, hM, hc, hR, b0, b1⟩ := in_net h
  have hf := in_f h
  have hT := wn_T hW
  have hw := wn_W hW
  obtain ⟨r1, r2, r3⟩ := in_row h
  have no : ¬ ((0 ≤ x ∧ x < N 0 2) ∧ (0 ≤ y ∧ y < N 0 0 ∧ N 1 y = 4) ∧ (1 ≤ u ∧ u ≤ 100) ∧ 1 ≤ z ∧ z ≤ u) → Mw (d + 5) 248 [vr 364, vi x, vi z, vi y, vi u] SHX R M 0 0 (fun w sh2 R2 M2 => sh2 = SHX ∧ -1 = w ∧ Inv (c + 1) R2 M2) := fun hx => by
    refine Mw_of mok248 rfl fun _ _ => b_X12_loss_0 ?_
    rw [ok364]
    refine m_isWay (d := d + 3) hR hM hW (fun a0 a1 _ => ?_) fun g _ => ?_
    · rw [if_neg (by decide), ok364]
      refine m_isDusk (d := d + 2) hR hM hW (fun k0 k1 k2 _ => ?_) fun g _ => ?_
      · rw [if_neg (by decide)]
        refine m_isBeats (d := d + 3) (fun u0 u1 _ => ?_) fun g _ => ?_
        · rw [if_neg (by decide)]
          refine m_isIn (d := d + 4) (fun v0 v1 _ => absurd ⟨⟨a0, a1⟩, ⟨k0, k1, k2⟩, ⟨u0, u1⟩, v0, v1⟩ hx) fun g _ => ?_
          rw [if_pos rfl]
          exact ⟨rfl, rfl, same h⟩
        · rw [if_pos rfl]
          exact ⟨rfl, rfl, same h⟩
      · rw [if_pos rfl]
        exact ⟨rfl, rfl, same h⟩
    · rw [if_pos rfl]
      exact ⟨rfl, rfl, same h⟩
  refine Mw_of mok125 rfl fun _ _ => b_X11_loss_0 ?_
  rw [ok0]
  refine c_isWay (d := d + 3) hn hN hC hW (fun a0 a1 _ => ?_) fun a0 _ => ?_
  · rw [if_neg (by decide), ok0]
    refine c_isTried (d := d + 1) hn hN hC hW (fun k0 k1 k2 y0 y1 _ => ?_) fun k0 _ => ?_
    · rw [if_neg (by decide)]
      refine c_isWithin (d := d + 4) (fun v0 v1 _ => ?_) fun v0 _ => ?_
      · rw [if_neg (by decide), ok0, ok0, ok0, rc0_6 hc, rc0_5 hc, hn, ok261]
        obtain ⟨k, rfl⟩ := Int.eq_ofNat_of_zero_le (show 0 ≤ u by omega)
        obtain ⟨p, rfl⟩ := Int.eq_ofNat_of_zero_le (show 0 ≤ z by omega)
        have em : CS M 262 (blk M 262) = M := CS_self _ _
        have fin : ∀ M1 : MEM, (∀ q, (q < 262 ∨ 272 ≤ q) → M1 q = M q) → SHX = SHX ∧ Mw (d + 5) 248 [vr 364, vi x, vi (p : Int), vi y, vi (k : Int)] SHX R M1 0 0 (fun w sh2 R2 M2 => sh2 = SHX ∧ lossV N (opS N (M 260) (zS 0)) x y p k = w ∧ Inv (c + 1) R2 M2) := by
          intro M1 rhi
          refine ⟨rfl, Mw_of mok248 rfl fun _ _ => b_X12_loss_0 ?_⟩
          have hM1 : NM M1 b N := NM_of hM (by rw [rhi _ (by decide)]) (fun q q0 q1 => rhi q (by omega)) (rhi _ (by decide))
          have hMX : NM (pasM M1) b N := NM_of hM1 (by rw [pasM_ne (by decide)]) (fun q q0 q1 => pasM_ne (by omega)) (pasM_ne (by decide))
          rw [ok364]
          refine m_isWay (d := d + 3) hR hM1 hW (fun _ _ _ => ?_) fun g _ => absurd ⟨a0, a1⟩ g
          rw [if_neg (by decide), ok364]
          refine m_isDusk (d := d + 2) hR hM1 hW (fun _ _ _ _ => ?_) fun g _ => absurd ⟨k0, k1, k2⟩ g
          rw [if_neg (by decide)]
          refine m_isBeats (d := d + 3) (fun _ _ _ => ?_) fun g _ => absurd ⟨y0, y1⟩ g
          rw [if_neg (by decide)]
          refine m_isIn (d := d + 4) (fun _ _ _ => ?_) fun g _ => absurd ⟨v0, v1⟩ g
          rw [if_neg (by decide), ok364]
          refine m_putAside (d := d + 4) hR ?_
          rw [ok364, ← FM_fsk (pasM M1), fsk_pas]
          have e396 : pasM M1 396 = M 396 := by rw [pasM_ne (by decide), rhi _ (by decide)]
          have e364 : ∀ j, pasM M1 364 j = M 364 j := fun j => by rw [pasM_ne (by decide), rhi _ (by decide)]
          have ef8 : fsk M1 218 = M 364 49 := by
            show (if (218 : Int) = 218 then _ else _) = _
            rw [if_pos rfl, rhi _ (by decide)]
          have e8 : 0 ≤ fsk M1 218 := by rw [ef8]; exact if_s hf
          refine f_reckoned (d := d + 1) (L := (-1, M 364 48)) hR hMX hW (by rw [e396]; exact r2) e8 (by omega) k0 (by omega) (by rw [e364]; exact if_l hf) (e364 48) (by show (-1 : Int) ≤ -1; decide) fun F' => ?_
          have eb : flyS N (-1, M 364 48) (opS N (pasM M1 396) (fsk M1)) k (192 + y) = flyS N L0 (opS N (M 260) (zS 0)) k (192 + y) := by
            rw [e396, fly_Lm (L := (-1, M 364 48)) rfl, op_rows h]
            exact fly_cE hW opS_cE k (192 + y) (by omega) (by omega)
          have br := there_rng hW (fly_ok (L := L0) hW (zop_ok (N := N) hW r1) k) k0 (show y < 10 by omega)
          rw [ok364, eb]
          refine f_lossOf (d := d) hR hMX hW (by rw [e396]; exact r2) (by omega) k0 (by omega) a0 br.1 (by omega) fun F'' => ?_
          rw [ok364]
          refine m_bringBack (d := d + 4) hR ⟨rfl, ?_, trial_inv (M1 := M1) h (fun q j hk => by rw [rhi _ (by have := KP_out hk; omega)]) (fun q j q0 q1 => ?_) (fun i i0 i1 => ?_) ?_⟩
          · rw [e396, op_rows h]
            exact ((lossV_eq2 hW a0 a1 r2 (S := upf (flyS N (-1, M 364 48) (opS N (M 396) (fsk M1)) k) 218 0) upf_hit (by omega) (by omega) k0 (show y < 10 by omega)).1).symm
          · have := LK_step (X := pasM M1) (Y := pasM M1) (w := x) (p := (p : Int)) (fun _ _ _ => rfl) (by rw [e364]; exact if_l hf) q j (fun z => q1 z.1 z.2)
            rw [this, pasM_ne q0]
          · rw [stm_neq (by omega), stm_neq (by omega), stm_neq (by omega)]
            exact pasM_at i0 i1
          · exact (fly_ok (L := (x, (p : Int))) hW (opS_ok (S := upf (flyS N (-1, M 364 48) (opS N (pasM M1 396) (fsk M1)) k) 218 0) hW (by rw [e396]; exact r2) (by rw [upf_hit]; decide)) k).1 218 (by decide) (by decide)
        have := c_lossOf (d := d) (M := M) (A := blk M 262) (t := y) (w := x) (b := p) (k := k) (Q := fun x4 sh4 R4 M4 => sh4 = SHX ∧ Mw (d + 5) 248 [vr 364, vi x, vi (p : Int), vi y, vi (k : Int)] SHX R4 M4 0 0 (fun w sh2 R2 M2 => sh2 = SHX ∧ x4 = w ∧ Inv (c + 1) R2 M2)) (rc261_0 hc) (rc261_1 hc) (SR262 hc) (SR267 hc) (by decide) hN hC hW (by omega) fs260 (by omega) r1 a0 a1 (by omega) (by omega) k0 (by omega) (fun A' => fin _ fun q hq => CS_ne (by omega)) (fun A' B' => fin _ fun q hq => by rw [CS_ne (by omega), CS_ne (by omega)])
        rw [em] at this
        exact this
      · rw [if_pos rfl]
        exact ⟨rfl, no fun q => v0 q.2.2.2⟩
    · rw [if_pos rfl]
      exact ⟨rfl, no fun q => k0 ⟨q.2.1, q.2.2.1⟩⟩
  · rw [if_pos rfl]
    exact ⟨rfl, no fun q => a0 q.1⟩
theorem p_blind (h : INV c R M b N) (hc5 : c ≤ 512) : PR (d + 5) 126 249 [vi x, vi y] R M (Inv (c + 1)) := by
  obtain ⟨hn, hN, hC, hW, hM, hc, hR, b0, b1⟩ := in_net h
  have hf := in_f h
  have hT := wn_T hW
  have hw := wn_W hW
  obtain ⟨r1, r2, r3⟩ := in_row h
  have no : ¬ ((0 ≤ x ∧ x < N 0 0 ∧ N 1 x = 4) ∧ 1 ≤ y ∧ y ≤ 100) → Mw (d + 5) 249 [vr 364, vi x, vi y] SHX R M 0 0 (fun w sh2 R2 M2 => sh2 = SHX ∧ -1 = w ∧ Inv (c + 1) R2 M2) := fun hx => by
    refine Mw_of mok249 rfl fun _ _ => b_X12_blind_0 ?_
    rw [ok364]
    refine m_isDusk (d := d + 2) hR hM hW (fun k0 k1 k2 _ => ?_) fun g _ => ?_
    · rw [if_neg (by decide)]
      refine m_isBeats (d := d + 3) (fun u0 u1 _ => absurd ⟨⟨k0, k1, k2⟩, u0, u1⟩ hx) fun g _ => ?_
      rw [if_pos rfl]
      exact ⟨rfl, rfl, same h⟩
    · rw [if_pos rfl]
      exact ⟨rfl, rfl, same h⟩
  refine Mw_of mok126 rfl fun _ _ => b_X11_blind_0 ?_
  rw [ok0]
  refine c_isTried (d := d + 1) hn hN hC hW (fun k0 k1 k2 y0 y1 _ => ?_) fun k0 _ => ?_
  · rw [if_neg (by decide), ok0, ok0, ok0, rc0_6 hc, rc0_5 hc, hn, ok261]
    obtain ⟨k, rfl⟩ := Int.eq_ofNat_of_zero_le (show 0 ≤ y by omega)
    obtain ⟨Y0, hY0⟩ : ∃ Y0, Y0 = opS N (M 260) (zS 0) := ⟨_, rfl⟩
    have em : CS M 262 (blk M 262) = M := CS_self _ _
    have fin : ∀ M1 : MEM, (∀ q, (q < 262 ∨ 272 ≤ q) → M1 q = M q) → SHX = SHX ∧ Mw (d + 5) 249 [vr 364, vi x, vi (k : Int)] SHX R M1 0 0 (fun w sh2 R2 M2 => sh2 = SHX ∧ blA N (opS N (M 260) (zS 0)) x k k = w ∧ Inv (c + 1) R2 M2) := by
      intro M1 rhi
      rw [← hY0]
      refine ⟨rfl, Mw_of mok249 rfl fun _ _ => b_X12_blind_0 ?_⟩
      have hM1 : NM M1 b N := NM_of hM (by rw [rhi _ (by decide)]) (fun q q0 q1 => rhi q (by omega)) (rhi _ (by decide))
      have hMX : NM (pasM M1) b N := NM_of hM1 (by rw [pasM_ne (by decide)]) (fun q q0 q1 => pasM_ne (by omega)) (pasM_ne (by decide))
      rw [ok364]
      refine m_isDusk (d := d + 2) hR hM1 hW (fun _ _ _ _ => ?_) fun g _ => absurd ⟨k0, k1, k2⟩ g
      rw [if_neg (by decide)]
      refine m_isBeats (d := d + 3) (fun _ _ _ => ?_) fun g _ => absurd ⟨y0, y1⟩ g
      rw [if_neg (by decide), ok364]
      refine m_putAside (d := d + 4) hR ?_
      rw [ok364, ← FM_fsk (pasM M1), fsk_pas]
      have e396 : pasM M1 396 = M 396 := by rw [pasM_ne (by decide), rhi _ (by decide)]
      have e364 : ∀ j, pasM M1 364 j = M 364 j := fun j => by rw [pasM_ne (by decide), rhi _ (by decide)]
      have ef8 : fsk M1 218 = M 364 49 := by
        show (if (218 : Int) = 218 then _ else _) = _
        rw [if_pos rfl, rhi _ (by decide)]
      have e8 : 0 ≤ fsk M1 218 := by rw [ef8]; exact if_s hf
      refine f_reckoned (d := d + 1) (L := (-1, M 364 48)) hR hMX hW (by rw [e396]; exact r2) e8 (by omega) k0 (by omega) (by rw [e364]; exact if_l hf) (e364 48) (by show (-1 : Int) ≤ -1; decide) fun F' => ?_
      have eb : flyS N (-1, M 364 48) (opS N (pasM M1 396) (fsk M1)) k (192 + x) = flyS N L0 Y0 k (192 + x) := by
        rw [e396, fly_Lm (L := (-1, M 364 48)) rfl, hY0, op_rows h]
        exact fly_cE hW opS_cE k (192 + x) (by omega) (by omega)
      have br := there_rng hW (fly_ok (L := L0) hW (zop_ok (N := N) hW r1) k) k0 (show x < 10 by omega)
      rw [← hY0] at br
      have s0 : 0 ≤ flyS N (-1, M 364 48) (opS N (pasM M1 396) (fsk M1)) k 218 := (fly_ok (L := (-1, M 364 48)) hW (opS_ok (S := fsk M1) hW (by rw [e396]; exact r2) e8) k).1 218 (by decide) (by decide)
      rw [eb]
      have part : ∀ (W n : Nat), 0 ≤ sm (fun w => sm (fun b => blV N Y0 x k b w) 1 n) 0 W ∧ sm (fun w => sm (fun b => blV N Y0 x k b w) 1 n) 0 W ≤ (n : Int) * (W : Int) := fun W n => by
        refine ⟨sm_nn W fun w _ _ => sm_nn n fun b _ _ => blV_rng.1, sm_le W fun w _ _ => ?_⟩
        have := sm_le (f := fun b => blV N Y0 x k b w) (a := 1) (c := 1) n fun b _ _ => blV_rng.2
        omega
      have loop : ∀ u : Nat, u ≤ (N 0 2).toNat → ∀ Y S F, LK (pasM M1) Y → 0 ≤ S 218 → Go (d + 5) 249 (fun w sh2 R2 M2 => sh2 = SHX ∧ blA N Y0 x k k = w ∧ Inv (c + 1) R2 M2) 20 [vr 364, vi x, vi (k : Int), vi (flyS N L0 Y0 k (192 + x)), vi (sm (fun w => sm (fun b => blV N Y0 x k b w) 1 k) 0 u), vi (u : Int), vn] [] SHX R (FM Y S F) 0 0 := by
        refine uptoN ?_ ?_
        · intro Y S F hl hs8
          refine b_X12_blind_20 ?_
          rw [ok364]
          refine f_wayMany (d := d + 4) hR (NM_LK hMX hl) ?_
          rw [if_neg (by omega), ok364]
          refine m_bringBack (d := d + 4) hR ⟨rfl, sm_swap _ k, trial_inv (M1 := M1) h (fun q j hk => by rw [rhi _ (by have := KP_out hk; omega)]) (fun q j q0 q1 => ?_) (fun i i0 i1 => ?_) hs8⟩
          · rw [hl q j (fun z => q1 z.1 z.2), pasM_ne q0]
          · rw [hl _ _ (by omega)]
            exact pasM_at i0 i1
        · intro u hu ih Y S F hl hs8
          refine b_X12_blind_20 ?_
          rw [ok364]
          refine f_wayMany (d := d + 4) hR (NM_LK hMX hl) ?_
          rw [if_pos (by omega)]
          obtain ⟨base, hbase⟩ : ∃ base, base = sm (fun w => sm (fun b => blV N Y0 x k b w) 1 k) 0 u := ⟨_, rfl⟩
          have pb := part u k
          have hku : (k : Int) * (u : Int) ≤ 1600 := by
            have h1 : (k : Int) * (u : Int) ≤ 100 * (u : Int) := Int.mul_le_mul_of_nonneg_right (by omega) (by omega)
            omega
          rw [← hbase] at pb ⊢
          have inner : ∀ j : Nat, j ≤ k → ∀ Y S F, LK (pasM M1) Y → 0 ≤ S 218 → Go (d + 5) 249 (fun w sh2 R2 M2 => sh2 = SHX ∧ blA N Y0 x k k = w ∧ Inv (c + 1) R2 M2) 26 [vr 364, vi x, vi (k : Int), vi (flyS N L0 Y0 k (192 + x)), vi (base + sm (fun b => blV N Y0 x k b u) 1 j), vi (u : Int), vi ((j : Int) + 1)] [] SHX R (FM Y S F) 0 0 := by
            refine uptoN ?_ ?_
            · intro Y S F hl hs8
              refine b_X12_blind_26 ?_
              rw [if_pos (by omega), iadd_of (by omega) (by omega), show (u : Int) + 1 = ((u + 1 : Nat) : Int) by omega]
              have e1 : base + sm (fun b => blV N Y0 x k b u) 1 k = sm (fun w => sm (fun b => blV N Y0 x k b w) 1 k) 0 (u + 1) := by
                rw [hbase]
                show _ = sm _ 0 u + sm (fun b => blV N Y0 x k b (0 + (u : Int))) 1 k
                rw [Int.zero_add]
              rw [e1]
              exact ih Y S F hl hs8
            · intro j hj ihj Y S F hl hs8
              refine b_X12_blind_26 ?_
              have eY396 : Y 396 = M 396 := by rw [← e396]; exact funext fun i => hl _ _ (by omega)
              have sj := sm_nn (f := fun b => blV N Y0 x k b u) (a := 1) j fun b _ _ => blV_rng.1
              have sj2 := sm_le (f := fun b => blV N Y0 x k b u) (a := 1) (c := 1) j fun b _ _ => blV_rng.2
              rw [if_neg (by omega), ok364, show (j : Int) + 1 = ((j + 1 : Nat) : Int) by omega]
              refine f_lossOf (d := d) hR (NM_LK hMX hl) hW (by rw [eY396]; exact r2) (by omega) k0 (by omega) (by omega) br.1 (by omega) fun F'' => ?_
              obtain ⟨l1, l2⟩ := lossV_eq2 (w := (u : Int)) (r := M 396) (S := upf S 218 0) (t := x) (k := k) (b := j + 1) hW (by omega) (by omega) r2 upf_hit (by omega) (by omega) k0 (show x < 10 by omega)
              have o8 := (fly_ok (L := ((u : Int), ((j + 1 : Nat) : Int))) hW (opS_ok (S := upf S 218 0) hW r2 (by rw [upf_hit]; decide)) k).1 218 (by decide) (by decide)
              rw [← op_rows (S := zS 0) h, ← hY0] at l1 l2
              rw [eY396, l1]
              have es : sm (fun b => blV N Y0 x k b u) 1 (j + 1) = sm (fun b => blV N Y0 x k b u) 1 j + blV N Y0 x k ((j : Int) + 1) u := by
                show _ + blV N Y0 x k (1 + (j : Int)) u = _
                rw [Int.add_comm 1 (j : Int)]
              have ev : blV N Y0 x k ((j : Int) + 1) u = if 0 < flyS N L0 Y0 (j + 1) (slt N u) ∧ flyS N L0 (lzS N (flyS N L0 Y0 (j + 1)) u) (k - (j + 1)) (192 + x) = flyS N L0 Y0 k (192 + x) then 1 else 0 := by
                unfold blV
                rw [show ((j : Int) + 1).toNat = j + 1 by omega]
              have hl2 := LK_step (w := (u : Int)) (p := ((j + 1 : Nat) : Int)) hl (by rw [e364]; exact if_l hf)
              have nx : ∀ v, v = base + sm (fun b => blV N Y0 x k b u) 1 (j + 1) → Go (d + 5) 249 (fun w sh2 R2 M2 => sh2 = SHX ∧ blA N Y0 x k k = w ∧ Inv (c + 1) R2 M2) 26 [vr 364, vi x, vi (k : Int), vi (flyS N L0 Y0 k (192 + x)), vi v, vi (u : Int), vi (iadd ((j + 1 : Nat) : Int) 1)] [] SHX R (FM (stm (stm (stm Y 364 47 u) 364 48 ((j + 1 : Nat) : Int)) 364 47 (-1)) (flyS N ((u : Int), ((j + 1 : Nat) : Int)) (opS N (M 396) (upf S 218 0)) k) F'') 0 0 := fun v hv => by
                rw [iadd_of (by omega) (by omega), hv]
                exact ihj _ _ _ hl2 o8
              unfold lossV
              by_cases hp : 0 < flyS N L0 Y0 (j + 1) (slt N u)
              · rw [if_pos hp] at l2 ⊢
                by_cases hx : flyS N L0 (lzS N (flyS N L0 Y0 (j + 1)) u) (k - (j + 1)) (192 + x) = flyS N L0 Y0 k (192 + x)
                · rw [if_pos (by omega), ok364, FM_did, l2, if_neg (by decide), iadd_of (by omega) (by omega)]
                  refine nx _ ?_
                  rw [es, ev, if_pos ⟨hp, hx⟩]
                  omega
                · rw [if_neg (by omega)]
                  refine nx _ ?_
                  rw [es, ev, if_neg fun z => hx z.2]
                  omega
              · rw [if_neg hp] at l2 ⊢
                rw [if_pos rfl, ok364, FM_did, l2, if_pos rfl]
                refine nx _ ?_
                rw [es, ev, if_neg fun z => hp z.1]
                omega
          have := inner 0 (Nat.zero_le _) Y S F hl hs8
          have e0 : base + sm (fun b => blV N Y0 x k b u) 1 0 = base := by
            show base + 0 = base
            omega
          rw [e0] at this
          exact this
      exact loop 0 (Nat.zero_le _) _ _ F' (fun _ _ _ => rfl) s0
    have := c_unseen (d := d) (M := M) (A := blk M 262) (t := x) (k := k) (Q := fun x4 sh4 R4 M4 => sh4 = SHX ∧ Mw (d + 5) 249 [vr 364, vi x, vi (k : Int)] SHX R4 M4 0 0 (fun w sh2 R2 M2 => sh2 = SHX ∧ x4 = w ∧ Inv (c + 1) R2 M2)) (rc261_0 hc) (rc261_1 hc) (SR262 hc) (SR267 hc) (by decide) hN hC hW (by omega) fs260 (by omega) r1 (by omega) k0 (by omega) (fun A' B' => fin _ fun q hq => by rw [CS_ne (by omega), CS_ne (by omega)])
    rw [em] at this
    exact this
  · rw [if_pos rfl]
    exact ⟨rfl, no k0⟩
end
