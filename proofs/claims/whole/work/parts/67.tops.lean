/-! OPS THAT TRY -/
theorem KP_out {q j : Int} (h : KP q j) : q ≠ 393 ∧ q ≠ 395 ∧ (q = 392 → 0 ≤ j ∧ j < 218) ∧ (q = 364 → j ≠ 49 ∧ j ≠ 48) ∧ ¬ (261 ≤ q ∧ q ≤ 337) := by
  unfold KP at h
  omega
theorem KP_out2 {q j : Int} (h : KP q j) : ¬ (q = 340 ∨ q = 341) ∧ ¬ (346 ≤ q ∧ q ≤ 354) ∧ ¬ (361 ≤ q ∧ q ≤ 363) ∧ ¬ (399 ≤ q ∧ q ≤ 402) ∧ ¬ (410 ≤ q ∧ q ≤ 412) ∧ q ≠ 391 ∧ (q = 396 → 0 ≤ j ∧ j < 3) := by
  unfold KP at h
  omega
theorem KP_out3 {q j : Int} (h : KP q j) : q ≠ 274 ∧ q ≠ 344 ∧ (q = 355 → j = 0) ∧ (q = 342 → j = 0) ∧ q ≠ 366 ∧ ¬ (30 ≤ q ∧ q ≤ 32) ∧ ¬ (384 ≤ q ∧ q ≤ 386) ∧ ¬ (389 ≤ q ∧ q ≤ 390) := by
  unfold KP at h
  omega
section
variable {d c : Nat} {R M : MEM} {b : Int} {N : NTW} {x y z : Int} {Q : RES}
/-- the reference's sky is put aside -/
def pasM (M : MEM) : MEM := rset M 393 (fun i => if 0 ≤ i ∧ i < 218 then M 392 i else M 393 i)
theorem m_putAside (hR : RM R) (hq : Q 0 SHX R (pasM M)) : Mw d 204 [vr 364] SHX R M 0 0 Q := by
  refine Mw_of mok204 rfl fun _ _ => b_X12_putAside_0 ?_
  have loop : ∀ v : Int, 0 ≤ v → v ≤ 218 → Go d 204 Q 2 [vr 364, vi v] [] SHX R (rset M 393 (fun i => if 0 ≤ i ∧ i < v then M 392 i else M 393 i)) 0 0 := by
    refine upto ?_ ?_
    · refine b_X12_putAside_2 ?_
      rw [if_neg (by decide)]
      exact hq
    · intro v v0 v1 ih
      refine b_X12_putAside_2 ?_
      rw [if_pos v1]
      simp (disch := omega) only [ok364, fr43 hR, ak393, fr42 hR, ak392, rset_ne, stm_rset, iadd_of]
      have e : upf (fun i => if 0 ≤ i ∧ i < v then M 392 i else M 393 i) v (M 392 v) = fun i => if 0 ≤ i ∧ i < v + 1 then M 392 i else M 393 i := by
        funext i
        unfold upf
        by_cases hi : i = v
        · rw [if_pos hi, if_pos (by omega), hi]
        · rw [if_neg hi]
          try dsimp only
          by_cases h2 : 0 ≤ i ∧ i < v
          · rw [if_pos h2, if_pos (by omega)]
          · rw [if_neg h2, if_neg (by omega)]
      rw [e]
      exact ⟨v0, v1, v0, v1, ih⟩
  have := loop 0 (by decide) (by decide)
  have e : (fun i => if 0 ≤ i ∧ i < 0 then M 392 i else M 393 i) = M 393 := by
    funext i
    exact if_neg (by omega)
  rw [e, rset_self] at this
  exact this
/-- and comes back -/
def bbS (M : MEM) (S : SK) : SK := fun i => if 0 ≤ i ∧ i < 218 then M 393 i else S i
theorem m_bringBack {S F : SK} (hR : RM R) (hq : Q 0 SHX R (FM M (bbS M S) F)) : Mw d 205 [vr 364] SHX R (FM M S F) 0 0 Q := by
  refine Mw_of mok205 rfl fun _ _ => b_X12_bringBack_0 ?_
  have loop : ∀ v : Int, 0 ≤ v → v ≤ 218 → Go d 205 Q 2 [vr 364, vi v] [] SHX R (FM M (fun i => if 0 ≤ i ∧ i < v then M 393 i else S i) F) 0 0 := by
    refine upto ?_ ?_
    · refine b_X12_bringBack_2 ?_
      rw [if_neg (by decide)]
      exact hq
    · intro v v0 v1 ih
      refine b_X12_bringBack_2 ?_
      rw [if_pos v1]
      simp (disch := omega) only [ok364, fr42 hR, ak392, fr43 hR, ak393, FM_ne2, stm_FM_all, iadd_of]
      have e : upf (fun i => if 0 ≤ i ∧ i < v then M 393 i else S i) v (M 393 v) = fun i => if 0 ≤ i ∧ i < v + 1 then M 393 i else S i := by
        funext i
        unfold upf
        by_cases hi : i = v
        · rw [if_pos hi, if_pos (by omega), hi]
        · rw [if_neg hi]
          try dsimp only
          by_cases h2 : 0 ≤ i ∧ i < v
          · rw [if_pos h2, if_pos (by omega)]
          · rw [if_neg h2, if_neg (by omega)]
      rw [e]
      exact ⟨v0, v1, v0, v1, ih⟩
  have := loop 0 (by decide) (by decide)
  have e : (fun i => if 0 ≤ i ∧ i < 0 then M 393 i else S i) = S := by
    funext i
    exact if_neg (by omega)
  rw [e] at this
  exact this
theorem pasM_ne {M : MEM} {q : Int} (h : q ≠ 393) : pasM M q = M q := rset_ne h
theorem pasM_at {M : MEM} {i : Int} (h0 : 0 ≤ i) (h1 : i < 218) : pasM M 393 i = M 392 i := by
  unfold pasM
  rw [rset_hit]
  exact if_pos ⟨h0, h1⟩
theorem fsk_pas {M : MEM} : fsk (pasM M) = fsk M := by
  unfold fsk
  rw [pasM_ne (by decide), pasM_ne (by decide)]
/-- behind a trial: all but scratch is as it was -/
theorem trial_inv {X M1 : MEM} {S F : SK} (h : INV c R M b N) (e1 : ∀ q j, KP q j → M1 q j = M q j) (eX : ∀ q j, q ≠ 393 → (q = 364 → j ≠ 48) → X q j = M1 q j) (e3 : ∀ i, 0 ≤ i → i < 218 → X 393 i = M1 392 i) (h8 : 0 ≤ S 218) : Inv (c + 1) R (FM X (bbS X S) F) := by
  refine ⟨b, N, INV_keep h (Nat.le_succ c) (fun q j hk => ?_) ?_⟩
  · obtain ⟨k1, k2, k3, k4, k5⟩ := KP_out hk
    rw [← e1 q j hk]
    by_cases h2 : q = 392
    · subst h2
      have k3 := k3 rfl
      rw [FM_all k3.2]
      unfold bbS
      rw [if_pos k3, e3 j k3.1 k3.2]
    · by_cases h3 : q = 364
      · subst h3
        have k4 := k4 rfl
        rw [FM_fld k4.1, eX _ _ (by decide) fun _ => k4.2]
      · rw [FM_ne2 h2 k2 h3, eX _ _ k1 fun z => absurd z h3]
  · rw [FM_did]
    unfold bbS
    rw [if_neg (by decide)]
    exact h8
theorem in_row {c : Nat} {R M : MEM} {b : Int} {N : NTW} (h : INV c R M b N) : RW N (M 260) ∧ RW N (M 396) ∧ ∀ s, 0 ≤ s → s < N 0 1 → M 260 s = M 396 s := by
  have hw := in_w h
  have hS := wn_S (in_net h).2.2.2.1
  refine ⟨fun s s0 s1 => ?_, fun s s0 s1 => ?_, fun s s0 s1 => ?_⟩
  · have := hw s s0 (by omega); omega
  · have := hw s s0 (by omega); omega
  · have := hw s s0 (by omega); omega
theorem op_rows {S : SK} (h : INV c R M b N) : opS N (M 260) S = opS N (M 396) S := by
  have hS := wn_S (in_net h).2.2.2.1
  exact oS_congr _ fun s s0 s1 => (in_row h).2.2 s s0 (by omega)
theorem p_reckon (h : INV c R M b N) (hc5 : c ≤ 512) : PR (d + 4) 119 229 [vi x, vi y] R M (Inv (c + 1)) := by
  obtain ⟨hn, hN, hC, hW, hM, hc, hR, b0, b1⟩ := in_net h
  have hf := in_f h
  have hT := wn_T hW
  obtain ⟨r1, r2, r3⟩ := in_row h
  have no : ∀ M1, (∀ q j, KP q j → M1 q j = M q j) → M1 = M → ¬ ((0 ≤ x ∧ x < N 0 0 ∧ N 1 x = 4) ∧ 1 ≤ y ∧ y ≤ 100) → Mw (d + 4) 229 [vr 364, vi x, vi y] SHX R M 0 0 (fun w sh2 R2 M2 => sh2 = SHX ∧ -1 = w ∧ Inv (c + 1) R2 M2) := fun M1 _ _ hx => by
    refine Mw_of mok229 rfl fun _ _ => b_X12_reckon_0 ?_
    rw [ok364]
    refine m_isDusk (d := d + 1) hR hM hW (fun k0 k1 k2 _ => ?_) fun g _ => ?_
    · rw [if_neg (by decide)]
      refine m_isBeats (d := d + 2) (fun u0 u1 _ => absurd ⟨⟨k0, k1, k2⟩, u0, u1⟩ hx) fun g _ => ?_
      rw [if_pos rfl]
      exact ⟨rfl, rfl, same h⟩
    · rw [if_pos rfl]
      exact ⟨rfl, rfl, same h⟩
  refine Mw_of mok119 rfl fun _ _ => b_X11_reckon_0 ?_
  rw [ok0]
  refine c_isTried (d := d) hn hN hC hW (fun k0 k1 k2 y0 y1 _ => ?_) fun k0 _ => ?_
  · rw [if_neg (by decide), ok0, ok0, ok0, rc0_6 hc, rc0_5 hc, hn, ok261]
    obtain ⟨k, rfl⟩ := Int.eq_ofNat_of_zero_le (show 0 ≤ y by omega)
    have em : CS M 262 (blk M 262) = M := CS_self _ _
    have := c_reckoned (d := d) (M := M) (A := blk M 262) (t := x) (k := k) (Q := fun x2 sh2 R2 M2 => sh2 = SHX ∧ Mw (d + 4) 229 [vr 364, vi x, vi (k : Int)] SHX R2 M2 0 0 (fun w sh2 R2 M2 => sh2 = SHX ∧ x2 = w ∧ Inv (c + 1) R2 M2)) (rc261_0 hc) (SR262 hc) hN hC hW (by omega) fs260 (by omega) r1 (by omega) k0 (by omega) (fun A' => ?_)
    · rw [em] at this
      exact this
    · refine ⟨rfl, Mw_of mok229 rfl fun _ _ => b_X12_reckon_0 ?_⟩
      have rhi : ∀ q, (q < 262 ∨ 267 ≤ q) → CS M 262 A' q = M q := fun q hq => CS_ne (by omega)
      have hM1 : NM (CS M 262 A') b N := NM_of hM (by rw [rhi _ (by decide)]) (fun q q0 q1 => rhi q (by omega)) (rhi _ (by decide))
      have hMX : NM (pasM (CS M 262 A')) b N := NM_of hM1 (by rw [pasM_ne (by decide)]) (fun q q0 q1 => pasM_ne (by omega)) (pasM_ne (by decide))
      rw [ok364]
      refine m_isDusk (d := d + 1) hR hM1 hW (fun _ _ _ _ => ?_) fun g _ => absurd ⟨k0, k1, k2⟩ g
      rw [if_neg (by decide)]
      refine m_isBeats (d := d + 2) (fun _ _ _ => ?_) fun g _ => absurd ⟨y0, y1⟩ g
      rw [if_neg (by decide), ok364]
      refine m_putAside (d := d + 3) hR ?_
      rw [ok364, ← FM_fsk (pasM (CS M 262 A')), fsk_pas]
      have e396 : pasM (CS M 262 A') 396 = M 396 := by rw [pasM_ne (by decide), rhi _ (by decide)]
      have e364 : ∀ j, pasM (CS M 262 A') 364 j = M 364 j := fun j => by rw [pasM_ne (by decide), rhi _ (by decide)]
      have ef8 : fsk (CS M 262 A') 218 = M 364 49 := by
        show (if (218 : Int) = 218 then _ else _) = _
        rw [if_pos rfl, rhi _ (by decide)]
      refine f_reckoned (d := d) (L := (-1, M 364 48)) hR hMX hW (by rw [e396]; exact r2) (by rw [ef8]; exact if_s hf) (by omega) k0 (by omega) (by rw [e364]; exact if_l hf) (e364 48) (by show (-1 : Int) ≤ -1; decide) fun F' => ?_
      rw [ok364]
      refine m_bringBack (d := d + 3) hR ?_
      refine ⟨rfl, ?_, trial_inv (M1 := CS M 262 A') h (fun q j hk => by rw [rhi _ (by have := KP_out hk; omega)]) (fun q j q0 _ => by rw [pasM_ne q0]) (fun i i0 i1 => pasM_at i0 i1) ?_⟩
      · rw [e396, fly_Lm (L := (-1, M 364 48)) rfl, op_rows h]
        exact fly_cE hW opS_cE k (192 + x) (by omega) (by omega)
      · rw [e396, fly_Lm rfl]
        exact (fly_ok (L := L0) hW (opS_ok hW r2 (by rw [ef8]; exact if_s hf)) k).1 218 (by decide) (by decide)
  · rw [if_pos rfl]
    exact ⟨rfl, no M (fun _ _ _ => rfl) rfl k0⟩
theorem p_still (h : INV c R M b N) (hc5 : c ≤ 512) : PR (d + 4) 120 231 [] R M (Inv (c + 1)) := by
  obtain ⟨hn, hN, hC, hW, hM, hc, hR, b0, b1⟩ := in_net h
  have hf := in_f h
  obtain ⟨r1, r2, r3⟩ := in_row h
  refine Mw_of mok120 rfl fun _ _ => b_X11_still_0 ?_
  rw [ok0, ok0, ok0, rc0_6 hc, rc0_5 hc, hn, ok261]
  have em : CS M 262 (blk M 262) = M := CS_self _ _
  have := c_stillAt (d := d) (M := M) (A := blk M 262) (Q := fun x2 sh2 R2 M2 => sh2 = SHX ∧ Mw (d + 4) 231 [vr 364] SHX R2 M2 0 0 (fun w sh2 R2 M2 => sh2 = SHX ∧ x2 = w ∧ Inv (c + 1) R2 M2)) (rc261_0 hc) (SR262 hc) hN hC hW (by omega) fs260 (by omega) r1 (fun A' v hv => ?_)
  · rw [em] at this
    exact this
  · refine ⟨rfl, Mw_of mok231 rfl fun _ _ => b_X12_still_0 ?_⟩
    have rhi : ∀ q, (q < 262 ∨ 267 ≤ q) → CS M 262 A' q = M q := fun q hq => CS_ne (by omega)
    have hM1 : NM (CS M 262 A') b N := NM_of hM (by rw [rhi _ (by decide)]) (fun q q0 q1 => rhi q (by omega)) (rhi _ (by decide))
    have hMX : NM (pasM (CS M 262 A')) b N := NM_of hM1 (by rw [pasM_ne (by decide)]) (fun q q0 q1 => pasM_ne (by omega)) (pasM_ne (by decide))
    rw [ok364]
    refine m_putAside (d := d + 3) hR ?_
    have e396 : pasM (CS M 262 A') 396 = M 396 := by rw [pasM_ne (by decide), rhi _ (by decide)]
    have e364 : ∀ j, pasM (CS M 262 A') 364 j = M 364 j := fun j => by rw [pasM_ne (by decide), rhi _ (by decide)]
    have ef8 : fsk (CS M 262 A') 218 = M 364 49 := by
      show (if (218 : Int) = 218 then _ else _) = _
      rw [if_pos rfl, rhi _ (by decide)]
    rw [ok364, ← FM_fsk (pasM (CS M 262 A')), fsk_pas]
    refine f_clearFor (d := d + 2) hR hMX hW ?_
    rw [e396]
    obtain ⟨Y, hY⟩ : ∃ Y, Y = opS N (M 396) (fsk (CS M 262 A')) := ⟨_, rfl⟩
    have oY : OKS N Y 2997 := by rw [hY]; exact opS_ok hW r2 (by rw [ef8]; exact if_s hf)
    have dY : BD Y := by rw [hY]; exact opS_BD hW
    have y6 : Y 216 = 0 := by rw [hY]; exact opS_ne hW (by omega)
    have cY : cE (opS N (M 260) (zS 0)) Y := by rw [hY, op_rows h]; exact opS_cE
    rw [← hY]
    have fin : ∀ j F' u, StA N Y u → Cd (d + 4) 205 [vr 364] SHX R (FM (pasM (CS M 262 A')) (flyS N L0 Y j) F') 0 0 (fun _ sh1 R1 M1 => sh1 = SHX ∧ v = u ∧ Inv (c + 1) R1 M1) := fun j F' u hu => by
      refine m_bringBack (d := d + 3) hR ⟨rfl, StA_one hW cY hv hu, trial_inv (M1 := CS M 262 A') h (fun q j hk => by rw [rhi _ (by have := KP_out hk; omega)]) (fun q j q0 _ => by rw [pasM_ne q0]) (fun i i0 i1 => pasM_at i0 i1) ?_⟩
      exact (fly_ok (L := L0) hW oY j).1 218 (by decide) (by decide)
    have beat1 : ∀ {Q : RES} (j : Nat) (F' : SK), j ≤ 200 → (∀ F'', Q 0 SHX R (FM (pasM (CS M 262 A')) (flyS N L0 Y (j + 1)) F'')) → Mw (d + 3) 209 [vr 364] SHX R (FM (pasM (CS M 262 A')) (flyS N L0 Y j) F') 0 0 Q := fun {Q} j F' hj hq => by
      have e6 := fly_216 (S := Y) (L := L0) hW j
      refine f_beat (d := d + 1) (L := (-1, M 364 48)) hR hMX hW (fly_ok (L := L0) hW oY j) (by omega) (by omega) (fly_BD hW dY j) (by rw [e364]; exact if_l hf) (e364 48) (by show (-1 : Int) ≤ -1; decide) fun F'' => ?_
      rw [beat_Lm rfl]
      exact hq F''
    have loop : ∀ j : Nat, j ≤ 200 → (∀ i : Nat, i ≤ j → ¬ still N (flyS N L0 Y i)) → ∀ F', Go (d + 4) 231 (fun w sh2 R2 M2 => sh2 = SHX ∧ v = w ∧ Inv (c + 1) R2 M2) 8 [vr 364, vi (-1), vi ((j : Int) + 1)] [] SHX R (FM (pasM (CS M 262 A')) (flyS N L0 Y j) F') 0 0 := by
      refine uptoN ?_ ?_
      · intro hns F'
        refine b_X12_still_8 ?_
        rw [if_pos (by decide), ok364]
        exact fin 200 F' (-1) (Or.inr ⟨rfl, hns⟩)
      · intro j hj ih hns F'
        refine b_X12_still_8 ?_
        rw [if_neg (by omega), if_pos (by decide), if_pos (by omega), ok364]
        refine beat1 j F' (by omega) fun F'' => ?_
        rw [ok364]
        refine f_isStill (d := d + 1) hR hMX hW (fly_ok (L := L0) hW oY (j + 1)) (by omega) (fun st _ => ?_) (fun st _ => ?_)
        · rw [if_neg (by decide), iadd_of (by omega) (by omega)]
          refine b_X12_still_8 ?_
          have sa : StA N Y ((j : Int) + 1) := Or.inl ⟨j + 1, by omega, by omega, st, fun i hi => hns i (by omega)⟩
          by_cases h2 : 200 < (j : Int) + 1 + 1
          · rw [if_pos h2, ok364]
            exact fin (j + 1) F'' _ sa
          · rw [if_neg h2, if_neg (by omega), ok364]
            exact fin (j + 1) F'' _ sa
        · rw [if_pos rfl, iadd_of (by omega) (by omega)]
          exact ih (fun i hi => by
            by_cases hij : i = j + 1
            · rw [hij]; exact st
            · exact hns i (by omega)) F''
    refine b_X12_still_8 ?_
    rw [if_neg (by decide), if_pos (by decide), if_neg (by decide), ok364]
    refine f_isStill (d := d + 1) hR hMX hW oY (by decide) (fun st _ => ?_) (fun st _ => ?_)
    · rw [if_neg (by decide)]
      refine b_X12_still_8 ?_
      rw [show iadd 0 1 = 1 from rfl, if_neg (by decide), if_neg (by decide), ok364]
      exact fin 0 _ 0 (Or.inl ⟨0, rfl, by decide, st, fun i hi => absurd hi (Nat.not_lt_zero i)⟩)
    · rw [if_pos rfl, show iadd 0 1 = ((0 : Nat) : Int) + 1 from rfl]
      exact loop 0 (Nat.zero_le _) (fun i hi => by rw [show i = 0 by omega]; exact st) _
end
