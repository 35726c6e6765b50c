/-! LYING: ops that lay numbers -/
/-- what lies there -/
def LY (q j : Int) : Prop := (q = 338 ∧ j = 1) ∨ q = 339 ∨ (q = 364 ∧ j = 55) ∨ q = 398
theorem INV_lay {c c' : Nat} {R M M' : MEM} {b : Int} {N : NTW} (h : INV c R M b N) (hc : c ≤ c') (e : ∀ q j, KP q j → ¬ LY q j → M' q j = M q j) (h9 : 0 ≤ M' 364 49) (hy' : IY M') : INV c' R M' b N := by
  have er : ∀ q, (∀ j, KP q j ∧ ¬ LY q j) → M' q = M q := fun q hq => funext fun j => e q j (hq j).1 (hq j).2
  obtain ⟨hr, ha, ht, hf, hw, hs, hb, hp, hg, hy⟩ := h
  refine ⟨hr, IA_of ha (e _ _ (by unfold KP; omega) (by unfold LY; omega)) (fun q h0 h1 h2 => er q fun j => by unfold KP LY; omega) (fun q h0 h1 => er q fun j => by unfold KP LY; omega) (er _ fun j => by unfold KP LY; omega) (er _ fun j => by unfold KP LY; omega) (er _ fun j => by unfold KP LY; omega), IT_of ht (e _ _ (by unfold KP; omega) (by unfold LY; omega)) (e _ _ (by unfold KP; omega) (by unfold LY; omega)) (er _ fun j => by unfold KP LY; omega) (er _ fun j => by unfold KP LY; omega) (er _ fun j => by unfold KP LY; omega), IF_of hf (e _ _ (by unfold KP; omega) (by unfold LY; omega)) (e _ _ (by unfold KP; omega) (by unfold LY; omega)) (e _ _ (by unfold KP; omega) (by unfold LY; omega)) (e _ _ (by unfold KP; omega) (by unfold LY; omega)) (e _ _ (by unfold KP; omega) (by unfold LY; omega)) h9, IW_of hw (fun i _ _ => e _ _ (by unfold KP; omega) (by unfold LY; omega)) (fun i _ _ => e _ _ (by unfold KP; omega) (by unfold LY; omega)), IS_of hs hc (fun j _ _ => e _ _ (by unfold KP; omega) (by unfold LY; omega)) (fun q h0 h1 => er q fun j => by unfold KP LY; omega) (e _ _ (by unfold KP; omega) (by unfold LY; omega)) (e _ _ (by unfold KP; omega) (by unfold LY; omega)) (fun i _ _ => e _ _ (by unfold KP; omega) (by unfold LY; omega)) (er _ fun j => by unfold KP LY; omega), IB_of hb hc (er _ fun j => by unfold KP LY; omega) (fun q h0 h1 => er q fun j => by unfold KP LY; omega) (er _ fun j => by unfold KP LY; omega) (er _ fun j => by unfold KP LY; omega), IP_of hp (e _ _ (by unfold KP; omega) (by unfold LY; omega)) (e _ _ (by unfold KP; omega) (by unfold LY; omega)) (er _ fun j => by unfold KP LY; omega) (er _ fun j => by unfold KP LY; omega) (er _ fun j => by unfold KP LY; omega) (er _ fun j => by unfold KP LY; omega), IG_of hg (e _ _ (by unfold KP; omega) (by unfold LY; omega)) (e _ _ (by unfold KP; omega) (by unfold LY; omega)) (e _ _ (by unfold KP; omega) (by unfold LY; omega)) (e _ _ (by unfold KP; omega) (by unfold LY; omega)) (fun q h0 h1 => er q fun j => by unfold KP LY; omega) (fun q h0 h1 => er q fun j => by unfold KP LY; omega), hy'⟩
theorem lay_net {c : Nat} {R M M' : MEM} {b : Int} {N : NTW} (h : INV c R M b N) (e : ∀ q j, KP q j → ¬ LY q j → M' q j = M q j) (h9 : 0 ≤ M' 364 49) : NM M' b N ∧ IF M' ∧ CDE M' b (1 + 13 * b) N ∧ IW M' := by
  have er : ∀ q, (∀ j, KP q j ∧ ¬ LY q j) → M' q = M q := fun q hq => funext fun j => e q j (hq j).1 (hq j).2
  obtain ⟨hr, ha, ht, hf, hw, hs, hb, hp, hg, hy⟩ := h
  have ha' : IA M' b N := IA_of ha (e _ _ (by unfold KP; omega) (by unfold LY; omega)) (fun q h0 h1 h2 => er q fun j => by unfold KP LY; omega) (fun q h0 h1 => er q fun j => by unfold KP LY; omega) (er _ fun j => by unfold KP LY; omega) (er _ fun j => by unfold KP LY; omega) (er _ fun j => by unfold KP LY; omega)
  exact ⟨ia_m ha', IF_of hf (e _ _ (by unfold KP; omega) (by unfold LY; omega)) (e _ _ (by unfold KP; omega) (by unfold LY; omega)) (e _ _ (by unfold KP; omega) (by unfold LY; omega)) (e _ _ (by unfold KP; omega) (by unfold LY; omega)) (e _ _ (by unfold KP; omega) (by unfold LY; omega)) h9, ia_e ha', IW_of hw (fun i _ _ => e _ _ (by unfold KP; omega) (by unfold LY; omega)) (fun i _ _ => e _ _ (by unfold KP; omega) (by unfold LY; omega))⟩
theorem IY_zero {M' : MEM} (h1 : M' 338 1 = 0) (h2 : M' 364 55 = 0) : IY M' := ⟨⟨by rw [h1, h2], by rw [h2]; decide, by rw [h2]; decide⟩, fun i i0 i1 => by rw [h2] at i1; omega⟩
section
variable {d c : Nat} {R M : MEM} {b n x y z t m k v : Int} {N : NTW} {Q : RES}
theorem c_lput (hc : RC R) (hk : M 338 1 = k) (k0 : 0 ≤ k) (k1 : k < 8) (hq : Q 0 SHX R (stm (stm M 339 k v) 338 1 (k + 1))) : Mw d 21 [vr 338, vi v] SHX R M 0 0 Q := by
  refine Mw_of mok21 rfl fun _ _ => b_X3_put_0 ?_
  rw [ok338, hk, if_pos k1, ok338, ok338, rc338_0 hc, ak339, ok338, ok338, stm_neq (by omega), hk, iadd_of (by omega) (by omega)]
  exact ⟨k0, k1, hq⟩
theorem fsF_hit {i : Int} : ∀ (k : Nat) (v : Int), v ≤ i → i < v + (k : Int) → (∀ j, v ≤ j → j < i → ¬ bad N M b z m y j) → bad N M b z m y i → fsF N M b z m y k v = i
  | 0, v, h0, h1, _, _ => by omega
  | k + 1, v, h0, h1, h2, h3 => by
    unfold fsF
    by_cases hv : v = i
    · subst hv
      rw [if_neg h3]
    · have e : vlR M b z (lay N m v) = rk N (lay N m v) y (N 9 z) := Decidable.of_not_not (h2 v (Int.le_refl _) (by omega))
      rw [if_pos e]
      exact fsF_hit k (v + 1) (by omega) (by omega) (fun j j0 j1 => h2 j (by omega) j1) h3
theorem fsF_none : ∀ (k : Nat) (v : Int), (∀ j, v ≤ j → j < v + (k : Int) → ¬ bad N M b z m y j) → fsF N M b z m y k v = -1
  | 0, _, _ => rfl
  | k + 1, v, h => by
    unfold fsF
    have e : vlR M b z (lay N m v) = rk N (lay N m v) y (N 9 z) := Decidable.of_not_not (h v (Int.le_refl _) (by omega))
    rw [if_pos e]
    exact fsF_none k (v + 1) fun j j0 j1 => h j (by omega) (by omega)
theorem fsF_b : ∀ (k : Nat) (v : Int), fsF N M b z m y k v = -1 ∨ (v ≤ fsF N M b z m y k v ∧ fsF N M b z m y k v < v + (k : Int))
  | 0, _ => Or.inl rfl
  | k + 1, v => by
    unfold fsF
    split
    · have := fsF_b k (v + 1)
      omega
    · exact Or.inr ⟨Int.le_refl _, by omega⟩
theorem fsF_of {M' : MEM} (e3 : M' 382 = M 382) (e4 : M' 383 = M 383) (e5 : M' 387 = M 387) (e6 : M' 388 = M 388) : ∀ (k : Nat) (v : Int), fsF N M' b z m y k v = fsF N M b z m y k v
  | 0, _ => rfl
  | k + 1, v => by
    unfold fsF
    rw [vlR_of e3 e4 e5 e6, fsF_of e3 e4 e5 e6 k]
theorem cnF_of {M' : MEM} (e3 : M' 382 = M 382) (e4 : M' 383 = M 383) (e5 : M' 387 = M 387) (e6 : M' 388 = M 388) : ∀ (k : Nat) (v u : Int), cnF N M' b z m y k v u = cnF N M b z m y k v u
  | 0, _, _ => rfl
  | k + 1, v, u => by
    unfold cnF
    rw [vlR_of e3 e4 e5 e6, cnF_of e3 e4 e5 e6 k]
theorem p_wrong (h : INV c R M b N) : PR (d + 6) 122 240 [vi x, vi m, vi y] R M (Inv (c + 1)) := by
  obtain ⟨hn, hN, hC, hW, hM, hc, hR, b0, b1⟩ := in_net h
  have hE := ia_e (in_a h)
  have hf := in_f h
  have hS := wn_S hW
  refine Mw_of mok122 rfl fun _ _ => b_X11_wrong_0 ?_
  rw [ok0]
  refine c_isClaimTried (d := d + 3) hn hN hC hW (fun x0 x1 m0 m1 y0 y1 _ => ?_) fun g _ => ?_
  · rw [if_neg (by decide), ok0, ok0, rc0_7 hc, ok340, hn]
    refine c_ask (d := d + 3) hc hN hC hW (by omega) x0 x1 m0 m1 fun M1 f1 hA => ?_
    have ref : ∀ M2, (∀ q j, KP q j → M2 q j = M q j) → 0 ≤ M2 364 49 → Mw (d + 6) 240 [vr 364, vi x, vi m, vi y] SHX R M2 0 0 (fun w sh2 R2 M2 => sh2 = SHX ∧ (if 1000 < rwsN N m then -2 else cnF N M b x m y (rwsN N m).toNat 0 0) = w ∧ Inv (c + 1) R2 M2) := fun M2 f2 h9 => by
      have hk := INV_keep h (Nat.le_refl c) f2 h9
      obtain ⟨_, _, _, _, hM2, _, _, _, _⟩ := in_net hk
      refine Mw_of mok240 rfl fun _ _ => b_X12_wrong_0 ?_
      rw [ok364]
      refine m_canAsk (d := d + 3) hR hM2 hW (fun _ _ _ _ _ _ _ => ?_) fun g _ => absurd ⟨⟨x0, x1⟩, ⟨m0, m1⟩, y0, y1⟩ g
      rw [if_neg (by decide), ok364]
      refine m_rowsOf (d := d + 4) hR hM2 hW m0 m1 ?_
      by_cases hr : 1000 < rwsN N m
      · rw [if_pos hr, if_pos hr]
        exact ⟨rfl, rfl, b, N, INV_keep hk (Nat.le_succ c) (fun _ _ _ => rfl) h9⟩
      · rw [if_neg hr, if_neg hr, ok364]
        refine m_wrongRows (d := d) (r := cnF N M b x m y (rwsN N m).toNat 0 0) hR hM2 hW (in_f hk) (by omega) (ia_e (in_a hk)) x0 x1 m0 m1 (by omega) (by omega) (fun _ _ _ => rfl) h9 (Or.inl rfl) ?_ fun M3 f3 h93 => ⟨rfl, rfl, b, N, INV_keep hk (Nat.le_succ c) f3 h93⟩
        rw [if_pos rfl]
        exact (cnF_of (funext fun j => f2 _ j KP_382) (funext fun j => f2 _ j KP_383) (funext fun j => f2 _ j KP_387) (funext fun j => f2 _ j KP_388) _ _ _).symm
    by_cases hr : 1000 < rwsN N m
    · rw [if_pos hr]
      rw [if_pos hr] at ref
      exact ⟨rfl, ref M1 (fun q j hk => by have := KP_out hk; have := KP_out2 hk; rw [f1 q (by omega) (by omega)]) (by rw [f1 _ (by decide) (by decide)]; exact if_s hf)⟩
    · rw [if_neg hr, ok0, ok0, rc0_7 hc, ok340, hn]
      rw [if_neg hr] at ref
      have hC1 : NC M1 (1 + 13 * b) N := NC_of9 hC fun q q0 q1 => f1 q (by omega) (by omega)
      have hE1 : CDE M1 b (1 + 13 * b) N := CDE_of hE (f1 _ (by omega) (by omega)) (f1 _ (by omega) (by omega)) (f1 _ (by omega) (by omega)) (f1 _ (by omega) (by omega)) (f1 _ (by omega) (by omega)) (f1 _ (by omega) (by omega))
      refine c_wrongOnes (d := d) hc hN hC1 hW (by omega) hE1 x0 x1 m0 m1 (by omega) (by omega) hA fun M2 f2 => ?_
      rw [cnF_of (f1 _ (by omega) (by omega)) (f1 _ (by omega) (by omega)) (f1 _ (by omega) (by omega)) (f1 _ (by omega) (by omega))]
      exact ⟨rfl, ref M2 (fun q j hk => by have := KP_out hk; have := KP_out2 hk; have := KP_val hk; rw [f2 q (by omega) (by omega) (by omega), f1 q (by omega) (by omega)]) (by rw [f2 _ (by decide) (by omega) (by omega), f1 _ (by decide) (by decide)]; exact if_s hf)⟩
  · rw [if_pos rfl]
    refine ⟨rfl, Mw_of mok240 rfl fun _ _ => b_X12_wrong_0 ?_⟩
    rw [ok364]
    refine m_canAsk (d := d + 3) hR hM hW (fun k0 k1 u0 u1 w0 w1 _ => absurd ⟨⟨k0, k1⟩, ⟨u0, u1⟩, w0, w1⟩ g) fun _ _ => ?_
    rw [if_pos rfl]
    exact ⟨rfl, rfl, same h⟩
end
