/-! NET -/
/-- the net as the reference's memory tells it -/
def NMF (M : MEM) (b : Int) : NTW := fun i j => if i = 0 then (if j = 0 then M 367 b else if j = 1 then M 368 b else if j = 2 then M 369 b else if j = 3 then M 370 b else if j = 4 then M 371 b else M 372 b) else if i = 1 then M 373 (10 * b + j) else if i = 2 then M 374 (10 * b + j) else if i = 3 then M 379 (10 * b + j) else if i = 4 then M 380 (10 * b + j) else if i = 5 then M 375 (3 * b + j) else if i = 6 then M 376 (16 * b + j) else if i = 7 then M 377 (16 * b + j) else if i = 8 then M 394 j else M 381 (6 * b + j)
/-- told alike where it is told -/
def AGN (N N' : NTW) : Prop := (∀ j, 0 ≤ j → j ≤ 5 → N' 0 j = N 0 j) ∧ (∀ i t, 1 ≤ i → i ≤ 4 → 0 ≤ t → t < N 0 0 → N' i t = N i t) ∧ (∀ s, 0 ≤ s → s < N 0 1 → N' 5 s = N 5 s) ∧ (∀ i w, 6 ≤ i → i ≤ 8 → 0 ≤ w → w < N 0 2 → N' i w = N i w) ∧ ∀ c, 0 ≤ c → c < N 0 3 → N' 9 c = N 9 c
section
variable {d c : Nat} {R M X Y : MEM} {B : Int → Int} {z r v w x a b f n t K : Int} {k k' : Nat} {N N' G : NTW} {S : SK} {Q : RES}
theorem NM_F (h : M 364 36 = b) (b0 : 0 ≤ b) (b1 : b ≤ 1) : NM M b (NMF M b) := ⟨h, b0, b1, rfl, rfl, rfl, rfl, rfl, rfl, fun _ => rfl, fun _ => rfl, fun _ => rfl, fun _ => rfl, fun _ => rfl, fun _ => rfl, fun _ => rfl, fun _ => rfl, fun _ => rfl⟩
theorem WN_ag (h : WN N) (g : AGN N N') : WN N' := by
  obtain ⟨g0, gT, gS, gW, gC⟩ := g
  have wT := wn_T h
  have wS := wn_S h
  have wW := wn_W h
  have wC := wn_C h
  unfold WN
  rw [g0 0 (by decide) (by decide), g0 1 (by decide) (by decide), g0 2 (by decide) (by decide), g0 3 (by decide) (by decide), g0 5 (by decide) (by decide)]
  refine ⟨wT, wS, wW, wC, wn_D h, fun x x0 x1 => ?_, fun x x0 x1 => ?_, fun x x0 x1 => ?_, fun x x0 x1 => ?_, fun x x0 x1 => ?_, fun x x0 x1 => ?_, fun x x0 x1 => ?_, fun x x0 x1 => ?_, fun x r x0 x1 r1 => ?_, fun x x0 x1 hx => ?_, fun w w0 w1 => ?_, fun w w0 w1 => ?_, fun w w0 w1 => ?_, fun c c0 c1 => ?_⟩
  · rw [gT 1 x (by decide) (by decide) x0 x1]; exact wn_so h x x0 x1
  · rw [gT 1 x (by decide) (by decide) x0 x1, gT 2 x (by decide) (by decide) x0 x1]; exact wn_sz h x x0 x1
  · rw [gT 3 x (by decide) (by decide) x0 x1]; exact wn_fi h x x0 x1
  · rw [gT 4 x (by decide) (by decide) x0 x1]; exact wn_se h x x0 x1
  · rw [gT 3 x (by decide) (by decide) x0 x1]
    intro hp
    rw [gW 6 _ (by decide) (by decide) hp (wn_fi h x x0 x1).2]; exact wn_ff h x x0 x1 hp
  · rw [gT 4 x (by decide) (by decide) x0 x1]
    intro hp
    rw [gW 6 _ (by decide) (by decide) hp (wn_se h x x0 x1).2]; exact wn_sf h x x0 x1 hp
  · rw [gT 3 x (by decide) (by decide) x0 x1, gT 4 x (by decide) (by decide) x0 x1]; exact wn_ne h x x0 x1
  · have st := wn_st h x x0 x1
    rw [gS x x0 x1, gT 1 _ (by decide) (by decide) st.1 st.2.1]; exact st
  · rw [gS x x0 (by omega), gS r (by omega) r1]; exact wn_sm h x r x0 x1 r1
  · rw [gT 1 x (by decide) (by decide) x0 x1] at hx
    obtain ⟨u, u0, u1, u2⟩ := wn_sn h x x0 x1 hx
    exact ⟨u, u0, u1, by rw [gS u u0 u1]; exact u2⟩
  · rw [gW 6 w (by decide) (by decide) w0 w1]; exact wn_wf h w w0 w1
  · rw [gW 7 w (by decide) (by decide) w0 w1]; exact wn_wt h w w0 w1
  · rw [gW 8 w (by decide) (by decide) w0 w1]; exact wn_wb h w w0 w1
  · have cd := wn_cd h c c0 c1
    rw [gC c c0 c1, gT 1 _ (by decide) (by decide) cd.1 cd.2.1]; exact cd
theorem NC_ag (h : NC M n N) (g : AGN N N') : NC M n N' := by
  obtain ⟨g0, gT, gS, gW, gC⟩ := g
  obtain ⟨a1, a2, a3, a4, a5, a6, b1, b2, b3, b4, b5, b6, b7, b8, b9⟩ := h
  unfold NC
  rw [g0 0 (by decide) (by decide), g0 1 (by decide) (by decide), g0 2 (by decide) (by decide), g0 3 (by decide) (by decide), g0 4 (by decide) (by decide), g0 5 (by decide) (by decide)]
  refine ⟨a1, a2, a3, a4, a5, a6, fun t t0 t1 => ?_, fun t t0 t1 => ?_, fun t t0 t1 => ?_, fun t t0 t1 => ?_, fun t t0 t1 => ?_, fun t t0 t1 => ?_, fun t t0 t1 => ?_, fun t t0 t1 => ?_, fun t t0 t1 => ?_⟩
  · rw [gT 1 t (by decide) (by decide) t0 t1]; exact b1 t t0 t1
  · rw [gT 2 t (by decide) (by decide) t0 t1]; exact b2 t t0 t1
  · rw [gT 3 t (by decide) (by decide) t0 t1]; exact b3 t t0 t1
  · rw [gT 4 t (by decide) (by decide) t0 t1]; exact b4 t t0 t1
  · rw [gS t t0 t1]; exact b5 t t0 t1
  · rw [gW 6 t (by decide) (by decide) t0 t1]; exact b6 t t0 t1
  · rw [gW 7 t (by decide) (by decide) t0 t1]; exact b7 t t0 t1
  · rw [gW 8 t (by decide) (by decide) t0 t1]; exact b8 t t0 t1
  · rw [gC t t0 t1]; exact b9 t t0 t1
theorem GD_ag (h : GD N S c) (g : AGN N N') : GD N' S c := by
  obtain ⟨⟨o1, o2, o3, o4, o5⟩, hB⟩ := h
  refine ⟨⟨o1, o2, ?_, ?_, fun t t0 t1 t2 => ?_⟩, hB⟩
  · rw [g.1 2 (by decide) (by decide)]; exact o3
  · rw [g.1 0 (by decide) (by decide)]; exact o4
  · rw [g.1 0 (by decide) (by decide)] at t1
    rw [g.2.1 1 t (by decide) (by decide) t0 t1] at t2
    exact o5 t t0 t1 t2
theorem CDE_ag (h : CDE M b n N) (g : AGN N N') : CDE M b n N' := by
  unfold CDE at h ⊢
  rw [g.1 3 (by decide) (by decide), g.1 1 (by decide) (by decide)]
  exact h
theorem IS_ag (h : IS M N c) (g : AGN N N') : IS M N' c := ⟨h.1, h.2.1, h.2.2.1, h.2.2.2.1, fun k k0 k1 => ⟨(h.2.2.2.2 k k0 k1).1, GD_ag (h.2.2.2.2 k k0 k1).2 g⟩⟩
theorem IB_ag (h : IB M N c) (g : AGN N N') : IB M N' c := fun j j0 j1 => ⟨(h j j0 j1).1, (h j j0 j1).2.elim Or.inl fun q => Or.inr ⟨q.1, q.2.1, GD_ag q.2.2 g⟩⟩
theorem IG_ag (h : IG M N) (g : AGN N N') : IG M N' := by
  unfold IG at h ⊢
  rw [g.1 0 (by decide) (by decide)]
  exact h
/-- an empty sky -/
theorem GD_z (hW : WN N) (hv : 0 ≤ v ∧ v ≤ 999) (hS : ∀ i, 0 ≤ i → i < 218 → S i = if i = 217 then v else 0) (h8 : S 218 = 0) : GD N S c := by
  have e : ∀ i, 0 ≤ i → i < 217 → S i = 0 := fun i h0 h1 => by rw [hS i h0 (by omega), if_neg (by omega)]
  have e217 : S 217 = v := by rw [hS 217 (by decide) (by decide), if_pos rfl]
  refine ⟨⟨fun i h0 h1 => ?_, ?_, fun i h0 h1 => ?_, fun i h0 h1 => ?_, fun t t0 t1 _ => ?_⟩, ⟨?_, fun t t0 t1 => ?_⟩, ?_, ?_, ?_⟩
  · by_cases h2 : i = 218
    · rw [h2, h8]; exact Int.le_refl _
    · rw [hS i h0 (by omega)]; split <;> omega
  · unfold ms
    rw [sm_0 202 fun i i0 i1 => e i i0 (by omega), e 214 (by decide) (by decide), e 215 (by decide) (by decide), e 216 (by decide) (by decide)]
    omega
  · have := wn_W hW
    exact e i (by omega) (by omega)
  · have := wn_T hW
    exact e i (by omega) (by omega)
  · have := wn_T hW
    rw [e _ (by omega) (by omega)]; decide
  · rw [e 213 (by decide) (by decide), e 216 (by decide) (by decide)]; decide
  · rw [e _ (by omega) (by omega), e 216 (by decide) (by decide)]; exact Int.le_refl _
  · rw [e 216 (by decide) (by decide)]; decide
  · rw [e217]; exact hv.2
  · rw [e 212 (by decide) (by decide)]; omega
theorem CDE_fr (h : CDE M b n N) (hC : N 0 3 ≤ 6) (e1 : Y (n + 10) = M (n + 10)) (e2 : Y (n + 11) = M (n + 11)) (e3 : ∀ q t, q = 382 ∨ q = 383 → 0 ≤ t → t < 6 → Y q (6 * b + t) = M q (6 * b + t)) (e4 : ∀ q t, q = 387 ∨ q = 388 → 0 ≤ t → t < 600 → Y q (600 * b + t) = M q (600 * b + t)) : CDE Y b n N := fun c c0 c1 => by
  obtain ⟨s, e, H, a1, a2, a3, a4, a5, a6, a7, a8, a9, a10⟩ := h c c0 c1
  refine ⟨s, e, H, a1, a2, a3, by rw [e1]; exact a4, by rw [e1]; exact a5, by rw [e3 _ _ (by decide) c0 (by omega)]; exact a6, by rw [e3 _ _ (by decide) c0 (by omega)]; exact a7, a8, a9, fun i i0 i1 => ?_⟩
  rw [e2, e4 387 i (by decide) (by omega) (by omega), e4 388 i (by decide) (by omega) (by omega)]
  exact a10 i i0 i1
theorem ht_of {y : Int} {k m h h' : Int} (hc : codeOK y k m n) (hn : n ≤ 3) (hx : htX y h h') : htOK k h h' := by
  unfold htX at hx
  unfold htOK
  rcases hc with ⟨rfl, rfl, q⟩ | ⟨rfl, rfl, q⟩ | ⟨rfl, rfl⟩ | ⟨rfl, rfl⟩ | ⟨rfl, rfl⟩ | ⟨q, rfl⟩
  · rw [if_pos (by omega)] at hx; rw [if_pos (by decide)]; exact hx
  · rw [if_pos (by omega)] at hx; rw [if_pos (by decide)]; exact hx
  · rw [if_neg (by decide), if_pos rfl] at hx; rw [if_neg (by decide), if_pos rfl]; exact hx
  · rw [if_neg (by decide), if_neg (by decide)] at hx; rw [if_neg (by decide), if_neg (by decide)]; exact hx
  · rw [if_neg (by decide), if_neg (by decide)] at hx; rw [if_neg (by decide), if_neg (by decide)]; exact hx
  · rw [if_neg (by omega), if_neg (by omega)] at hx; rw [if_neg (by omega), if_neg (by omega)]; exact hx
theorem CDE_mk (hC : CDG G) (hS : G 0 1 ≤ 3) (h7 : G 0 7 ≤ 600) (e1 : ∀ c, 0 ≤ c → c < G 0 3 → M (n + 10) c = G 13 c) (e2 : ∀ i, 0 ≤ i → i < G 0 7 → M (n + 11) i = G 12 i) (e3 : ∀ c, 0 ≤ c → c < G 0 3 → M 382 (6 * b + c) = 600 * b + (if c = 0 then 0 else G 13 (c - 1)) ∧ M 383 (6 * b + c) = 600 * b + G 13 c) (e4 : ∀ i, 0 ≤ i → i < G 0 7 → codeOK (G 12 i) (M 387 (600 * b + i)) (M 388 (600 * b + i)) (G 0 1)) : CDE M b n G := fun c c0 c1 => by
  obtain ⟨s, e, ⟨a1, a2, a3⟩, a4, a5, ⟨H, b1, b2, _, b3⟩, _⟩ := hC.1 c c0 c1
  have q := e3 c c0 c1
  refine ⟨s, e, H, a1, a2, by omega, ?_, by rw [e1 c c0 c1]; exact a5, by rw [q.1, ← a4], by rw [q.2, a5], b1, b2, fun i i0 i1 => ?_⟩
  · rw [a4]
    by_cases h0 : c = 0
    · rw [if_pos h0, if_pos h0]
    · rw [if_neg h0, if_neg h0, e1 _ (by omega) (by omega)]
  · have hk := e4 i (by omega) (by omega)
    have hb := b3 i i0 i1
    rw [e2 i (by omega) (by omega)]
    exact ⟨hk, hb.2.1, hb.2.2, ht_of hk hS hb.1⟩
theorem p_net (h : INV c R M b N) : PR (d + 103) 107 168 [] R M (Inv (c + 1)) := by
  obtain ⟨hn, hN, hC, hW, hM, hc, hR, b0, b1⟩ := in_net h
  obtain ⟨hS, h37, hA, hG, g0, g1⟩ := in_now h
  have h' := h
  obtain ⟨hr, ha, ht, hf, hw, hs, hb, hp, hg, hy⟩ := h'
  have t0 := it_0 ht
  have wC := wn_C hW
  have wT := wn_T hW
  have wS := wn_S hW
  have wW := wn_W hW
  obtain ⟨_, _, r12, r13, _, _⟩ := hr
  have hT : TXC M (M 28) (M 364 2) := ⟨it_n ht, t0, rfl, it_k ht, fun i i0 i1 => ⟨(it_b ht i i0 i1).1, (it_b ht i i0 i1).2.1⟩⟩
  obtain ⟨n, en⟩ : ∃ n, n = 14 - 13 * b := ⟨_, rfl⟩
  refine c_net (d := d) (B := M 28) (z := M 364 2) (b := b) (n := n) hc r12 r13 (by omega) en hT g0 g1 (fun e X' hp0 e0 e1 fX => ?_) fun k G X' A' hp0 hCN fX hA' => ?_
  · obtain ⟨M1, hM1⟩ : ∃ M1, M1 = stm X' 27 1 0 := ⟨_, rfl⟩
    rw [← hM1]
    refine ⟨rfl, ?_⟩
    have F1 : ∀ q, q ≠ 27 → ¬ (30 ≤ q ∧ q ≤ 35) → ¬ (n ≤ q ∧ q ≤ n + 11) → M1 q = M q := fun q q1 q2 q3 => by
      rw [hM1, stm_ne q1]
      exact fX.1 q q1 q2 q3
    have F3 : ∀ q, 36 ≤ q → M1 q = M q := fun q hq => F1 q (by omega) (by omega) (by omega)
    have hR' : RM (stm R 33 5 n) := fun k hk => (stm_neq (by omega)).trans (hR k hk)
    refine r_net (d := d + 93) (b := b) (z := M 364 2) (B := M 28) hR' (by rw [F3 364 (by decide)]; exact nm_b hM) (by omega) (by rw [F3 364 (by decide)]) t0 (fun i i0 i1 => by
      rw [F3 365 (by decide)]
      have q := it_b ht i i0 i1
      exact ⟨q.2.2, q.1, q.2.1⟩) (fun e' Y' hp1 e4 e5 e2 fY => ?_) fun k G Y' hp1 => by rw [hp0] at hp1; exact nomatch hp1
    rw [hp0] at hp1
    cases hp1
    refine ⟨rfl, rfl, b, NMF Y' b, ?_⟩
    have C : ∀ q j, ¬ BKN (1 - b) q j → q ≠ 27 → ¬ (30 ≤ q ∧ q ≤ 35) → ¬ (n ≤ q ∧ q ≤ n + 11) → Y' q j = M q j := fun q j h1 h2 h3 h4 => by rw [fY q j h1, F1 q h2 h3 h4]
    have D : ∀ q j, ¬ BKN (1 - b) q j → 36 ≤ q → Y' q j = M q j := fun q j h1 h2 => C q j h1 (by omega) (by omega) (by omega)
    have C' : ∀ q, (q < 364 ∨ q = 365 ∨ 391 ≤ q) → q ≠ 27 → ¬ (30 ≤ q ∧ q ≤ 35) → ¬ (n ≤ q ∧ q ≤ n + 11) → Y' q = M q := fun q h1 h2 h3 h4 => funext fun j => C q j (fun g => by unfold BKN BKW at g; omega) h2 h3 h4
    have ag : AGN N (NMF Y' b) := by
      refine ⟨fun j j0 j1 => ?_, fun i t i0 i1 u0 u1 => ?_, fun s s0 s1 => ?_, fun i w i0 i1 w0 w1 => ?_, fun c c0 c1 => ?_⟩
      · have hj : j = 0 ∨ j = 1 ∨ j = 2 ∨ j = 3 ∨ j = 4 ∨ j = 5 := by omega
        rcases hj with rfl | rfl | rfl | rfl | rfl | rfl
        · exact (D 367 b (fun g => by unfold BKN BKW at g; omega) (by decide)).trans (nm_T hM)
        · exact (D 368 b (fun g => by unfold BKN BKW at g; omega) (by decide)).trans (nm_S hM)
        · exact (D 369 b (fun g => by unfold BKN BKW at g; omega) (by decide)).trans (nm_W hM)
        · exact (D 370 b (fun g => by unfold BKN BKW at g; omega) (by decide)).trans (nm_C hM)
        · exact (D 371 b (fun g => by unfold BKN BKW at g; omega) (by decide)).trans (nm_U hM)
        · exact (D 372 b (fun g => by unfold BKN BKW at g; omega) (by decide)).trans (nm_D hM)
      · have hi : i = 1 ∨ i = 2 ∨ i = 3 ∨ i = 4 := by omega
        rcases hi with rfl | rfl | rfl | rfl
        · exact (D 373 (10 * b + t) (fun g => by unfold BKN BKW at g; omega) (by decide)).trans (nm1 hM t)
        · exact (D 374 (10 * b + t) (fun g => by unfold BKN BKW at g; omega) (by decide)).trans (nm2 hM t)
        · exact (D 379 (10 * b + t) (fun g => by unfold BKN BKW at g; omega) (by decide)).trans (nm3 hM t)
        · exact (D 380 (10 * b + t) (fun g => by unfold BKN BKW at g; omega) (by decide)).trans (nm4 hM t)
      · exact (D 375 (3 * b + s) (fun g => by unfold BKN BKW at g; omega) (by decide)).trans (nm5 hM s)
      · have hi : i = 6 ∨ i = 7 ∨ i = 8 := by omega
        rcases hi with rfl | rfl | rfl
        · exact (D 376 (16 * b + w) (fun g => by unfold BKN BKW at g; omega) (by decide)).trans (nm6 hM w)
        · exact (D 377 (16 * b + w) (fun g => by unfold BKN BKW at g; omega) (by decide)).trans (nm7 hM w)
        · exact (D 394 w (fun g => by unfold BKN BKW at g; omega) (by decide)).trans (nm8 hM w)
      · exact (D 381 (6 * b + c) (fun g => by unfold BKN BKW at g; omega) (by decide)).trans (nm9 hM c)
    have E : ∀ j, (j = 36 ∨ j = 47 ∨ j = 49 ∨ j = 51 ∨ j = 52 ∨ j = 55 ∨ j = 61 ∨ j = 70 ∨ j = 71) → Y' 364 j = M 364 j := fun j hj => D 364 j (fun g => by unfold BKN BKW at g; omega) (by decide)
    have L : ∀ q, 36 ≤ q → (q < 364 ∨ q = 365 ∨ 391 ≤ q) → Y' q = M q := fun q h1 h2 => C' q h2 (by omega) (by omega) (by omega)
    refine ⟨⟨RC_of hc fun q j h _ => stm_neq h, hR', by rw [stm_neq (by omega)]; exact r12, by rw [stm_neq (by omega)]; exact r13, b0, b1⟩, ⟨NM_F ((E 36 (by decide)).trans (nm_b hM)) b0 b1, WN_ag hW ag, NC_ag (NC_of hC fun q q0 q1 => C' q (by omega) (by omega) (by omega) (by omega)) ag, fun w w0 w1 => ?_, CDE_ag (CDE_fr (ia_e ha) wC.2 (C' _ (by omega) (by omega) (by omega) (by omega)) (C' _ (by omega) (by omega) (by omega) (by omega)) (fun q t hq u0 u1 => D _ _ (fun g => by unfold BKN BKW at g; omega) (by omega)) fun q t hq u0 u1 => D _ _ (fun g => by unfold BKN BKW at g; omega) (by omega)) ag⟩, ⟨by rw [e2]; decide, ?_, fun i i0 i1 => by rw [e2] at i1; omega, fun i hi => ?_⟩, ⟨?_, ?_, (E 47 (by decide)).trans (if_l hf), by rw [E 49 (by decide)]; exact if_s hf⟩, IW_of hw (fun i _ _ => by rw [L 260 (by decide) (by decide)]) (fun i _ _ => by rw [L 396 (by decide) (by decide)]), IS_ag (IS_of hs (Nat.le_succ c) (fun j _ _ => by rw [L 36 (by decide) (by decide)]) (fun q _ _ => L q (by omega) (by omega)) (E 51 (by decide)) (E 52 (by decide)) (fun i _ _ => by rw [L 392 (by decide) (by decide)]) (L 397 (by decide) (by decide))) ag, IB_ag (IB_of hb (Nat.le_succ c) (L 259 (by decide) (by decide)) (fun q _ _ => L q (by omega) (by omega)) (L 413 (by decide) (by decide)) (L 414 (by decide) (by decide))) ag, IP_of hp (by rw [L 342 (by decide) (by decide)]) (E 61 (by decide)) (L 345 (by decide) (by decide)) (L 343 (by decide) (by decide)) (L 403 (by decide) (by decide)) (L 404 (by decide) (by decide)), IG_ag (IG_of hg (by rw [L 355 (by decide) (by decide)]) (E 70 (by decide)) (E 71 (by decide)) (by rw [C' 0 (by decide) (by decide) (by decide) (by omega)]) (fun q _ _ => L q (by omega) (by omega)) fun q _ _ => L q (by omega) (by omega)) ag, IY_of hy (by rw [L 338 (by decide) (by decide)]) (E 55 (by decide)) (L 339 (by decide) (by decide)) fun i _ => by rw [L 398 (by decide) (by decide)]⟩
    · rw [D 378 _ (fun g => by unfold BKN BKW at g; omega) (by decide), ia_b ha w w0 w1, ← nm8 hM w]
      exact (D 394 w (fun g => by unfold BKN BKW at g; omega) (by decide)).symm
    · rw [e2, fY 27 1 (fun g => by unfold BKN BKW at g; omega), hM1, stm_hit]
    · rw [fY 29 _ (fun g => by unfold BKN BKW at g; omega), F1 29 (by decide) (by decide) (by omega)]
      exact it_k ht i hi
    · rw [e4, fY 33 0 (fun g => by unfold BKN BKW at g; omega), hM1, stm_neq (by omega)]; exact e0
    · rw [e5, fY 33 1 (fun g => by unfold BKN BKW at g; omega), hM1, stm_neq (by omega)]; exact e1
  · obtain ⟨a, ea⟩ : ∃ a, a = 38 + 5 * M 36 1 := ⟨_, rfl⟩
    rw [← ea]
    obtain ⟨M1, hM1⟩ : ∃ M1, M1 = stm (stm (stm (fil (fil (stm (stm (CS (stm X' 27 1 0) a A') 36 2 0) 36 3 0) 259 0 3 0) 260 0 3 0) 342 0 0) 355 0 0) 338 1 0 := ⟨_, rfl⟩
    rw [← hM1]
    refine ⟨rfl, ?_⟩
    have K1 : ∀ q, q ≠ 27 → q ≠ 36 → (q < a ∨ a + 5 ≤ q) → q ≠ 259 → q ≠ 260 → q ≠ 342 → q ≠ 355 → q ≠ 338 → M1 q = X' q := fun q q1 q2 q3 q4 q5 q6 q7 q8 => by
      funext j
      rw [hM1]
      simp (disch := omega) only [stm_neq, fil_ne, CS_ne]
    have F1 : ∀ q, q ≠ 27 → ¬ (30 ≤ q ∧ q ≤ 36) → ¬ (n ≤ q ∧ q ≤ n + 11) → (q < a ∨ a + 5 ≤ q) → q ≠ 259 → q ≠ 260 → q ≠ 342 → q ≠ 355 → q ≠ 338 → M1 q = M q := fun q q1 q2 q3 q4 q5 q6 q7 q8 q9 => by
      rw [K1 q q1 (by omega) q4 q5 q6 q7 q8 q9]
      exact fX.1 q q1 (by omega) q3
    have hR' : RM (rNT R n (1 + 13 * b)) := fun k hk => by
      unfold rNT
      rw [stm_neq (by omega), stm_neq (by omega), stm_neq (by omega)]
      exact hR k hk
    have F3 : ∀ q, 364 ≤ q → M1 q = M q := fun q hq => F1 q (by omega) (by omega) (by omega) (by omega) (by omega) (by omega) (by omega) (by omega) (by omega)
    refine r_net (d := d + 93) (b := b) (z := M 364 2) (B := M 28) hR' (by rw [F3 364 (by decide)]; exact nm_b hM) (by omega) (by rw [F3 364 (by decide)]) t0 (fun i i0 i1 => by
      rw [F3 365 (by decide)]
      have q := it_b ht i i0 i1
      exact ⟨q.2.2, q.1, q.2.1⟩) (fun e' Y' hp1 => by rw [hp0] at hp1; exact nomatch hp1) fun k' G' Y' hp1 hWL hPK hMG e4 e5 e2 fY => ?_
    rw [hp0] at hp1
    cases hp1
    obtain ⟨r, er⟩ : ∃ r, r = 1 - b := ⟨_, rfl⟩
    have er' : n = 1 + 13 * r := by omega
    rw [← er] at hMG fY ⊢
    obtain ⟨Z, hZ⟩ : ∃ Z, Z = anewM (stm Y' 364 36 r) r := ⟨_, rfl⟩
    rw [← hZ]
    refine ⟨rfl, rfl, r, NMF Z r, ?_⟩
    have r01 : r = 0 ∨ r = 1 := by omega
    have Zq : ∀ q, q ≠ 364 → q ≠ 392 → q ≠ 394 → q ≠ 396 → q ≠ 414 → Z q = Y' q := fun q q1 q2 q3 q4 q5 => by
      funext j
      rw [hZ]
      unfold anewM
      simp (disch := omega) only [stm_neq, fil_ne, cpy_ne]
    have Zj : ∀ j, j ≠ 36 → j ≠ 47 → j ≠ 51 → j ≠ 52 → j ≠ 55 → j ≠ 61 → j ≠ 70 → Z 364 j = Y' 364 j := fun j j1 j2 j3 j4 j5 j6 j7 => by
      rw [hZ]
      unfold anewM
      simp (disch := omega) only [stm_neq, fil_ne, cpy_ne]
    have Z0 : Z 364 36 = r ∧ Z 364 47 = -1 ∧ Z 364 51 = 0 ∧ Z 364 52 = 0 ∧ Z 364 55 = 0 ∧ Z 364 61 = 0 ∧ Z 364 70 = 0 := by
      rw [hZ]
      unfold anewM
      simp (disch := omega) only [stm_neq, stm_hit, fil_ne, cpy_ne, and_self]
    have Z94 : ∀ w, 0 ≤ w → w < 16 → Z 394 w = Y' 378 (16 * r + w) := fun w w0 w1 => by
      rw [hZ]
      unfold anewM
      simp (disch := omega) only [stm_neq, stm_ne, fil_ne]
      unfold cpy
      rw [if_pos ⟨rfl, w0, w1⟩]
      simp (disch := omega) only [stm_neq, fil_ne]
    have Z96 : ∀ i, 0 ≤ i → i < 3 → Z 396 i = 0 := fun i i0 i1 => by
      rw [hZ]
      unfold anewM
      rw [fil_ne (by decide)]
      simp (disch := omega) only [stm_neq]
      exact if_pos ⟨rfl, i0, i1⟩
    have Z14 : ∀ i, 0 ≤ i → i < 3 → Z 414 i = 0 := fun i i0 i1 => by
      rw [hZ]
      unfold anewM
      exact if_pos ⟨rfl, i0, i1⟩
    have c5 := hMG.1.2.2.2.2.2.2.1
    have Z92 : ∀ i, 0 ≤ i → i < 218 → Z 392 i = if i = 217 then G 0 5 else 0 := fun i i0 i1 => by
      rw [hZ]
      unfold anewM
      simp (disch := omega) only [stm_neq, fil_ne, cpy_ne]
      by_cases h7 : i = 217
      · rw [if_pos h7, h7, stm_hit]
        exact c5
      · rw [if_neg h7, stm_neq (by omega)]
        exact if_pos ⟨rfl, i0, i1⟩
    -- the class's side is kept
    have Y1 : ∀ q, (q < 364 ∨ q = 365) → Y' q = M1 q := fun q hq => funext fun j => fY q j fun g => by unfold BKN BKW at g; omega
    have ZY : ∀ q, (q < 364 ∨ q = 365) → Z q = M1 q := fun q hq => by rw [Zq q (by omega) (by omega) (by omega) (by omega) (by omega), Y1 q hq]
    have ZX : ∀ q, n ≤ q → q ≤ n + 11 → Z q = X' q := fun q h1 h2 => by rw [ZY q (by omega), K1 q (by omega) (by omega) (by omega) (by omega) (by omega) (by omega) (by omega) (by omega)]
    have hWG := hWL.1
    have gT := wn_T hWG
    have gS := wn_S hWG
    have gW := wn_W hWG
    have gC := wn_C hWG
    obtain ⟨⟨m37, m0, m1, m2, m3, m4, m5, m6, m8⟩, bT, bS, bW, bC, bK⟩ := hMG
    have ag : AGN G (NMF Z r) := by
      refine ⟨fun j j0 j1 => ?_, fun i t i0 i1 u0 u1 => ?_, fun s s0 s1 => ?_, fun i w i0 i1 w0 w1 => ?_, fun c c0 c1 => ?_⟩
      · have hj : j = 0 ∨ j = 1 ∨ j = 2 ∨ j = 3 ∨ j = 4 ∨ j = 5 := by omega
        rcases hj with rfl | rfl | rfl | rfl | rfl | rfl
        · show Z 367 r = _; rw [Zq 367 (by decide) (by decide) (by decide) (by decide) (by decide)]; exact m0
        · show Z 368 r = _; rw [Zq 368 (by decide) (by decide) (by decide) (by decide) (by decide)]; exact m1
        · show Z 369 r = _; rw [Zq 369 (by decide) (by decide) (by decide) (by decide) (by decide)]; exact m2
        · show Z 370 r = _; rw [Zq 370 (by decide) (by decide) (by decide) (by decide) (by decide)]; exact m3
        · show Z 371 r = _; rw [Zq 371 (by decide) (by decide) (by decide) (by decide) (by decide)]; exact m4
        · show Z 372 r = _; rw [Zq 372 (by decide) (by decide) (by decide) (by decide) (by decide)]; exact m5
      · have q := bT t u0 u1
        have hi : i = 1 ∨ i = 2 ∨ i = 3 ∨ i = 4 := by omega
        rcases hi with rfl | rfl | rfl | rfl
        · show Z 373 _ = _; rw [Zq 373 (by decide) (by decide) (by decide) (by decide) (by decide)]; exact q.1
        · show Z 374 _ = _; rw [Zq 374 (by decide) (by decide) (by decide) (by decide) (by decide)]; exact q.2.1
        · show Z 379 _ = _; rw [Zq 379 (by decide) (by decide) (by decide) (by decide) (by decide)]; exact q.2.2.1
        · show Z 380 _ = _; rw [Zq 380 (by decide) (by decide) (by decide) (by decide) (by decide)]; exact q.2.2.2.1
      · show Z 375 _ = _; rw [Zq 375 (by decide) (by decide) (by decide) (by decide) (by decide)]; exact bS s s0 s1
      · have q := bW w w0 w1
        have hi : i = 6 ∨ i = 7 ∨ i = 8 := by omega
        rcases hi with rfl | rfl | rfl
        · show Z 376 _ = _; rw [Zq 376 (by decide) (by decide) (by decide) (by decide) (by decide)]; exact q.1
        · show Z 377 _ = _; rw [Zq 377 (by decide) (by decide) (by decide) (by decide) (by decide)]; exact q.2.1
        · show Z 394 w = _; rw [Z94 w w0 (by omega)]; exact q.2.2
      · show Z 381 _ = _; rw [Zq 381 (by decide) (by decide) (by decide) (by decide) (by decide)]; exact (bC c c0 c1).1
    have hP7 : G 0 7 ≤ 600 := by
      have t1 := (tok_rng (B := M 28) t0.1 k).2.1
      have u1 := hWL.2.1
      unfold POK at hPK
      omega
    obtain ⟨⟨x0, x1, x2, x3, x4, x5, ⟨x6, x7, x8⟩, x9⟩, yT, yS, yW, yC, yK⟩ := hCN
    have hNC : NC Z (1 + 13 * r) G := by
      rw [← er']
      refine ⟨?_, ?_, ?_, ?_, ?_, ?_, fun t t0 t1 => ?_, fun t t0 t1 => ?_, fun t t0 t1 => ?_, fun t t0 t1 => ?_, fun t t0 t1 => ?_, fun t t0 t1 => ?_, fun t t0 t1 => ?_, fun t t0 t1 => ?_, fun t t0 t1 => ?_⟩
      · rw [ZX n (by omega) (by omega)]; exact x0
      · rw [ZX n (by omega) (by omega)]; exact x1
      · rw [ZX n (by omega) (by omega)]; exact x2
      · rw [ZX n (by omega) (by omega)]; exact x3
      · rw [ZX n (by omega) (by omega)]; exact x4
      · rw [ZX n (by omega) (by omega)]; exact x5
      · rw [ZX _ (by omega) (by omega)]; exact (yT t t0 t1).1
      · rw [ZX _ (by omega) (by omega)]; exact (yT t t0 t1).2.1
      · rw [ZX _ (by omega) (by omega)]; exact (yT t t0 t1).2.2.1
      · rw [ZX _ (by omega) (by omega)]; exact (yT t t0 t1).2.2.2.1
      · rw [ZX _ (by omega) (by omega)]; exact yS t t0 t1
      · rw [ZX _ (by omega) (by omega)]; exact (yW t t0 t1).1
      · rw [ZX _ (by omega) (by omega)]; exact (yW t t0 t1).2.1
      · rw [ZX _ (by omega) (by omega)]; exact (yW t t0 t1).2.2
      · rw [ZX _ (by omega) (by omega)]; exact (yC t t0 t1).1
    have hCD : CDE Z r (1 + 13 * r) G := by
      rw [← er']
      refine CDE_mk hWL.2.2.2.2.2 gS.2 hP7 (fun c c0 c1 => ?_) (fun i i0 i1 => ?_) (fun c c0 c1 => ?_) fun i i0 i1 => ?_
      · rw [ZX _ (by omega) (by omega)]; exact (yC c c0 c1).2.1
      · rw [ZX _ (by omega) (by omega)]; exact yK i i0 i1
      · rw [Zq 382 (by decide) (by decide) (by decide) (by decide) (by decide), Zq 383 (by decide) (by decide) (by decide) (by decide) (by decide)]
        exact ⟨(bC c c0 c1).2.1, (bC c c0 c1).2.2.1⟩
      · rw [Zq 387 (by decide) (by decide) (by decide) (by decide) (by decide), Zq 388 (by decide) (by decide) (by decide) (by decide) (by decide)]
        exact bK i i0 i1
    have q36 : Z 36 1 = M 36 1 := by
      rw [ZY 36 (by decide), hM1]
      simp (disch := omega) only [stm_neq, fil_ne, CS_ne]
      rw [fX.1 36 (by decide) (by omega) (by omega)]
    have p36 : Z 36 2 = 0 ∧ Z 36 3 = 0 := by
      rw [ZY 36 (by decide), hM1]
      simp (disch := omega) only [stm_neq, stm_hit, fil_ne, and_self]
    have v5 := wn_D hWG
    refine ⟨⟨RC_NT hc, hR', ?_, ?_, by omega, by omega⟩, ⟨NM_F Z0.1 (by omega) (by omega), WN_ag hWG ag, NC_ag hNC ag, fun w w0 w1 => ?_, CDE_ag hCD ag⟩, ⟨?_, ?_, fun i i0 i1 => ?_, fun i hi => ?_⟩, ⟨?_, ?_, Z0.2.1, ?_⟩, fun i i0 i1 => ?_, ⟨by omega, ⟨?_, by omega⟩, ⟨?_, by omega⟩, by omega, fun k q0 q1 => ?_⟩, fun j j0 j1 => ?_, ⟨⟨?_, by omega⟩, fun i i0 i1 => ?_⟩, ⟨⟨?_, by omega⟩, ⟨?_, ?_⟩, fun i i0 i1 => ?_⟩, ⟨⟨?_, by omega⟩, fun i i0 i1 => ?_⟩⟩
    · unfold rNT
      simp (disch := omega) only [stm_neq, stm_hit]
      exact er'
    · unfold rNT
      simp (disch := omega) only [stm_neq, stm_hit]
      omega
    · rw [Zq 378 (by decide) (by decide) (by decide) (by decide) (by decide)]
      exact (Z94 w w0 w1).symm
    · rw [Zj 2 (by decide) (by decide) (by decide) (by decide) (by decide) (by decide) (by decide), e2]; decide
    · rw [Zj 2 (by decide) (by decide) (by decide) (by decide) (by decide) (by decide) (by decide), e2, ZY 27 (by decide), hM1]
      simp (disch := omega) only [stm_neq, stm_hit, fil_ne, CS_ne]
    · rw [Zj 2 (by decide) (by decide) (by decide) (by decide) (by decide) (by decide) (by decide), e2] at i1
      omega
    · rw [ZY 29 (by decide), F1 29 (by decide) (by decide) (by omega) (by omega) (by decide) (by decide) (by decide) (by decide) (by decide)]
      exact it_k ht i hi
    · rw [Zj 4 (by decide) (by decide) (by decide) (by decide) (by decide) (by decide) (by decide), e4, ZY 33 (by decide), K1 33 (by decide) (by decide) (by omega) (by decide) (by decide) (by decide) (by decide) (by decide)]
      exact x7
    · rw [Zj 5 (by decide) (by decide) (by decide) (by decide) (by decide) (by decide) (by decide), e5, ZY 33 (by decide), K1 33 (by decide) (by decide) (by omega) (by decide) (by decide) (by decide) (by decide) (by decide)]
      exact x8
    · rw [Zj 49 (by decide) (by decide) (by decide) (by decide) (by decide) (by decide) (by decide), fY 364 49 (fun g => by unfold BKN BKW at g; omega), F3 364 (by decide)]
      exact if_s hf
    · rw [Z96 i i0 i1, ZY 260 (by decide), hM1]
      simp (disch := omega) only [stm_neq]
      refine ⟨if_pos ⟨rfl, i0, i1⟩, by decide, by decide⟩
    · rw [p36.1, Z0.2.2.1]
    · rw [p36.2, Z0.2.2.2.1]
    · have hk : k = 0 := by omega
      rw [hk, stt_0, q36, show (M 36 1 + 0) % 41 = M 36 1 by omega, ← ea]
      refine ⟨SKY_agree hA' (fun q i r0 r1 => ?_) fun i i0 i1 => ?_, GD_z (WN_ag hWG ag) v5 (fun i i0 i1 => ?_) (if_neg (by omega))⟩
      · show Z (a + q) i = _
        rw [ZY _ (by omega), hM1]
        simp (disch := omega) only [stm_neq, fil_ne]
        rw [CS_k r0 r1]
      · rw [cut_at i0 i1, Z92 i i0 i1]
        rfl
      · rw [cut_at i0 i1, Z92 i i0 i1]
    · refine ⟨?_, Or.inl (Z14 j j0 j1)⟩
      rw [Z14 j j0 j1, ZY 259 (by decide), hM1]
      simp (disch := omega) only [stm_neq, fil_ne]
      exact if_pos ⟨rfl, j0, j1⟩
    · rw [Z0.2.2.2.2.2.1, ZY 342 (by decide), hM1]
      simp (disch := omega) only [stm_neq, stm_hit]
    · omega
    · rw [Z0.2.2.2.2.2.2, ZY 355 (by decide), hM1]
      simp (disch := omega) only [stm_neq, stm_hit]
    · rw [Zj 71 (by decide) (by decide) (by decide) (by decide) (by decide) (by decide) (by decide), fY 364 71 (fun g => by unfold BKN BKW at g; omega), F3 364 (by decide), ZY 0 (by decide), F1 0 (by decide) (by decide) (by omega) (by omega) (by decide) (by decide) (by decide) (by decide) (by decide)]
      exact (ig_t hg).1
    · rw [Zj 71 (by decide) (by decide) (by decide) (by decide) (by decide) (by decide) (by decide), fY 364 71 (fun g => by unfold BKN BKW at g; omega), F3 364 (by decide)]
      exact (ig_t hg).2
    · omega
    · rw [Z0.2.2.2.2.1, ZY 338 (by decide), hM1]
      simp (disch := omega) only [stm_neq, stm_hit]
    · omega
end
