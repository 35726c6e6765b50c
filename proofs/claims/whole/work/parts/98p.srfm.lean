/-! SHIFT AND REDUCE reads what the formulas' levels read -/
section
variable {B : Int → Int} {z : Int} {Φ : RSP → Prop} {P : PST} {kd v : Int}
theorem op0 : opB 0 kd v = true ↔ kd = 2 ∧ v = 15 := by unfold opB; rw [if_pos rfl]; exact decide_eq_true_iff
theorem op1 : opB 1 kd v = true ↔ kd = 2 ∧ v = 16 := by unfold opB; rw [if_neg (by decide), if_pos rfl]; exact decide_eq_true_iff
theorem op2 : opB 2 kd v = true ↔ kd = 5 ∧ (v = 60 ∨ v = 62 ∨ v = 61) := by unfold opB; rw [if_neg (by decide), if_neg (by decide), if_pos rfl]; exact decide_eq_true_iff
theorem op3 : opB 3 kd v = true ↔ kd = 5 ∧ (v = 43 ∨ v = 45) := by unfold opB; rw [if_neg (by decide), if_neg (by decide), if_neg (by decide), if_pos rfl]; exact decide_eq_true_iff
theorem op4 : opB 4 kd v = true ↔ kd = 5 ∧ (v = 42 ∨ v = 47 ∨ v = 37) := by unfold opB; rw [if_neg (by decide), if_neg (by decide), if_neg (by decide), if_neg (by decide)]; exact decide_eq_true_iff
theorem l_5 {l : Int} (l0 : 0 ≤ l) (l1 : l < 5) : l = 0 ∨ l = 1 ∨ l = 2 ∨ l = 3 ∨ l = 4 := by omega
theorem rk_of {l : Int} (l0 : 0 ≤ l) (l1 : l < 5) (h : opB l kd v = true) : rkT kd v = rkL l := by
  unfold rkT
  rcases l_5 l0 l1 with rfl | rfl | rfl | rfl | rfl
  · have := op0.1 h
    rw [if_neg (by rw [op1]; omega), if_pos h]; decide
  · rw [if_pos h]; decide
  · have := op2.1 h
    rw [if_neg (by rw [op1]; omega), if_neg (by rw [op0]; omega), if_pos h]; decide
  · have := op3.1 h
    rw [if_neg (by rw [op1]; omega), if_neg (by rw [op0]; omega), if_neg (by rw [op2]; omega), if_pos h]; decide
  · have := op4.1 h
    rw [if_neg (by rw [op1]; omega), if_neg (by rw [op0]; omega), if_neg (by rw [op2]; omega), if_neg (by rw [op3]; omega), if_pos h]; decide
theorem op_ne {l : Int} (l0 : 0 ≤ l) (l1 : l < 5) (h2 : l ≠ 2) (h : opB l kd v = true) : ¬ opB 2 kd v = true := by
  rw [op2]
  rcases l_5 l0 l1 with rfl | rfl | rfl | rfl | rfl
  · have := op0.1 h; omega
  · have := op1.1 h; omega
  · exact absurd rfl h2
  · have := op3.1 h; omega
  · have := op4.1 h; omega
theorem op_no {l : Int} (l0 : 0 ≤ l) (l1 : l < 5) (h : opB l kd v = true) : kd ≠ 1 := by
  rcases l_5 l0 l1 with rfl | rfl | rfl | rfl | rfl
  · have := op0.1 h; omega
  · have := op1.1 h; omega
  · have := op2.1 h; omega
  · have := op3.1 h; omega
  · have := op4.1 h; omega
theorem rk_0 (h0 : ¬ opB 0 kd v = true) (h1 : ¬ opB 1 kd v = true) (h2 : ¬ opB 2 kd v = true) (h3 : ¬ opB 3 kd v = true) (h4 : ¬ opB 4 kd v = true) : rkT kd v = 0 := by
  unfold rkT
  rw [if_neg h1, if_neg h0, if_neg h2, if_neg h3, if_neg h4]
theorem rkL_b {l : Int} (l0 : 0 ≤ l) (l1 : l < 5) : (1 ≤ rkL l ∧ rkL l ≤ 6 ∧ rkL l ≠ 3) ∧ rkL l < rkL (l + 1) ∧ (rkL l ≤ rlL l ∨ l = 2) ∧ rlL l ≤ rkL l ∧ rkL l ≤ rlL (l + 1) := by
  rcases l_5 l0 l1 with rfl | rfl | rfl | rfl | rfl <;> decide
/-- what lies below a formula of a level -/
def TOP (l : Int) (t kd v : Int) : Prop := (t < rkL l ∨ 7 ≤ t) ∧ (3 ≤ l → (4 ≤ t ∧ t ≤ 6) ∨ ¬ (kd = 2 ∧ v = 17))
theorem bnd_cases {Q : RSP → Prop} {r : RSP} {f : Nat → NTW → RSP} (h : Q (bnd r f)) : (∃ e, r = .inl e ∧ Q (.inl e)) ∨ ∃ k1 G1, r = .inr (k1, G1) ∧ Q (f k1 G1) := by
  cases r with
  | inl e => exact Or.inl ⟨e, rfl, h⟩
  | inr s => exact Or.inr ⟨s.1, s.2, rfl, h⟩
theorem sr_loop {f : Nat → NTW → RSP} {l dep : Int} {S : SKK} (l0 : 0 ≤ l) (l1 : l < 5) (hE : ∀ j, 1600 ≤ j → tkd B z j = 1) (hB : ∀ k S w G, srB B z Φ P k S w G → P false k S w G) (hS : topW S < rkL l ∨ 7 ≤ topW S) (hfl : ∀ k G k' G', f k G = .inr (k', G') → k + 1 ≤ k')
    (hf : ∀ k G, CK B z Φ P (l + 1) ((rkL l, 20000 + tvl B z k) :: S) dep (f (k + 1) G) → opB l (tkd B z k) (tvl B z k) = true → P true (k + 1) ((rkL l, 20000 + tvl B z k) :: S) dep G) :
    ∀ (m k : Nat) (G : NTW) (A : SKK) (w : Int) (Gp : NTW), rdG A Gp = G → rdW A w = dep → (∀ p ∈ A, rkL l ≤ p.1 ∧ p.1 ≤ 6) → NOP B z (l + 1) k A → (l ≠ 2 → 1600 ≤ m + k) → (l = 2 → (m = 1 ∧ ∀ p ∈ A, 5 ≤ p.1) ∨ (m = 0 ∧ cmpd A = true)) → CK B z Φ P l S dep (lpP B z f l m k G) → P false k (A ++ S) w Gp := by
  have rb := rkL_b l0 l1
  -- the end of a level
  have fin : ∀ (k : Nat) (G : NTW) (A : SKK) (w : Int) (Gp : NTW), rdG A Gp = G → rdW A w = dep → (∀ p ∈ A, rkL l ≤ p.1 ∧ p.1 ≤ 6) → NOP B z (l + 1) k A → (l ≠ 2 → ¬ opB l (tkd B z k) (tvl B z k) = true) → (l = 2 → opB 2 (tkd B z k) (tvl B z k) = true → cmpd A = true) → CK B z Φ P l S dep (.inr (k, G)) → P false k (A ++ S) w Gp := fun k G A w Gp hG hw hA hN h1 h2 hC => hC A w Gp hG hw (fun p hp => ⟨Int.le_trans rb.2.2.2.1 (hA p hp).1, (hA p hp).2⟩) ⟨fun l' g0 g1 g2 => by
    by_cases hl : l' = l
    · rw [hl] at g2 ⊢; exact h1 g2
    · exact hN.1 l' (by omega) g1 g2, fun g0 g1 => by
    by_cases hl : l = 2
    · exact h2 hl g1
    · exact hN.2 (by omega) g1⟩
  intro m
  induction m with
  | zero =>
    intro k G A w Gp hG hw hA hN hm h2 hC
    refine fin k G A w Gp hG hw hA hN (fun g ho => op_no l0 l1 ho (hE k (by have := hm g; omega))) (fun g _ => ?_) hC
    rcases h2 g with ⟨q, _⟩ | ⟨_, q⟩
    · exact absurd q (by decide)
    · exact q
  | succ m ih =>
    intro k G A w Gp hG hw hA hN hm h2 hC
    unfold lpP at hC
    by_cases ho : opB l (tkd B z k) (tvl B z k) = true
    · rw [if_pos ho] at hC
      refine hB _ _ _ _ ?_
      unfold srB
      rw [rk_of l0 l1 ho]
      have hc : ¬ (opB 2 (tkd B z k) (tvl B z k) = true ∧ cmpd (A ++ S) = true) := by
        by_cases hl : l = 2
        · rcases h2 hl with ⟨_, q⟩ | ⟨q, _⟩
          · rw [cmpd_skip fun p hp => ⟨q p hp, (hA p hp).2⟩, cmpd_top (S := S) (by rw [hl] at hS; exact hS)]
            exact fun g => absurd g.2 (by decide)
          · exact absurd q (by omega)
        · exact fun g => op_ne l0 l1 hl ho g.1
      rw [if_neg hc, pop_rd hS A w Gp hA, hG, hw]
      unfold srE
      rw [rk_of l0 l1 ho, if_pos (by omega)]
      refine hf k G ?_ ho
      rcases bnd_cases hC with ⟨e, he, hQ⟩ | ⟨k1, G1, he, hQ⟩
      · rw [he]; exact hQ
      · rw [he]
        intro A1 w1 Gp1 hG1 hw1 hA1 hN1
        have hk := hfl _ _ _ _ he
        rw [show A1 ++ (rkL l, 20000 + tvl B z k) :: S = (A1 ++ [(rkL l, 20000 + tvl B z k)]) ++ S by rw [List.append_assoc]; rfl]
        refine ih k1 _ _ w1 Gp1 ?_ ?_ (fun p hp => ?_) ⟨hN1.1, fun g0 g1 => cmpd_app (hN1.2 g0 g1)⟩ (fun g => by have := hm g; omega) (fun hl => ?_) hQ
        · rw [rdG_app, hG1]
        · rw [rdW_app, hw1, if_neg rb.1.2.2]
        · rcases List.mem_append.1 hp with hp | hp
          · have := hA1 p hp; omega
          · rw [List.mem_singleton.1 hp]; exact ⟨Int.le_refl _, rb.1.2.1⟩
        · rcases h2 hl with ⟨q, _⟩ | ⟨q, _⟩
          · refine Or.inr ⟨by omega, ?_⟩
            rw [cmpd_skip fun p hp => ?_]
            · rw [hl]; rfl
            · have := hA1 p hp
              rw [hl] at this
              exact this
          · exact absurd q (by omega)
    · rw [if_neg ho] at hC
      exact fin k G A w Gp hG hw hA hN (fun _ => ho) (fun g h => absurd h (by rw [g] at ho; exact ho)) hC
theorem flt_2 {k : Nat} (h : tkd B z k = 5) : flt B z k 2 = .inl (2, tpl B z k) := by
  unfold flt
  rw [if_neg (by omega)]
theorem sr_fm (hE : ∀ j, 1600 ≤ j → tkd B z j = 1) (hU : ∀ k S w G, srU B z Φ P k S w G → P true k S w G) (hB : ∀ k S w G, srB B z Φ P k S w G → P false k S w G) : ∀ (n : Nat) (l dep : Int) (k : Nat) (G : NTW) (S : SKK), 0 ≤ l → l ≤ 5 → 0 ≤ dep → dep ≤ 7 → 6 * (7 - dep) + (6 - l) ≤ (n : Int) → TOP l (topW S) (tkd B z k) (tvl B z k) → CK B z Φ P l S dep (fmP B z n l dep k G) → P true k S dep G
  | 0, l, dep, k, G, S, l0, l1, d0, d1, hn, _, _ => absurd hn (by omega)
  | n + 1, l, dep, k, G, S, l0, l1, d0, d1, hn, hT, hC => by
    unfold fmP at hC
    by_cases h5 : 5 ≤ l
    · rw [if_pos h5] at hC
      have hl : l = 5 := by omega
      subst hl
      unfold unP at hC
      refine hU _ _ _ _ ?_
      unfold srU
      have n1 : ¬ ((topW S ≤ 3 ∨ 7 ≤ topW S) ∧ tkd B z k = 2 ∧ tvl B z k = 17) := by
        rcases hT.2 (by decide) with h | h
        · omega
        · exact fun q => h q.2
      have nil : ∀ (k' : Nat) (G' : NTW), CK B z Φ P 5 S dep (.inr (k', G')) → P false k' S dep G' := fun k' G' h => h [] dep G' rfl rfl (fun p hp => nomatch hp) ⟨fun l' g0 g1 => absurd g0 (by omega), fun g => absurd g (by decide)⟩
      rw [if_neg n1]
      by_cases c1 : tkd B z k = 5 ∧ tvl B z k = 40
      · rw [if_pos c1] at hC ⊢
        by_cases c2 : (G 0 8 = 30 ∨ G 0 4 = 90) ∨ 6 < dep
        · rw [if_pos c2] at hC
          rw [if_pos (by omega), flt_2 c1.1]
          rw [flt_2 c1.1] at hC
          exact hC
        · rw [if_neg c2] at hC
          rw [if_neg (by omega)]
          refine sr_fm hE hU hB n 0 (dep + 1) (k + 1) (unG G) _ (by decide) (by decide) (by omega) (by omega) (by omega) ⟨Or.inr (by show (7 : Int) ≤ 7; decide), fun q => absurd q (by decide)⟩ ?_
          rcases bnd_cases hC with ⟨e, he, hQ⟩ | ⟨k1, G1, he, hQ⟩
          · rw [he]; exact hQ
          · rw [he]
            intro A w Gp hG hw hA hN
            show P false k1 (A ++ (7, 20017) :: S) w Gp
            refine hB _ _ _ _ ?_
            unfold srB
            have hA' : ∀ p ∈ A, (0 : Int) ≤ p.1 ∧ p.1 ≤ 6 := fun p hp => by
              have h := hA p hp
              rw [show rlL 0 = 1 by decide] at h
              omega
            have hQ' : CK B z Φ P 5 S dep (if tkd B z k1 = 5 ∧ tvl B z k1 = 41 then .inr (k1 + 1, G1) else flt B z k1 2) := hQ
            by_cases ho : opB 2 (tkd B z k1) (tvl B z k1) = true
            · rw [if_pos ⟨ho, cmpd_app (hN.2 (by decide) ho)⟩]
              have o2 := op2.1 ho
              rw [if_neg (by omega), flt_2 o2.1] at hQ'
              rw [flt_2 o2.1]
              exact hQ'
            · rw [if_neg fun q => ho q.1]
              have r0 : rkT (tkd B z k1) (tvl B z k1) = 0 := rk_0 (hN.1 0 (by decide) (by decide) (by decide)) (hN.1 1 (by decide) (by decide) (by decide)) ho (hN.1 3 (by decide) (by decide) (by decide)) (hN.1 4 (by decide) (by decide) (by decide))
              rw [r0, pop_rd (S := (7, 20017) :: S) (Or.inr (by show (7 : Int) ≤ 7; decide)) A w Gp hA', hG, hw]
              unfold srE
              rw [r0, if_neg (by decide)]
              show (if (7 : Int) = 7 then _ else _)
              rw [if_pos rfl]
              by_cases h41 : tkd B z k1 = 5 ∧ tvl B z k1 = 41
              · rw [if_pos h41] at hQ' ⊢
                show P false (k1 + 1) S (dep + 1 - 1) G1
                rw [show dep + 1 - 1 = dep by omega]
                exact nil _ _ hQ'
              · rw [if_neg h41] at hQ' ⊢
                exact hQ'
      · rw [if_neg c1] at hC ⊢
        by_cases c2 : tkd B z k = 4
        · rw [if_pos c2] at hC ⊢
          by_cases c3 : G 0 8 = 30 ∨ G 0 4 = 90
          · rw [if_pos c3] at hC ⊢; exact hC
          · rw [if_neg c3] at hC ⊢; exact nil _ _ hC
        · rw [if_neg c2] at hC ⊢
          by_cases c4 : tkd B z k = 3
          · rw [if_pos c4] at hC ⊢
            by_cases c3 : G 0 8 = 30 ∨ G 0 4 = 90
            · rw [if_pos c3] at hC ⊢; exact hC
            · rw [if_neg c3] at hC ⊢
              by_cases c5 : stH G (tvl B z k) < 0
              · rw [if_pos c5] at hC ⊢; exact hC
              · rw [if_neg c5] at hC ⊢; exact nil _ _ hC
          · rw [if_neg c4] at hC ⊢; exact hC
    · rw [if_neg h5] at hC
      have l5 : l < 5 := by omega
      have rb := rkL_b l0 l5
      by_cases c1 : l = 2 ∧ (tkd B z k = 2 ∧ tvl B z k = 17)
      · rw [if_pos c1] at hC
        obtain ⟨hl, c1⟩ := c1
        subst hl
        refine hU _ _ _ _ ?_
        unfold srU
        have ht : topW S < 4 ∨ 7 ≤ topW S := hT.1
        rw [if_pos ⟨by omega, c1⟩]
        by_cases c2 : 6 < dep
        · rw [if_pos c2] at hC
          rw [if_pos (by omega)]
          exact hC
        · rw [if_neg c2] at hC
          rw [if_neg (by omega)]
          refine sr_fm hE hU hB n 2 (dep + 1) (k + 1) G _ (by decide) (by decide) (by omega) (by omega) (by omega) ⟨Or.inl (by show (3 : Int) < 4; decide), fun q => absurd q (by decide)⟩ ?_
          rcases bnd_cases hC with ⟨e, he, hQ⟩ | ⟨k1, G1, he, hQ⟩
          · rw [he]; exact hQ
          · rw [he]
            intro A w Gp hG hw hA hN
            show P false k1 (A ++ (3, 20017) :: S) w Gp
            rw [show A ++ ((3, 20017) : Int × Int) :: S = (A ++ [((3, 20017) : Int × Int)]) ++ S by rw [List.append_assoc]; rfl]
            refine hQ (A ++ [(3, 20017)]) w Gp ?_ ?_ (fun p hp => ?_) ⟨hN.1, fun g0 g1 => cmpd_app (hN.2 g0 g1)⟩
            · rw [rdG_app, hG]
            · rw [rdW_app, hw, if_pos rfl]; omega
            · rcases List.mem_append.1 hp with hp | hp
              · exact hA p hp
              · rw [List.mem_singleton.1 hp]; decide
      · rw [if_neg c1] at hC
        have hT' : TOP (l + 1) (topW S) (tkd B z k) (tvl B z k) := ⟨by have := hT.1; omega, fun q => by
          by_cases h3 : 3 ≤ l
          · exact hT.2 h3
          · exact Or.inr fun g => c1 ⟨by omega, g⟩⟩
        refine sr_fm hE hU hB n (l + 1) dep k G S (by omega) (by omega) d0 d1 (by omega) hT' ?_
        rcases bnd_cases hC with ⟨e, he, hQ⟩ | ⟨k1, G1, he, hQ⟩
        · rw [he]; exact hQ
        · rw [he]
          intro A w Gp hG hw hA hN
          refine sr_loop (f := fmP B z n (l + 1) dep) l0 l5 hE hB hT.1 (fun k G k' G' => fm_le n (l + 1) dep k G k' G') (fun k2 G2 h2 ho => ?_) _ k1 G1 A w Gp hG hw (fun p hp => ?_) hN (fun g => ?_) (fun g => ?_) hQ
          · refine sr_fm hE hU hB n (l + 1) dep (k2 + 1) G2 _ (by omega) (by omega) d0 d1 (by omega) ⟨Or.inl ?_, fun q => Or.inl ?_⟩ h2
            · show rkL l < rkL (l + 1); exact rb.2.1
            · show 4 ≤ rkL l ∧ rkL l ≤ 6
              rcases l_5 l0 l5 with rfl | rfl | rfl | rfl | rfl
              · omega
              · omega
              · decide
              · decide
              · decide
          · have := hA p hp; omega
          · rw [if_neg g]; omega
          · refine Or.inl ⟨if_pos g, fun p hp => ?_⟩
            have h := hA p hp
            rw [g] at h
            exact h.1
end
