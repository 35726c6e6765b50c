/-! CHAIN: the op -/
theorem iand_3 (z : Int) : iand z 3 = z % 4 := by
  show BitVec.toInt (Int32.toBitVec (Int32.ofInt z &&& Int32.ofInt 3)) = _
  rw [Int32.toBitVec_and]
  have e : ((Int32.ofInt z).toBitVec &&& (Int32.ofInt 3).toBitVec).toNat = (z % 4).toNat := by
    rw [BitVec.toNat_and]
    have e1 : (Int32.ofInt z).toBitVec.toNat = (z % 4294967296).toNat := by
      show (BitVec.ofInt 32 z).toNat = _
      rw [BitVec.toNat_ofInt]; rfl
    have e2 : (Int32.ofInt 3).toBitVec.toNat = 2 ^ 2 - 1 := by decide
    rw [e1, e2, Nat.and_two_pow_sub_one_eq_mod]
    omega
  rw [BitVec.toInt_eq_toNat_of_lt (by rw [e]; omega), e]
  omega
theorem dig3 {v n k : Nat} (hk : k < n) (n8 : n ≤ 8) (hv : v ≤ 65536) : iand (ishr (v : Int) (imul 2 (isub (isub (n : Int) 1) (k : Int)))) 3 = ckD n v k := by
  rw [isub_of (x := (n : Int)) (by omega) (by omega), isub_of (by omega) (by omega), imul_of (by omega) (by omega), show 2 * ((n : Int) - 1 - (k : Int)) = ((2 * (n - 1 - k) : Nat) : Int) by omega, ishr_of (by omega) (by omega) (by omega), iand_3]
  show (v : Int) / 2 ^ (2 * (n - 1 - k)) % 4 = ((v / 4 ^ (n - 1 - k) % 4 : Nat) : Int)
  rw [Int.natCast_emod, Int.natCast_ediv, show (4 : Nat) ^ (n - 1 - k) = 2 ^ (2 * (n - 1 - k)) by rw [Nat.pow_mul], Int.natCast_pow]
  rfl
def OKc (np : Int) (O W : Int → Int) (n v : Nat) : Prop := ∀ i, 0 ≤ i → i < np → ckR (ckD n v) n (O i) = W i
theorem ckE_0 {g : Nat → Int} {n v : Nat} : ckE g 0 n v = ckD n v := by
  funext k
  unfold ckE
  rw [if_neg (by omega), Nat.sub_zero]
theorem OKc_x {np : Int} {O W : Int → Int} {g : Nat → Int} {n v : Nat} : OKx np O W g 0 n v ↔ OKc np O W n v := by
  unfold OKx OKc
  rw [ckE_0, Nat.zero_add]
section
variable {d c : Nat} {R M X : MEM} {b x y z t m k u np : Int} {N : NTW} {Q : RES} {O W : Int → Int}
theorem m_doesChain {v n : Nat} (hR : RM R) (hp : X 364 61 = np) (n0 : 0 ≤ np) (n4 : np ≤ 4) (hO : ∀ i, 0 ≤ i → i < np → X 403 i = O i ∧ 0 ≤ O i ∧ O i ≤ 999) (hW : ∀ i, 0 ≤ i → i < np → X 404 i = W i) (n8 : n ≤ 8) (hv : v ≤ 65536) (hq1 : ∀ X', (∀ q, q ≠ 398 → X' q = X q) → (∀ k : Nat, k < n → X' 398 (k : Int) = ckD n v k) → OKc np O W n v → Q 1 SHX R X') (hq0 : ∀ X', (∀ q, q ≠ 398 → X' q = X q) → ¬ OKc np O W n v → Q 0 SHX R X') : Mw (d + 1) 261 [vr 364, vi (v : Int), vi (n : Int)] SHX R X 0 0 Q := by
  refine Mw_of mok261 rfl fun _ _ => b_X12_doesChain_0 ?_
  have L24 : ∀ Y, (∀ q, q ≠ 398 → Y q = X q) → (∀ k : Nat, k < n → Y 398 (k : Int) = ckD n v k) → ∀ u, 0 ≤ u → u ≤ np → (∀ i, 0 ≤ i → i < u → ckR (ckD n v) n (O i) = W i) → Go (d + 1) 261 Q 24 [vr 364, vn, vi (n : Int), vi u, vn, vn] [] SHX R Y 0 0 := by
    intro Y hY hd
    have yn : Y 364 61 = np := by rw [hY _ (by decide)]; exact hp
    refine upto (fun h => ?_) fun u u0 u1 ih h => ?_
    · refine b_X12_doesChain_24 ?_
      rw [ok364, yn, if_neg (by omega)]
      exact hq1 Y hY hd h
    · obtain ⟨o1, o2, o3⟩ := hO u u0 u1
      have L35 : ∀ k : Nat, k ≤ n → Go (d + 1) 261 Q 35 [vr 364, vn, vi (n : Int), vi u, vi (ckR (ckD n v) k (O u)), vi (k : Int)] [] SHX R Y 0 0 := by
        refine uptoN ?_ ?_
        · refine b_X12_doesChain_35 ?_
          rw [if_neg (by omega), ok364, fr60 hR, ak404, hY 404 (by decide), hW u u0 u1]
          refine ⟨u0, by omega, ?_⟩
          by_cases he : ckR (ckD n v) n (O u) = W u
          · rw [if_pos he, iadd_of (by omega) (by omega)]
            refine ih fun i i0 i1 => ?_
            by_cases hiu : i = u
            · rw [hiu]; exact he
            · exact h i i0 (by omega)
          · rw [if_neg he]
            exact hq0 Y hY fun z => he (z u u0 u1)
        · intro k hk ihk
          have rt := ckR_top (g := ckD n v) o2 o3 (k := k) (by omega)
          refine b_X12_doesChain_35 ?_
          rw [if_pos (by omega), ok364, fr53 hR, ak398, hd k hk, iadd_of (x := (k : Int)) (by omega) (by omega), show (k : Int) + 1 = ((k + 1 : Nat) : Int) by omega]
          exact ⟨by omega, by omega, m_made (d := d) rt.1 (by omega) ihk⟩
      refine b_X12_doesChain_24 ?_
      rw [ok364, yn, if_pos u1, ok364, fr59 hR, ak403, hY 403 (by decide), o1]
      exact ⟨u0, by omega, L35 0 (Nat.zero_le _)⟩
  have L2 : ∀ k : Nat, k ≤ n → ∀ Y, (∀ q, q ≠ 398 → Y q = X q) → (∀ j : Nat, j < k → Y 398 (j : Int) = ckD n v j) → Go (d + 1) 261 Q 2 [vr 364, vi (v : Int), vi (n : Int), vi (k : Int), vn, vn] [] SHX R Y 0 0 := by
    refine uptoN ?_ ?_
    · intro Y hY hd
      refine b_X12_doesChain_2 ?_
      rw [if_neg (by omega)]
      exact L24 Y hY hd 0 (by decide) n0 fun i i0 i1 => by omega
    · intro k hk ih Y hY hd
      refine b_X12_doesChain_2 ?_
      rw [if_pos (by omega), ok364, fr53 hR, ak398, dig3 hk n8 hv, iadd_of (x := (k : Int)) (by omega) (by omega), show (k : Int) + 1 = ((k + 1 : Nat) : Int) by omega]
      refine ⟨by omega, by omega, ih _ (fun q hq => by rw [stm_ne hq, hY q hq]) fun j hj => ?_⟩
      by_cases hjk : j = k
      · rw [hjk, stm_hit]
      · rw [stm_neq (by omega)]; exact hd j (by omega)
  exact L2 0 (Nat.zero_le _) X (fun _ _ => rfl) fun j hj => by omega
theorem c_shortest (hc : RC R) (hn : X 342 0 = np) (n0 : 0 ≤ np) (n4 : np ≤ 4) (hO : ∀ i, 0 ≤ i → i < np → X 345 i = O i ∧ 0 ≤ O i ∧ O i ≤ 999) (hW : ∀ i, 0 ≤ i → i < np → X 343 i = W i) (hl : X 338 1 = 0) (hq1 : ∀ X' (n v : Nat), n ≤ 8 → v < 4 ^ n → OKc np O W n v → (∀ u, u < v → ¬ OKc np O W n u) → (∀ j, j < n → ∀ u, u < 4 ^ j → ¬ OKc np O W j u) → X' 338 1 = (n : Int) → (∀ k : Nat, k < n → X' 339 (k : Int) = ckD n v k) → (∀ q, (q ≤ 345 ∨ 354 < q) → q ≠ 338 → q ≠ 339 → X' q = X q) → Q (n : Int) SHX R X') (hq0 : ∀ X', (∀ j, j < 9 → ∀ u, u < 4 ^ j → ¬ OKc np O W j u) → X' 338 1 = 0 → (∀ q, (q ≤ 345 ∨ 354 < q) → q ≠ 338 → q ≠ 339 → X' q = X q) → Q (-1) SHX R X') : Mw (d + 10) 9 [vr 342] SHX R X 0 0 Q := by
  refine Mw_of mok9 rfl fun _ _ => b_X1_shortest_0 ?_
  have key : ∀ n : Nat, n ≤ 9 → ∀ Y, (∀ q, (q ≤ 345 ∨ 354 < q) → Y q = X q) → (∀ j, j < n → ∀ u, u < 4 ^ j → ¬ OKc np O W j u) → Go (d + 10) 9 Q 2 [vr 342, vi (n : Int), vn] [] SHX R Y 0 0 := by
    refine uptoN ?_ ?_
    · intro Y hY hno
      refine b_X1_shortest_2 ?_
      rw [if_pos (by decide)]
      exact hq0 Y hno (by rw [hY _ (by omega)]; exact hl) fun q h _ _ => hY q h
    · intro n hn9 ih Y hY hno
      refine b_X1_shortest_2 ?_
      rw [if_neg (by omega), ok342]
      have dep : d + 9 = d + (8 - n) + n + 1 := by omega
      have S := c_search (d := d + (8 - n)) (np := np) (O := O) (W := W) hc n0 n4 (fun i i0 i1 => (hO i i0 i1).2) n 0 (fun _ => 0) Y (fun x1 sh1 R1 M1 => (x1 = 0 ∨ x1 = 1) → (if x1 = 0 then Go (d + 10) 9 Q 2 [vr 342, vi (iadd (n : Int) 1), vn] [] sh1 R1 M1 0 0 else Go (d + 10) 9 Q 12 [vr 342, vi (n : Int), vi 0] [] sh1 R1 M1 0 0)) (by omega) (by rw [hY _ (by omega)]; exact hn) (fun i i0 i1 => by rw [hY _ (by omega)]; exact hW i i0 i1) (fun i i0 i1 => by rw [show 345 + ((0 : Nat) : Int) = 345 by decide, hY _ (by omega)]; exact (hO i i0 i1).1) (fun k hk => by omega) (fun X' v hv hok hle hd hf _ => ?_) fun X' hno2 hf _ => ?_
      · rw [← dep] at S
        exact S
      · rw [if_neg (by decide)]
        have hok' := OKc_x.1 hok
        have hle' : ∀ u, u < v → ¬ OKc np O W n u := fun u hu z => hle u hu (OKc_x.2 z)
        have L12 : ∀ k : Nat, k ≤ n → ∀ Z, (∀ q, q ≠ 338 → q ≠ 339 → Z q = X' q) → Z 338 1 = (k : Int) → (∀ j : Nat, j < k → Z 339 (j : Int) = ckD n v j) → Go (d + 10) 9 Q 12 [vr 342, vi (n : Int), vi (k : Int)] [] SHX R Z 0 0 := by
          refine uptoN ?_ ?_
          · intro Z hZ z1 hz
            refine b_X1_shortest_12 ?_
            rw [if_neg (by omega)]
            exact hq1 Z n v (by omega) hv hok' hle' hno z1 hz fun q h h1 h2 => by rw [hZ q h1 h2, hf.1 q (by omega), hY q h]
          · intro k hk ihk Z hZ z1 hz
            have e54 : Z 354 (k : Int) = ckD n v k := by
              rw [hZ _ (by decide) (by decide), hd k (by omega), ckE_0]
            refine b_X1_shortest_12 ?_
            rw [if_pos (by omega), ok342, ok342, rc342_3 hc, ak354, rc342_4 hc, ok338, e54, iadd_of (x := (k : Int)) (by omega) (by omega), show (k : Int) + 1 = ((k + 1 : Nat) : Int) by omega]
            refine ⟨by omega, by omega, c_lput (d := d + 9) hc z1 (by omega) (by omega) ?_⟩
            refine ihk _ (fun q h1 h2 => by rw [stm_ne h1, stm_ne h2, hZ q h1 h2]) (by rw [stm_hit]; omega) fun j hj => ?_
            rw [stm_neq (by omega)]
            by_cases hjk : j = k
            · rw [hjk, stm_hit]
            · rw [stm_neq (by omega)]; exact hz j (by omega)
        exact L12 0 (Nat.zero_le _) X' (fun _ _ _ => rfl) (by rw [hf.1 _ (by omega), hY _ (by omega)]; exact hl) fun j hj => by omega
      · rw [if_pos rfl, iadd_of (by omega) (by omega), show (n : Int) + 1 = ((n + 1 : Nat) : Int) by omega]
        refine ih X' (fun q h => by rw [hf.1 q (by omega), hY q h]) fun j hj u hu z => ?_
        by_cases hjn : j = n
        · subst hjn
          exact hno2 u hu (OKc_x.2 z)
        · exact hno j (by omega) u hu z
  exact key 0 (by decide) X (fun _ _ => rfl) fun j hj => by omega
theorem m_chain (hR : RM R) (hp : X 364 61 = np) (n0 : 0 ≤ np) (n4 : np ≤ 4) (hO : ∀ i, 0 ≤ i → i < np → X 403 i = O i ∧ 0 ≤ O i ∧ O i ≤ 999) (hW : ∀ i, 0 ≤ i → i < np → X 404 i = W i) (hq1 : ∀ X' (n v : Nat), n ≤ 8 → v < 4 ^ n → OKc np O W n v → (∀ u, u < v → ¬ OKc np O W n u) → (∀ j, j < n → ∀ u, u < 4 ^ j → ¬ OKc np O W j u) → X' 364 55 = (n : Int) → (∀ k : Nat, k < n → X' 398 (k : Int) = ckD n v k) → (∀ q j, ¬ (q = 364 ∧ j = 55) → q ≠ 398 → X' q j = X q j) → Q (n : Int) SHX R X') (hq0 : ∀ X', (∀ j, j < 9 → ∀ u, u < 4 ^ j → ¬ OKc np O W j u) → X' 364 55 = 0 → (∀ q j, ¬ (q = 364 ∧ j = 55) → q ≠ 398 → X' q j = X q j) → Q (-1) SHX R X') : Mw (d + 2) 262 [vr 364] SHX R X 0 0 Q := by
  refine Mw_of mok262 rfl fun _ _ => b_X12_chain_0 ?_
  rw [ok364]
  have key : ∀ n : Nat, n ≤ 9 → ∀ Y, (∀ q, q ≠ 398 → Y q = stm X 364 55 0 q) → (∀ j, j < n → ∀ u, u < 4 ^ j → ¬ OKc np O W j u) → Go (d + 2) 262 Q 5 [vr 364, vi (n : Int), vn] [] SHX R Y 0 0 := by
    refine uptoN ?_ ?_
    · intro Y hY hno
      refine b_X12_chain_5 ?_
      rw [if_pos (by decide)]
      exact hq0 Y hno (by rw [hY _ (by decide), stm_hit]) fun q j h1 h2 => by rw [hY q h2, stm_neq h1]
    · intro n hn9 ih Y hY hno
      refine b_X12_chain_5 ?_
      rw [if_neg (by omega)]
      have p16 : 4 ^ n ≤ 65536 := by
        have := Nat.pow_le_pow_right (n := 4) (by decide) (show n ≤ 8 by omega)
        exact Nat.le_trans this (by decide)
      have esh : ishl 1 (imul 2 (n : Int)) = ((4 ^ n : Nat) : Int) := by
        rw [imul_of (by omega) (by omega), show 2 * (n : Int) = ((2 * n : Nat) : Int) by omega, ishl_1 (by omega), Nat.pow_mul]
      have L10 : ∀ v : Nat, v ≤ 4 ^ n → ∀ Z, (∀ q, q ≠ 398 → Z q = stm X 364 55 0 q) → (∀ u, u < v → ¬ OKc np O W n u) → Go (d + 2) 262 Q 10 [vr 364, vi (n : Int), vi (v : Int)] [] SHX R Z 0 0 := by
        refine uptoN ?_ ?_
        · intro Z hZ hno2
          refine b_X12_chain_10 ?_
          rw [esh, if_neg (by omega), iadd_of (by omega) (by omega), show (n : Int) + 1 = ((n + 1 : Nat) : Int) by omega]
          refine ih Z hZ fun j hj u hu z => ?_
          by_cases hjn : j = n
          · subst hjn
            exact hno2 u hu z
          · exact hno j (by omega) u hu z
        · intro v hv ihv Z hZ hno2
          refine b_X12_chain_10 ?_
          rw [esh, if_pos (by omega), ok364]
          refine m_doesChain (d := d) (np := np) (O := O) (W := W) hR (by rw [hZ _ (by decide), stm_neq (by omega)]; exact hp) n0 n4 (fun i i0 i1 => by rw [hZ _ (by decide), stm_neq (by omega)]; exact hO i i0 i1) (fun i i0 i1 => by rw [hZ _ (by decide), stm_neq (by omega)]; exact hW i i0 i1) (by omega) (by omega) (fun X' f hd hok _ => ?_) fun X' f hok _ => ?_
          · rw [if_neg (by decide), ok364]
            refine hq1 _ n v (by omega) hv hok hno2 hno (stm_hit _ _ _ _) (fun k hk => by rw [stm_neq (by omega)]; exact hd k hk) fun q j h1 h2 => ?_
            rw [stm_neq h1, f q h2, hZ q h2, stm_neq h1]
          · rw [if_pos rfl, iadd_of (by omega) (by omega), show (v : Int) + 1 = ((v + 1 : Nat) : Int) by omega]
            refine ihv X' (fun q h => by rw [f q h, hZ q h]) fun u hu z => ?_
            by_cases huv : u = v
            · subst huv
              exact hok z
            · exact hno2 u (by omega) z
      exact L10 0 (Nat.zero_le _) Y hY fun u hu => by omega
  exact key 0 (by decide) _ (fun _ _ => rfl) fun j hj => by omega
theorem p_chain (h : INV c R M b N) : PR (d + 11) 134 262 [] R M (Inv (c + 1)) := by
  obtain ⟨hn, hN, hC, hW, hM, hc, hR, b0, b1⟩ := in_net h
  have hf := in_f h
  have hp := in_p h
  obtain ⟨p1, p2', p3⟩ := ip_n hp
  have ref : ∀ (M2 : MEM), (∀ q j, KP q j → ¬ LY q j → M2 q j = M q j) → 0 ≤ M2 364 49 → ∀ w : Int, ((∃ n v : Nat, w = (n : Int) ∧ n ≤ 8 ∧ v < 4 ^ n ∧ OKc (M 364 61) (M 403) (M 404) n v ∧ (∀ u, u < v → ¬ OKc (M 364 61) (M 403) (M 404) n u) ∧ (∀ j, j < n → ∀ u, u < 4 ^ j → ¬ OKc (M 364 61) (M 403) (M 404) j u) ∧ M2 338 1 = (n : Int) ∧ ∀ k : Nat, k < n → M2 339 (k : Int) = ckD n v k) ∨ (w = -1 ∧ (∀ j, j < 9 → ∀ u, u < 4 ^ j → ¬ OKc (M 364 61) (M 403) (M 404) j u) ∧ M2 338 1 = 0)) → Mw (d + 11) 262 [vr 364] SHX R M2 0 0 (fun r sh2 R2 M2 => sh2 = SHX ∧ w = r ∧ Inv (c + 1) R2 M2) := fun M2 f2 h9 w hw => by
    have fin : ∀ X', (∀ q j, ¬ (q = 364 ∧ j = 55) → q ≠ 398 → X' q j = M2 q j) → IY X' → Inv (c + 1) R X' := fun X' f hy => ⟨b, N, INV_lay h (Nat.le_succ c) (fun q j hk hl => by rw [f q j (fun z => hl (by unfold LY; omega)) (fun z => hl (by unfold LY; omega)), f2 q j hk hl]) (by rw [f _ _ (by decide) (by decide)]; exact h9) hy⟩
    refine m_chain (d := d + 9) (np := M 364 61) (O := M 403) (W := M 404) hR (f2 _ _ (by unfold KP; omega) (by unfold LY; omega)) p2' p3 (fun i i0 i1 => ⟨f2 _ _ (by unfold KP; omega) (by unfold LY; omega), (ip_v hp i i0 i1).2.2.1, (ip_v hp i i0 i1).2.2.2.1⟩) (fun i i0 i1 => f2 _ _ (by unfold KP; omega) (by unfold LY; omega)) (fun X' n v n8 hv hok hle hno e55 hd f => ?_) fun X' hno e55 f => ?_
    · rcases hw with ⟨n', v', e0, e1, e2, e3, e4, e5, e6, e7⟩ | ⟨e0, e1, e2⟩
      · have hnn : n' = n := by
          by_cases h1 : n' < n
          · exact absurd e3 (hno n' h1 v' e2)
          · by_cases h2 : n < n'
            · exact absurd hok (e5 n h2 v hv)
            · omega
        subst hnn
        have hvv : v' = v := by
          by_cases h1 : v' < v
          · exact absurd e3 (hle v' h1)
          · by_cases h2 : v < v'
            · exact absurd hok (e4 v h2)
            · omega
        subst hvv
        refine ⟨rfl, e0, fin X' f ⟨⟨?_, ?_, ?_⟩, fun i i0 i1 => ?_⟩⟩
        · rw [f _ _ (by omega) (by decide), e6, e55]
        · rw [e55]; omega
        · rw [e55]; omega
        · rw [e55] at i1
          obtain ⟨k, rfl⟩ := Int.eq_ofNat_of_zero_le i0
          rw [f _ _ (by omega) (by decide), e7 k (by omega), hd k (by omega)]
      · exact absurd hok (e1 n (by omega) v hv)
    · rcases hw with ⟨n', v', e0, e1, e2, e3, e4, e5, e6, e7⟩ | ⟨e0, e1, e2⟩
      · exact absurd e3 (hno n' (by omega) v' e2)
      · exact ⟨rfl, e0, fin X' f (IY_zero (by rw [f _ _ (by omega) (by decide), e2]) e55)⟩
  refine Mw_of mok134 rfl fun _ _ => b_X11_chain_0 ?_
  rw [ok0, rc0_11 hc, ok338, ok0, rc0_9 hc, ok342]
  refine c_shortest (d := d) (np := M 364 61) (O := M 403) (W := M 404) hc (by rw [stm_neq (by omega)]; exact p1) p2' p3 (fun i i0 i1 => ⟨by rw [stm_neq (by omega)]; exact (ip_v hp i i0 i1).1, (ip_v hp i i0 i1).2.2.1, (ip_v hp i i0 i1).2.2.2.1⟩) (fun i i0 i1 => by rw [stm_neq (by omega)]; exact (ip_v hp i i0 i1).2.1) (stm_hit _ _ _ _) (fun X' n v n8 hv hok hle hno e38 hd f => ⟨rfl, ?_⟩) fun X' hno e38 f => ⟨rfl, ?_⟩
  · refine ref X' (fun q j hk hl => ?_) ?_ _ (Or.inl ⟨n, v, rfl, n8, hv, hok, hle, hno, e38, hd⟩)
    · by_cases h8 : q = 338
      · subst h8
        have : j = 1 := by unfold KP at hk; omega
        exact absurd (show LY 338 j by unfold LY; omega) hl
      · have h9 : q ≠ 339 := fun z => hl (by unfold LY; omega)
        have := KP_out2 hk
        rw [f q (by omega) h8 h9, stm_neq (by omega)]
    · rw [f _ (by omega) (by decide) (by decide), stm_neq (by decide)]; exact if_s hf
  · refine ref X' (fun q j hk hl => ?_) ?_ _ (Or.inr ⟨rfl, hno, e38⟩)
    · by_cases h8 : q = 338
      · subst h8
        have : j = 1 := by unfold KP at hk; omega
        exact absurd (show LY 338 j by unfold LY; omega) hl
      · have h9 : q ≠ 339 := fun z => hl (by unfold LY; omega)
        have := KP_out2 hk
        rw [f q (by omega) h8 h9, stm_neq (by omega)]
    · rw [f _ (by omega) (by decide) (by decide), stm_neq (by decide)]; exact if_s hf
end
