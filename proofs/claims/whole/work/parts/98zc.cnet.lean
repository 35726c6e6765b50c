/-! NET, the class -/
section
variable {d : Nat} {R M X Y : MEM} {B : Int → Int} {z r v w x a b c f n rk t : Int} {k k' : Nat} {s : SNK} {S : SKK} {G G' G1 : NTW} {Q : RES}
theorem c_restart (hC : RC R) (h0 : 0 ≤ M 36 1) (h1 : M 36 1 ≤ 40) (hq : ∀ A', SKY 0 A' (zS v) → Q 0 SHX R (stm (stm (CS M (38 + 5 * M 36 1) A') 36 2 0) 36 3 0)) : Mw (d + 1) 5 [vr 36, vi v] SHX R M 0 0 Q := by
  have hS := SR37 hC h0 (show M 36 1 < 41 by omega)
  have h37 : R 37 (M 36 1) = 38 + 5 * M 36 1 := by
    have := (hC.2.1 (M 36 1).toNat (by omega)).1
    rw [Int.toNat_of_nonneg h0] at this
    exact this
  refine Mw_of mok5 rfl fun _ _ => b_X0_restart_0 ?_
  rw [ok36, ok36, rc36_0 hC, ak37, h37, okS hS]
  refine ⟨h0, by omega, ?_⟩
  have cs := CS_self M (38 + 5 * M 36 1)
  have hcl := c_clear (d := d) (v := v) (a := 38 + 5 * M 36 1) (M := M) (A := fun r => M (38 + 5 * M 36 1 + r)) (Q := fun (_ : Int) (sh1 : SHP) (R1 M1 : MEM) => ook sh1 0 36 (ook sh1 0 36 (Q 0 sh1 R1 (stm (stm M1 36 2 0) 36 3 0)))) hS fun A' hA' => by
    rw [ok36, ok36]
    exact hq A' hA'
  rw [cs] at hcl
  exact hcl
theorem net_44 (hC : RC R) (hN : R 0 12 = n) (hNR : NR R n) (hq : Q (stm (stm (stm (fil M 260 0 3 0) 342 0 0) 355 0 0) 338 1 0 n 0) SHX R (stm (stm (stm (fil M 260 0 3 0) 342 0 0) 355 0 0) 338 1 0)) : ∀ (m : Nat) (i : Int), 0 ≤ i → i + (m : Int) = 3 → Go d 107 Q 44 [vr 0, vn, vn, vi i] [] SHX R (fil M 260 0 i 0) 0 0
  | 0, i, h0, hi => by
    refine b_X11_net_44 ?_
    rw [if_neg (by omega)]
    have e : i = 3 := by omega
    rw [e, ok0, rc0_9 hC, ok342, ok0, rc0_10 hC, ok355, ok0, rc0_11 hC, ok338, ok0, hN, okN hNR]
    exact hq
  | m + 1, i, h0, hi => by
    refine b_X11_net_44 ?_
    rw [if_pos (by omega), ok0, rc0_5 hC, ak260, iadd_of (by omega) (by omega), stm_fil _ _ _ _ _ h0]
    exact ⟨h0, by omega, net_44 hC hN hNR hq m (i + 1) (by omega) (by omega)⟩
theorem net_32 (hC : RC R) (hN : R 0 12 = n) (hNR : NR R n) (hq : Q (stm (stm (stm (fil (fil M 259 0 3 0) 260 0 3 0) 342 0 0) 355 0 0) 338 1 0 n 0) SHX R (stm (stm (stm (fil (fil M 259 0 3 0) 260 0 3 0) 342 0 0) 355 0 0) 338 1 0)) : ∀ (m : Nat) (i : Int), 0 ≤ i → i + (m : Int) = 3 → Go d 107 Q 32 [vr 0, vn, vn, vi i] [] SHX R (fil M 259 0 i 0) 0 0
  | 0, i, h0, hi => by
    refine b_X11_net_32 ?_
    rw [if_neg (by omega)]
    have e : i = 3 := by omega
    rw [e]
    have h := net_44 (d := d) (M := fil M 259 0 3 0) hC hN hNR hq 3 0 (by omega) (by omega)
    rwa [fil_0] at h
  | m + 1, i, h0, hi => by
    refine b_X11_net_32 ?_
    rw [if_pos (by omega), ok0, rc0_4 hC, ak259, iadd_of (by omega) (by omega), stm_fil _ _ _ _ _ h0]
    exact ⟨h0, by omega, net_32 hC hN hNR hq m (i + 1) (by omega) (by omega)⟩
def rNT (R : MEM) (n o : Int) : MEM := stm (stm (stm R 33 5 n) 0 12 n) 0 13 o
theorem RC_NT {o : Int} (h : RC R) : RC (rNT R n o) := RC_of h fun q j h1 h2 => by
  unfold rNT
  rw [stm_neq (by omega), stm_neq (by omega), stm_neq (by omega)]
theorem c_net (hc : RC R) (h12 : R 0 12 = 1 + 13 * b) (h13 : R 0 13 = 14 - 13 * b) (b0 : b = 0 ∨ b = 1) (hn : n = 14 - 13 * b) (hT : TXC M B z) (g0 : 0 ≤ M 36 1) (g1 : M 36 1 ≤ 40) (hbad : ∀ e X', pAll B z 1601 0 G0 = .inl e → X' 33 0 = e.1 → X' 33 1 = e.2 → FPR n M X' → Q (-1) SHX (stm R 33 5 n) (stm X' 27 1 0)) (hgood : ∀ k G X' A', pAll B z 1601 0 G0 = .inr (k, G) → CNG X' n G → FPR n M X' → SKY 0 A' (zS (G 0 5)) → Q (G 0 0) SHX (rNT R n (1 + 13 * b)) (stm (stm (stm (fil (fil (stm (stm (CS (stm X' 27 1 0) (38 + 5 * M 36 1) A') 36 2 0) 36 3 0) 259 0 3 0) 260 0 3 0) 342 0 0) 355 0 0) 338 1 0)) : Mw (d + 103) 107 [vr 0] SHX R M 0 0 Q := by
  have n1 : n = 1 ∨ n = 14 := by omega
  have hNR : NR R n := by
    rcases n1 with e | e
    · rw [e]; exact hc.2.2.2.2.1.1
    · rw [e]; exact hc.2.2.2.2.1.2
  refine Mw_of mok107 rfl fun _ _ => b_X11_net_0 ?_
  rw [ok0, ok0, rc0_1 hc, ok33, h13, ← hn]
  refine c_read (d := d) (B := B) (z := z) hc hNR n1 hT fun X' v hr hv hf => ?_
  intro _
  have hc' : RC (stm R 33 5 n) := RC_of hc fun q j h _ => stm_neq h
  rw [ok0, rc0_0 hc', ok27]
  cases hp : pAll B z 1601 0 G0 with
  | inl e =>
    rw [hp] at hr
    obtain ⟨q1, q2, q3⟩ := hr
    rw [if_pos q1]
    exact hbad e X' hp q2 q3 hf
  | inr s =>
    rw [hp] at hr
    obtain ⟨q1, q2, q3⟩ := hr
    have e12 : stm R 33 5 n 0 12 = 1 + 13 * b := by rw [stm_neq (by omega)]; exact h12
    have e13 : stm R 33 5 n 0 13 = n := by rw [stm_neq (by omega), h13, hn]
    rw [if_neg (by omega), ok0, ok0, ok0, ok0, ok0, ok0, e12, e13]
    have eR : stm (stm (stm R 33 5 n) 0 12 n) 0 13 (1 + 13 * b) = rNT R n (1 + 13 * b) := rfl
    rw [eR]
    have hc2 : RC (rNT R n (1 + 13 * b)) := RC_NT hc
    have r12 : rNT R n (1 + 13 * b) 0 12 = n := by
      unfold rNT
      simp (disch := omega) only [stm_neq, stm_hit]
    have hNR2 : NR (rNT R n (1 + 13 * b)) n := by
      rcases n1 with e | e
      · rw [e]; exact hc2.2.2.2.2.1.1
      · rw [e]; exact hc2.2.2.2.2.1.2
    have x18 : stm X' 27 1 0 n 18 = s.2 0 5 := by
      rw [stm_neq (by omega)]
      exact q2.1.2.2.2.2.2.1
    have x36 : stm X' 27 1 0 36 1 = M 36 1 := by
      rw [stm_neq (by omega), hf.1 36 (by decide) (by omega) (by omega)]
    rw [r12, okN hNR2, rc0_2 hc2, ok36, x18]
    refine c_restart (d := d + 101) hc2 (by rw [x36]; exact g0) (by rw [x36]; exact g1) fun A' hA' => ?_
    rw [x36]
    have h32 := net_32 (d := d + 103) (M := stm (stm (CS (stm X' 27 1 0) (38 + 5 * M 36 1) A') 36 2 0) 36 3 0) (Q := Q) hc2 r12 hNR2 ?_ 3 0 (by omega) (by omega)
    · rwa [fil_0] at h32
    · have en : stm (stm (stm (fil (fil (stm (stm (CS (stm X' 27 1 0) (38 + 5 * M 36 1) A') 36 2 0) 36 3 0) 259 0 3 0) 260 0 3 0) 342 0 0) 355 0 0) 338 1 0 n 0 = s.2 0 0 := by
        simp (disch := omega) only [stm_neq, fil_ne, CS_ne]
        exact q2.1.1
      rw [en]
      exact hgood s.1 s.2 X' A' hp q2 hf hA'
end
