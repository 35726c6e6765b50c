/-! CLAIMS: wrong rows, the reference -/
def cnF (N : NTW) (M : MEM) (b c m y : Int) : Nat → Int → Int → Int
  | 0, _, n => n
  | k + 1, v, n => cnF N M b c m y k (v + 1) (if vlR M b c (lay N m v) = rk N (lay N m v) y (N 9 c) then n else n + 1)
def fsF (N : NTW) (M : MEM) (b c m y : Int) : Nat → Int → Int
  | 0, _ => -1
  | k + 1, v => if vlR M b c (lay N m v) = rk N (lay N m v) y (N 9 c) then fsF N M b c m y k (v + 1) else v
section
variable {d : Nat} {R M X : MEM} {b n x y z t m c : Int} {N : NTW} {Q : RES}
theorem RT_row0 (hX : RT M X) {q : Int} (h : ∀ j, KP q j) (h2 : q ≠ 392) (h3 : q ≠ 396) : X q = M q := funext fun j => hX.1 q j (h j) h2 h3
/-- a row's writing and the pile's keep what is kept -/
theorem RT_off {X' : MEM} (hX : RT M X) (f : ∀ q, q ≠ 396 → q ≠ 391 → X' q = X q) : RT M X' := by
  obtain ⟨r1, r2, r3, r4⟩ := hX
  refine ⟨fun q j hk e2 e6 => ?_, fun i i0 i1 => ?_, fun i i0 i1 => ?_, ?_⟩
  · have h2 := KP_out2 hk
    rw [f q e6 (by omega), r1 q j hk e2 e6]
  · rw [f _ (by decide) (by decide), r2 i i0 i1]
  · rw [f _ (by decide) (by decide), r3 i i0 i1]
  · rw [f _ (by decide) (by decide)]; exact r4
theorem KP_net {q j : Int} (h0 : 1 ≤ q) (h1 : q ≤ 25) (h2 : q ≠ 13) : KP q j := Or.inr (Or.inl ⟨h0, h1, h2⟩)
theorem KP_382 {j : Int} : KP 382 j := by unfold KP; omega
theorem KP_383 {j : Int} : KP 383 j := by unfold KP; omega
theorem KP_387 {j : Int} : KP 387 j := by unfold KP; omega
theorem KP_388 {j : Int} : KP 388 j := by unfold KP; omega
theorem RT_cde (hX : RT M X) (hE : CDE M b n N) (n1 : n = 1 ∨ n = 14) : CDE X b n N := CDE_of hE (RT_row0 hX (fun j => KP_net (by omega) (by omega) (by omega)) (by omega) (by omega)) (RT_row0 hX (fun j => KP_net (by omega) (by omega) (by omega)) (by omega) (by omega)) (RT_row0 hX (fun j => KP_382) (by decide) (by decide)) (RT_row0 hX (fun j => KP_383) (by decide) (by decide)) (RT_row0 hX (fun j => KP_387) (by decide) (by decide)) (RT_row0 hX (fun j => KP_388) (by decide) (by decide))
theorem RT_vl (hX : RT M X) {row : Int → Int} : vlR X b c row = vlR M b c row := vlR_of (RT_row0 hX (fun j => KP_382) (by decide) (by decide)) (RT_row0 hX (fun j => KP_383) (by decide) (by decide)) (RT_row0 hX (fun j => KP_387) (by decide) (by decide)) (RT_row0 hX (fun j => KP_388) (by decide) (by decide))
theorem m_right {v : Int} (hR : RM R) (hM : NM M b N) (hW : WN N) (hf : IF M) (n1 : n = 1 ∨ n = 14) (hE : CDE M b n N) (c0 : 0 ≤ c) (c1 : c < N 0 3) (m0 : 0 ≤ m) (m1 : m ≤ 99) (y0 : 0 ≤ y) (y1 : y ≤ 200) (v0 : 0 ≤ v) (v1 : v ≤ 2000000) (hX : RT M X) {G : Int → SHP → MEM → MEM → Prop} (hg1 : ∀ X', RT M X' → (∀ s, 0 ≤ s → s < N 0 1 → X' 396 s = lay N m v s) → vlR M b c (lay N m v) = rk N (lay N m v) y (N 9 c) → G 1 SHX R X') (hg0 : ∀ X', RT M X' → (∀ s, 0 ≤ s → s < N 0 1 → X' 396 s = lay N m v s) → ¬ vlR M b c (lay N m v) = rk N (lay N m v) y (N 9 c) → G 0 SHX R X') : Cd (d + 5) 235 [vr 364, vi v, vi m] SHX R X 0 0 (fun (_ : Int) (sh4 : SHP) (R4 M4 : MEM) => ook sh4 12 364 (Cd (d + 5) 236 [vr 364, vi c, vi y] sh4 R4 M4 0 0 G)) := by
  have c6 := wn_C hW
  have hS := wn_S hW
  have hT := wn_T hW
  have cd := wn_cd hW c c0 c1
  have b0 := nm_b0 hM
  have b1 := nm_b1 hM
  refine m_layRow (d := d + 3) hR (RT_nm hM hX) hW m0 (by omega) v0 v1 fun X1 k1 f1 => ?_
  have hX1 : RT M X1 := RT_off hX fun q q1 _ => f1 q q1
  rw [ok364]
  refine Mw_of mok236 rfl fun _ _ => b_X12_isRight_0 ?_
  rw [ok364]
  refine m_comes (d := d + 2) hR (RT_nm hM hX1) hW (RT_cde hX1 hE n1) c0 c1 (by omega) fun X2 f2 => ?_
  have hX2 : RT M X2 := RT_off hX1 fun q _ q2 => f2 q q2
  have hM2 := RT_nm hM hX2
  have hrow : ∀ s, 0 ≤ s → s < N 0 1 → X2 396 s = lay N m v s := fun s s0 s1 => by rw [f2 _ (by decide)]; exact k1 s s0 s1
  simp (disch := omega) only [ok364, fr25 hR, ak381, nm_b hM2, imul_of, iadd_of, nm9 hM2]
  refine ⟨by omega, by omega, f_rec (d := d) hR hM2 hW (fun s s0 s1 => by rw [hrow s s0 s1]; exact lay_RW m0 (by omega) s s0 s1) (RT_7 hf hX2) hX2.2.2.2 y0 y1 cd.1 (by omega) fun X3 f3 h9 => ?_⟩
  have hX3 := RT_rec hX2 f3 h9
  have hrow3 : ∀ s, 0 ≤ s → s < N 0 1 → X3 396 s = lay N m v s := fun s s0 s1 => by rw [f3 _ _ (by decide) (by decide) (by omega)]; exact hrow s s0 s1
  rw [RT_vl hX1, vlR_row hE c0 c1 k1, rk_row hW hrow]
  by_cases hb : vlR M b c (lay N m v) = rk N (lay N m v) y (N 9 c)
  · rw [if_pos hb]; exact hg1 X3 hX3 hrow3 hb
  · rw [if_neg hb]; exact hg0 X3 hX3 hrow3 hb
theorem m_wrend {r w f : Int} (hR : RM R) (hX : RT M X) (hr : (if w = 0 then r else f) = x) (hq : ∀ M', (∀ q j, KP q j → M' q j = M q j) → 0 ≤ M' 364 49 → Q x SHX R M') : Cd (d + 1) 233 [vr 364] SHX R X 0 0 (fun (_ : Int) (sh2 : SHP) (R2 M2 : MEM) => ook sh2 12 364 (Cd (d + 1) 205 [vr 364] sh2 R2 M2 0 0 (fun (_ : Int) (sh3 : SHP) (R3 M3 : MEM) => (if w = 0 then Q r sh3 R3 M3 else Q f sh3 R3 M3)))) := by
  refine m_bringRow (d := d) hR fun X1 k1 k2 => ?_
  rw [ok364]
  refine m_bb (d := d) hR fun X2 k3 k4 => ?_
  obtain ⟨g1, g2⟩ := RT_end hX k1 k2 k3 k4
  have := hq X2 g1 g2
  by_cases hw : w = 0
  · rw [if_pos hw] at hr ⊢; rw [hr]; exact this
  · rw [if_neg hw] at hr ⊢; rw [hr]; exact this
end
