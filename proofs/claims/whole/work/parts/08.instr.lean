/-! each instruction: what the plain machine says of it is so of the machine -/
def HR (B : Nat) (cA : Nat → ClassId) (D : va_G) (s : State) (H : Heap) (locs : List Loc) (sh : SHP) (R M : MEM) : Prop := va_P D vwCl (wo B cA sh R M) H ∧ va_S (Bq B) s.heap H locs ∧ H.size = B + sh.length ∧ RN sh R M
def WG (p : Program) (l : Launch) (e : Env) (Rm : Room) (s : State) (mm : MethodId) (args : Array Value) (below : List Frame) (meth : Method) (c : Code) (Qw : State → Prop) (B : Nat) (cA : Nat → ClassId) (ex : Nat → Nat) (D : va_G) (nL mc ms : Nat) (pc : Nat) : NXT := fun ls st sh R M cb sb => ∀ (H : Heap) (locs : List Loc) (cells slots : Nat) (lsA : Array Slot), HR B cA D s H locs sh R M → LR B ex nL lsA ls → SQ st → cells + cb ≤ mc → slots + sb ≤ ms → W p l e Rm s mm args below meth c H locs cells slots Qw (F0 mm pc lsA (st.map (cv B ex)))
def TBg : List Cond := lw_tbl.filter goodWord
theorem map_cv_cons (B : Nat) (ex : Nat → Nat) (v : AV) (s : List AV) : (v :: s).map (cv B ex) = cv B ex v :: s.map (cv B ex) := rfl
theorem cats_sum (B : Nat) (ex : Nat → Nat) : ∀ s : List AV, ((s.map (cv B ex)).map fun v => v.category).sum ≤ cats s
  | [] => Nat.le_refl _
  | v :: s => by
    have ih := cats_sum B ex s
    have hv : (cv B ex v).category ≤ catv v := by
      by_cases h : v.1 = 1
      · unfold catv cv
        rw [h]
        exact Nat.le_refl _
      · have h1 := cv_cat (B := B) (ex := ex) v h
        have h2 : (cv B ex v).category = 1 := by
          rcases lv_cat (cv B ex v) with q | q
          · exact q
          · rw [q] at h1
            exact absurd h1 (by decide)
        rw [h2]
        unfold catv
        split <;> omega
    simp only [List.map_cons, List.sum_cons, cats]
    omega
theorem lt0_32 {x : Int} (hx : rngv 0 x) (h : 0 ≤ x) : ¬ Int32.ofInt x < 0 := by
  rw [← o_z, lt32 hx ⟨by omega, by omega⟩]
  omega
section
variable {p : Program} {l : Launch} {e : Env} {Rm : Room} {s : State} {mm : MethodId} {args : Array Value} {below : List Frame} {meth : Method} {c : Code} {Qw : State → Prop}
variable {B : Nat} {cA : Nat → ClassId} {ex : Nat → Nat} {D : va_G} {nL mc ms : Nat} {cc : ByteArray} {pc : Nat} {k : NXT} {ls st : List AV} {sh : SHP} {R M : MEM} {cb sb : Nat}
theorem sd_iconst (hx : p.tables.exec = Jvm.exec) (hb : c.code = cc) {n : Int} (hdg : decode cc pc = .ok (.iconst n, 1)) (hv : Int32.ofInt n = Int32.ofInt n) (hr : rngv 0 n) (hk : ∀ ls st sh R M cb sb, k ls st sh R M cb sb → WG p l e Rm s mm args below meth c Qw B cA ex D nL mc ms (pc + 1) ls st sh R M cb sb) (h : k ls (vi n :: st) sh R M cb sb) : WG p l e Rm s mm args below meth c Qw B cA ex D nL mc ms pc ls st sh R M cb sb := by
  intro H locs cells slots lsA hH hL hS h1 h2
  exact lv_iconst hx hb hdg hv (hk _ _ _ _ _ _ _ h H locs cells slots lsA hH hL (SQ.cons hr hS) h1 h2)
theorem sd_bipush (hx : p.tables.exec = Jvm.exec) (hb : c.code = cc) {n : Int} (hdg : decode cc pc = .ok (.bipush n, 2)) (hv : (Int8.ofInt n).toInt32 = Int32.ofInt n) (hr : rngv 0 n) (hk : ∀ ls st sh R M cb sb, k ls st sh R M cb sb → WG p l e Rm s mm args below meth c Qw B cA ex D nL mc ms (pc + 2) ls st sh R M cb sb) (h : k ls (vi n :: st) sh R M cb sb) : WG p l e Rm s mm args below meth c Qw B cA ex D nL mc ms pc ls st sh R M cb sb := by
  intro H locs cells slots lsA hH hL hS h1 h2
  exact lv_bipush hx hb hdg hv (hk _ _ _ _ _ _ _ h H locs cells slots lsA hH hL (SQ.cons hr hS) h1 h2)
theorem sd_sipush (hx : p.tables.exec = Jvm.exec) (hb : c.code = cc) {n : Int} (hdg : decode cc pc = .ok (.sipush n, 3)) (hv : (Int16.ofInt n).toInt32 = Int32.ofInt n) (hr : rngv 0 n) (hk : ∀ ls st sh R M cb sb, k ls st sh R M cb sb → WG p l e Rm s mm args below meth c Qw B cA ex D nL mc ms (pc + 3) ls st sh R M cb sb) (h : k ls (vi n :: st) sh R M cb sb) : WG p l e Rm s mm args below meth c Qw B cA ex D nL mc ms pc ls st sh R M cb sb := by
  intro H locs cells slots lsA hH hL hS h1 h2
  exact lv_sipush hx hb hdg hv (hk _ _ _ _ _ _ _ h H locs cells slots lsA hH hL (SQ.cons hr hS) h1 h2)
theorem sd_lconst (hx : p.tables.exec = Jvm.exec) (hb : c.code = cc) {n : Fin 2} (hdg : decode cc pc = .ok (.lconst n, 1)) (hk : ∀ ls st sh R M cb sb, k ls st sh R M cb sb → WG p l e Rm s mm args below meth c Qw B cA ex D nL mc ms (pc + 1) ls st sh R M cb sb) (h : k ls (vl (Int.ofNat n.val) :: st) sh R M cb sb) : WG p l e Rm s mm args below meth c Qw B cA ex D nL mc ms pc ls st sh R M cb sb := by
  intro H locs cells slots lsA hH hL hS h1 h2
  have hn : n.val < 2 := n.isLt
  refine lv_lconst (v := Int64.ofInt (Int.ofNat n.val)) hx hb hdg (by rfl) ?_
  exact hk _ _ _ _ _ _ _ h H locs cells slots lsA hH hL (SQ.cons (show rngv 1 ((n.val : Nat) : Int) from ⟨by omega, by omega⟩) hS) h1 h2
theorem sd_iload (hx : p.tables.exec = Jvm.exec) (hb : c.code = cc) {i : Nat} (hdg : decode cc pc = .ok (.iload i, 2)) (hk : ∀ ls st sh R M cb sb, k ls st sh R M cb sb → WG p l e Rm s mm args below meth c Qw B cA ex D nL mc ms (pc + 2) ls st sh R M cb sb) (h0 : gI (lgt ls i) fun x => k ls (vi x :: st) sh R M cb sb) : WG p l e Rm s mm args below meth c Qw B cA ex D nL mc ms pc ls st sh R M cb sb := by
  obtain ⟨x, hx1, h⟩ := gI_inv h0
  intro H locs cells slots lsA hH hL hS h1 h2
  obtain ⟨g1, g2, -⟩ := hL.get (i := i) (by rw [hx1]; simp)
  rw [hx1] at g1 g2
  exact lv_iload hx hb hdg g1 (hk _ _ _ _ _ _ _ h H locs cells slots lsA hH hL (SQ.cons g2 hS) h1 h2)
theorem sd_iload_n (hx : p.tables.exec = Jvm.exec) (hb : c.code = cc) {i : Fin 4} (hdg : decode cc pc = .ok (.iload_n i, 1)) (hk : ∀ ls st sh R M cb sb, k ls st sh R M cb sb → WG p l e Rm s mm args below meth c Qw B cA ex D nL mc ms (pc + 1) ls st sh R M cb sb) (h0 : gI (lgt ls i.val) fun x => k ls (vi x :: st) sh R M cb sb) : WG p l e Rm s mm args below meth c Qw B cA ex D nL mc ms pc ls st sh R M cb sb := by
  obtain ⟨x, hx1, h⟩ := gI_inv h0
  intro H locs cells slots lsA hH hL hS h1 h2
  obtain ⟨g1, g2, -⟩ := hL.get (i := i.val) (by rw [hx1]; simp)
  rw [hx1] at g1 g2
  exact lv_iload_n hx hb hdg rfl g1 (hk _ _ _ _ _ _ _ h H locs cells slots lsA hH hL (SQ.cons g2 hS) h1 h2)
theorem sd_lload (hx : p.tables.exec = Jvm.exec) (hb : c.code = cc) {i : Nat} (hdg : decode cc pc = .ok (.lload i, 2)) (hk : ∀ ls st sh R M cb sb, k ls st sh R M cb sb → WG p l e Rm s mm args below meth c Qw B cA ex D nL mc ms (pc + 2) ls st sh R M cb sb) (h0 : gL (lgt ls i) fun x => k ls (vl x :: st) sh R M cb sb) : WG p l e Rm s mm args below meth c Qw B cA ex D nL mc ms pc ls st sh R M cb sb := by
  obtain ⟨x, hx1, h⟩ := gL_inv h0
  intro H locs cells slots lsA hH hL hS h1 h2
  obtain ⟨g1, g2, -⟩ := hL.get (i := i) (by rw [hx1]; simp)
  rw [hx1] at g1 g2
  exact lv_lload hx hb hdg g1 (hk _ _ _ _ _ _ _ h H locs cells slots lsA hH hL (SQ.cons g2 hS) h1 h2)
theorem sd_lload_n (hx : p.tables.exec = Jvm.exec) (hb : c.code = cc) {i : Fin 4} (hdg : decode cc pc = .ok (.lload_n i, 1)) (hk : ∀ ls st sh R M cb sb, k ls st sh R M cb sb → WG p l e Rm s mm args below meth c Qw B cA ex D nL mc ms (pc + 1) ls st sh R M cb sb) (h0 : gL (lgt ls i.val) fun x => k ls (vl x :: st) sh R M cb sb) : WG p l e Rm s mm args below meth c Qw B cA ex D nL mc ms pc ls st sh R M cb sb := by
  obtain ⟨x, hx1, h⟩ := gL_inv h0
  intro H locs cells slots lsA hH hL hS h1 h2
  obtain ⟨g1, g2, -⟩ := hL.get (i := i.val) (by rw [hx1]; simp)
  rw [hx1] at g1 g2
  exact lv_lload_n hx hb hdg rfl g1 (hk _ _ _ _ _ _ _ h H locs cells slots lsA hH hL (SQ.cons g2 hS) h1 h2)
theorem sd_aload (hx : p.tables.exec = Jvm.exec) (hb : c.code = cc) {i : Nat} (hdg : decode cc pc = .ok (.aload i, 2)) (hk : ∀ ls st sh R M cb sb, k ls st sh R M cb sb → WG p l e Rm s mm args below meth c Qw B cA ex D nL mc ms (pc + 2) ls st sh R M cb sb) (h0 : gR (lgt ls i) fun v => k ls (v :: st) sh R M cb sb) : WG p l e Rm s mm args below meth c Qw B cA ex D nL mc ms pc ls st sh R M cb sb := by
  obtain ⟨x, ⟨hx1, h⟩ | ⟨hx1, h⟩⟩ := gR_inv h0
  · intro H locs cells slots lsA hH hL hS h1 h2
    obtain ⟨g1, g2, -⟩ := hL.get (i := i) (by rw [hx1]; simp)
    rw [hx1] at g1 g2
    have hh := hk _ _ _ _ _ _ _ h H locs cells slots lsA hH hL (SQ.cons g2 hS) h1 h2
    rw [map_cv_cons] at hh
    have e1 : cv B ex (2, x) = rv B x := rfl
    rw [e1] at hh g1
    unfold rv at hh g1
    by_cases hx0 : x < 0
    · rw [if_pos hx0] at hh g1
      exact lv_aloadN hx hb hdg g1 hh
    · rw [if_neg hx0] at hh g1
      exact lv_aload hx hb hdg g1 hh
  · intro H locs cells slots lsA hH hL hS h1 h2
    obtain ⟨g1, g2, -⟩ := hL.get (i := i) (by rw [hx1]; simp)
    rw [hx1] at g1 g2
    exact lv_aload hx hb hdg g1 (hk _ _ _ _ _ _ _ h H locs cells slots lsA hH hL (SQ.cons g2 hS) h1 h2)
theorem sd_aload_n (hx : p.tables.exec = Jvm.exec) (hb : c.code = cc) {i : Fin 4} (hdg : decode cc pc = .ok (.aload_n i, 1)) (hk : ∀ ls st sh R M cb sb, k ls st sh R M cb sb → WG p l e Rm s mm args below meth c Qw B cA ex D nL mc ms (pc + 1) ls st sh R M cb sb) (h0 : gR (lgt ls i.val) fun v => k ls (v :: st) sh R M cb sb) : WG p l e Rm s mm args below meth c Qw B cA ex D nL mc ms pc ls st sh R M cb sb := by
  obtain ⟨x, ⟨hx1, h⟩ | ⟨hx1, h⟩⟩ := gR_inv h0
  · intro H locs cells slots lsA hH hL hS h1 h2
    obtain ⟨g1, g2, -⟩ := hL.get (i := i.val) (by rw [hx1]; simp)
    rw [hx1] at g1 g2
    have hh := hk _ _ _ _ _ _ _ h H locs cells slots lsA hH hL (SQ.cons g2 hS) h1 h2
    rw [map_cv_cons] at hh
    have e1 : cv B ex (2, x) = rv B x := rfl
    rw [e1] at hh g1
    unfold rv at hh g1
    by_cases hx0 : x < 0
    · rw [if_pos hx0] at hh g1
      exact lv_aload_nN hx hb hdg rfl g1 hh
    · rw [if_neg hx0] at hh g1
      exact lv_aload_n hx hb hdg rfl g1 hh
  · intro H locs cells slots lsA hH hL hS h1 h2
    obtain ⟨g1, g2, -⟩ := hL.get (i := i.val) (by rw [hx1]; simp)
    rw [hx1] at g1 g2
    exact lv_aload_n hx hb hdg rfl g1 (hk _ _ _ _ _ _ _ h H locs cells slots lsA hH hL (SQ.cons g2 hS) h1 h2)
theorem sd_istore (hx : p.tables.exec = Jvm.exec) (hb : c.code = cc) {i : Nat} (hdg : decode cc pc = .ok (.istore i, 2)) (hi : i < nL) (hk : ∀ ls st sh R M cb sb, k ls st sh R M cb sb → WG p l e Rm s mm args below meth c Qw B cA ex D nL mc ms (pc + 2) ls st sh R M cb sb) (h0 : pI st fun x t => k (lst1 ls i (vi x)) t sh R M cb sb) : WG p l e Rm s mm args below meth c Qw B cA ex D nL mc ms pc ls st sh R M cb sb := by
  obtain ⟨x, t, rfl, h⟩ := pI_inv h0
  intro H locs cells slots lsA hH hL hS h1 h2
  refine lv_istore hx hb hdg hL.1 hi rfl (fun ls' hl' => ?_)
  exact hk _ _ _ _ _ _ _ h H locs cells slots ls' hH (LR.st1 hL.2.1 hL.2.2 hi hS.hd hl') hS.tl h1 h2
theorem sd_istore_n (hx : p.tables.exec = Jvm.exec) (hb : c.code = cc) {i : Fin 4} (hdg : decode cc pc = .ok (.istore_n i, 1)) (hi : i.val < nL) (hk : ∀ ls st sh R M cb sb, k ls st sh R M cb sb → WG p l e Rm s mm args below meth c Qw B cA ex D nL mc ms (pc + 1) ls st sh R M cb sb) (h0 : pI st fun x t => k (lst1 ls i.val (vi x)) t sh R M cb sb) : WG p l e Rm s mm args below meth c Qw B cA ex D nL mc ms pc ls st sh R M cb sb := by
  obtain ⟨x, t, rfl, h⟩ := pI_inv h0
  intro H locs cells slots lsA hH hL hS h1 h2
  refine lv_istore_n hx hb hdg rfl hL.1 hi rfl (fun ls' hl' => ?_)
  exact hk _ _ _ _ _ _ _ h H locs cells slots ls' hH (LR.st1 hL.2.1 hL.2.2 hi hS.hd hl') hS.tl h1 h2
theorem sd_lstore (hx : p.tables.exec = Jvm.exec) (hb : c.code = cc) {i : Nat} (hdg : decode cc pc = .ok (.lstore i, 2)) (hi : i + 1 < nL) (hk : ∀ ls st sh R M cb sb, k ls st sh R M cb sb → WG p l e Rm s mm args below meth c Qw B cA ex D nL mc ms (pc + 2) ls st sh R M cb sb) (h0 : pL st fun x t => k (lst2 ls i (vl x)) t sh R M cb sb) : WG p l e Rm s mm args below meth c Qw B cA ex D nL mc ms pc ls st sh R M cb sb := by
  obtain ⟨x, t, rfl, h⟩ := pL_inv h0
  intro H locs cells slots lsA hH hL hS h1 h2
  refine lv_lstore hx hb hdg hL.1 hi rfl (fun ls' hl' => ?_)
  exact hk _ _ _ _ _ _ _ h H locs cells slots ls' hH (LR.st2 hL.2.1 hL.2.2 hi hS.hd hl') hS.tl h1 h2
theorem sd_lstore_n (hx : p.tables.exec = Jvm.exec) (hb : c.code = cc) {i : Fin 4} (hdg : decode cc pc = .ok (.lstore_n i, 1)) (hi : i.val + 1 < nL) (hk : ∀ ls st sh R M cb sb, k ls st sh R M cb sb → WG p l e Rm s mm args below meth c Qw B cA ex D nL mc ms (pc + 1) ls st sh R M cb sb) (h0 : pL st fun x t => k (lst2 ls i.val (vl x)) t sh R M cb sb) : WG p l e Rm s mm args below meth c Qw B cA ex D nL mc ms pc ls st sh R M cb sb := by
  obtain ⟨x, t, rfl, h⟩ := pL_inv h0
  intro H locs cells slots lsA hH hL hS h1 h2
  refine lv_lstore_n hx hb hdg rfl hL.1 hi rfl (fun ls' hl' => ?_)
  exact hk _ _ _ _ _ _ _ h H locs cells slots ls' hH (LR.st2 hL.2.1 hL.2.2 hi hS.hd hl') hS.tl h1 h2
theorem sd_astore (hx : p.tables.exec = Jvm.exec) (hb : c.code = cc) {i : Nat} (hdg : decode cc pc = .ok (.astore i, 2)) (hi : i < nL) (hk : ∀ ls st sh R M cb sb, k ls st sh R M cb sb → WG p l e Rm s mm args below meth c Qw B cA ex D nL mc ms (pc + 2) ls st sh R M cb sb) (h0 : pR st fun x t => k (lst1 ls i (vr x)) t sh R M cb sb) : WG p l e Rm s mm args below meth c Qw B cA ex D nL mc ms pc ls st sh R M cb sb := by
  obtain ⟨x, t, rfl, h⟩ := pR_inv h0
  intro H locs cells slots lsA hH hL hS h1 h2
  have key : ∀ ls', lv_has ls' nL ((i, rv B x) :: (lo B ex 0 ls).filter (fun q => !(q.1 == i) && !(q.1 + 1 == i && q.2.category == 2))) → W p l e Rm s mm args below meth c H locs cells slots Qw (F0 mm (pc + 2) ls' (t.map (cv B ex))) := fun ls' hl' =>
    hk _ _ _ _ _ _ _ h H locs cells slots ls' hH (LR.st1 (v := vr x) hL.2.1 hL.2.2 hi hS.hd hl') hS.tl h1 h2
  rw [map_cv_cons]
  have e1 : cv B ex (2, x) = rv B x := rfl
  rw [e1]
  unfold rv at key ⊢
  by_cases hx0 : x < 0
  · rw [if_pos hx0] at key ⊢
    exact lv_astoreN hx hb hdg hL.1 hi rfl key
  · rw [if_neg hx0] at key ⊢
    exact lv_astore hx hb hdg hL.1 hi rfl key
theorem sd_astore_n (hx : p.tables.exec = Jvm.exec) (hb : c.code = cc) {i : Fin 4} (hdg : decode cc pc = .ok (.astore_n i, 1)) (hi : i.val < nL) (hk : ∀ ls st sh R M cb sb, k ls st sh R M cb sb → WG p l e Rm s mm args below meth c Qw B cA ex D nL mc ms (pc + 1) ls st sh R M cb sb) (h0 : pR st fun x t => k (lst1 ls i.val (vr x)) t sh R M cb sb) : WG p l e Rm s mm args below meth c Qw B cA ex D nL mc ms pc ls st sh R M cb sb := by
  obtain ⟨x, t, rfl, h⟩ := pR_inv h0
  intro H locs cells slots lsA hH hL hS h1 h2
  have key : ∀ ls', lv_has ls' nL ((i.val, rv B x) :: (lo B ex 0 ls).filter (fun q => !(q.1 == i.val) && !(q.1 + 1 == i.val && q.2.category == 2))) → W p l e Rm s mm args below meth c H locs cells slots Qw (F0 mm (pc + 1) ls' (t.map (cv B ex))) := fun ls' hl' =>
    hk _ _ _ _ _ _ _ h H locs cells slots ls' hH (LR.st1 (v := vr x) hL.2.1 hL.2.2 hi hS.hd hl') hS.tl h1 h2
  rw [map_cv_cons]
  have e1 : cv B ex (2, x) = rv B x := rfl
  rw [e1]
  unfold rv at key ⊢
  by_cases hx0 : x < 0
  · rw [if_pos hx0] at key ⊢
    exact lv_astore_nN hx hb hdg rfl hL.1 hi rfl key
  · rw [if_neg hx0] at key ⊢
    exact lv_astore_n hx hb hdg rfl hL.1 hi rfl key
theorem sd_iinc (hx : p.tables.exec = Jvm.exec) (hb : c.code = cc) {i : Nat} {d : Int} (hdg : decode cc pc = .ok (.iinc i d, 3)) (hk : ∀ ls st sh R M cb sb, k ls st sh R M cb sb → WG p l e Rm s mm args below meth c Qw B cA ex D nL mc ms (pc + 3) ls st sh R M cb sb) (h0 : gI (lgt ls i) fun x => k (lst1 ls i (vi (iadd x d))) st sh R M cb sb) : WG p l e Rm s mm args below meth c Qw B cA ex D nL mc ms pc ls st sh R M cb sb := by
  obtain ⟨x, hx1, h⟩ := gI_inv h0
  intro H locs cells slots lsA hH hL hS h1 h2
  obtain ⟨-, g2, g3⟩ := hL.get (i := i) (by rw [hx1]; simp)
  have hm : (i, Value.int (Int32.ofInt x)) ∈ lo B ex 0 ls := (lo_mem ls 0 _).mpr ⟨i, lgt ls i, lgt_get ls i (by rw [hx1]; simp), by rw [hx1]; simp, by rw [hx1, Nat.zero_add]; rfl⟩
  obtain ⟨kk, hkk⟩ := List.getElem?_of_mem hm
  refine lv_iinc hx hb hdg hL.1 hkk (o_add x d) g3 rfl (fun ls' hl' => ?_)
  exact hk _ _ _ _ _ _ _ h H locs cells slots ls' hH (LR.st1 (v := vi (iadd x d)) hL.2.1 hL.2.2 g3 (w32_rng _) hl') hS h1 h2
theorem sd_iadd (hx : p.tables.exec = Jvm.exec) (hb : c.code = cc) (hdg : decode cc pc = .ok (.iadd, 1)) (hk : ∀ ls st sh R M cb sb, k ls st sh R M cb sb → WG p l e Rm s mm args below meth c Qw B cA ex D nL mc ms (pc + 1) ls st sh R M cb sb) (h0 : pII st fun x y t => k ls (vi (iadd x y) :: t) sh R M cb sb) : WG p l e Rm s mm args below meth c Qw B cA ex D nL mc ms pc ls st sh R M cb sb := by
  obtain ⟨x, y, t, rfl, h⟩ := pII_inv h0
  intro H locs cells slots lsA hH hL hS h1 h2
  have hh := hk _ _ _ _ _ _ _ h H locs cells slots lsA hH hL (SQ.cons (w32_rng _) hS.tl.tl) h1 h2
  rw [map_cv_cons, show cv B ex (vi (iadd x y)) = .int (Int32.ofInt (iadd x y)) from rfl, ← o_add] at hh
  exact lv_iadd hx hb hdg hh
theorem sd_isub (hx : p.tables.exec = Jvm.exec) (hb : c.code = cc) (hdg : decode cc pc = .ok (.isub, 1)) (hk : ∀ ls st sh R M cb sb, k ls st sh R M cb sb → WG p l e Rm s mm args below meth c Qw B cA ex D nL mc ms (pc + 1) ls st sh R M cb sb) (h0 : pII st fun x y t => k ls (vi (isub x y) :: t) sh R M cb sb) : WG p l e Rm s mm args below meth c Qw B cA ex D nL mc ms pc ls st sh R M cb sb := by
  obtain ⟨x, y, t, rfl, h⟩ := pII_inv h0
  intro H locs cells slots lsA hH hL hS h1 h2
  have hh := hk _ _ _ _ _ _ _ h H locs cells slots lsA hH hL (SQ.cons (w32_rng _) hS.tl.tl) h1 h2
  rw [map_cv_cons, show cv B ex (vi (isub x y)) = .int (Int32.ofInt (isub x y)) from rfl, ← o_sub] at hh
  exact lv_isub hx hb hdg hh
theorem sd_imul (hx : p.tables.exec = Jvm.exec) (hb : c.code = cc) (hdg : decode cc pc = .ok (.imul, 1)) (hk : ∀ ls st sh R M cb sb, k ls st sh R M cb sb → WG p l e Rm s mm args below meth c Qw B cA ex D nL mc ms (pc + 1) ls st sh R M cb sb) (h0 : pII st fun x y t => k ls (vi (imul x y) :: t) sh R M cb sb) : WG p l e Rm s mm args below meth c Qw B cA ex D nL mc ms pc ls st sh R M cb sb := by
  obtain ⟨x, y, t, rfl, h⟩ := pII_inv h0
  intro H locs cells slots lsA hH hL hS h1 h2
  have hh := hk _ _ _ _ _ _ _ h H locs cells slots lsA hH hL (SQ.cons (w32_rng _) hS.tl.tl) h1 h2
  rw [map_cv_cons, show cv B ex (vi (imul x y)) = .int (Int32.ofInt (imul x y)) from rfl, ← o_mul] at hh
  exact lv_imul hx hb hdg hh
theorem sd_iand (hx : p.tables.exec = Jvm.exec) (hb : c.code = cc) (hdg : decode cc pc = .ok (.iand, 1)) (hk : ∀ ls st sh R M cb sb, k ls st sh R M cb sb → WG p l e Rm s mm args below meth c Qw B cA ex D nL mc ms (pc + 1) ls st sh R M cb sb) (h0 : pII st fun x y t => k ls (vi (iand x y) :: t) sh R M cb sb) : WG p l e Rm s mm args below meth c Qw B cA ex D nL mc ms pc ls st sh R M cb sb := by
  obtain ⟨x, y, t, rfl, h⟩ := pII_inv h0
  intro H locs cells slots lsA hH hL hS h1 h2
  have hh := hk _ _ _ _ _ _ _ h H locs cells slots lsA hH hL (SQ.cons (i32_rng _) hS.tl.tl) h1 h2
  rw [map_cv_cons, show cv B ex (vi (iand x y)) = .int (Int32.ofInt (iand x y)) from rfl, show Int32.ofInt (iand x y) = _ from oi32 _] at hh
  exact lv_iand hx hb hdg hh
theorem sd_ior (hx : p.tables.exec = Jvm.exec) (hb : c.code = cc) (hdg : decode cc pc = .ok (.ior, 1)) (hk : ∀ ls st sh R M cb sb, k ls st sh R M cb sb → WG p l e Rm s mm args below meth c Qw B cA ex D nL mc ms (pc + 1) ls st sh R M cb sb) (h0 : pII st fun x y t => k ls (vi (ior x y) :: t) sh R M cb sb) : WG p l e Rm s mm args below meth c Qw B cA ex D nL mc ms pc ls st sh R M cb sb := by
  obtain ⟨x, y, t, rfl, h⟩ := pII_inv h0
  intro H locs cells slots lsA hH hL hS h1 h2
  have hh := hk _ _ _ _ _ _ _ h H locs cells slots lsA hH hL (SQ.cons (i32_rng _) hS.tl.tl) h1 h2
  rw [map_cv_cons, show cv B ex (vi (ior x y)) = .int (Int32.ofInt (ior x y)) from rfl, show Int32.ofInt (ior x y) = _ from oi32 _] at hh
  exact lv_ior hx hb hdg hh
theorem sd_ishl (hx : p.tables.exec = Jvm.exec) (hb : c.code = cc) (hdg : decode cc pc = .ok (.ishl, 1)) (hk : ∀ ls st sh R M cb sb, k ls st sh R M cb sb → WG p l e Rm s mm args below meth c Qw B cA ex D nL mc ms (pc + 1) ls st sh R M cb sb) (h0 : pII st fun x y t => k ls (vi (ishl x y) :: t) sh R M cb sb) : WG p l e Rm s mm args below meth c Qw B cA ex D nL mc ms pc ls st sh R M cb sb := by
  obtain ⟨x, y, t, rfl, h⟩ := pII_inv h0
  intro H locs cells slots lsA hH hL hS h1 h2
  have hh := hk _ _ _ _ _ _ _ h H locs cells slots lsA hH hL (SQ.cons (i32_rng _) hS.tl.tl) h1 h2
  rw [map_cv_cons, show cv B ex (vi (ishl x y)) = .int (Int32.ofInt (ishl x y)) from rfl, show Int32.ofInt (ishl x y) = _ from oi32 _] at hh
  exact lv_ishl hx hb hdg hh
theorem sd_ishr (hx : p.tables.exec = Jvm.exec) (hb : c.code = cc) (hdg : decode cc pc = .ok (.ishr, 1)) (hk : ∀ ls st sh R M cb sb, k ls st sh R M cb sb → WG p l e Rm s mm args below meth c Qw B cA ex D nL mc ms (pc + 1) ls st sh R M cb sb) (h0 : pII st fun x y t => k ls (vi (ishr x y) :: t) sh R M cb sb) : WG p l e Rm s mm args below meth c Qw B cA ex D nL mc ms pc ls st sh R M cb sb := by
  obtain ⟨x, y, t, rfl, h⟩ := pII_inv h0
  intro H locs cells slots lsA hH hL hS h1 h2
  have hh := hk _ _ _ _ _ _ _ h H locs cells slots lsA hH hL (SQ.cons (i32_rng _) hS.tl.tl) h1 h2
  rw [map_cv_cons, show cv B ex (vi (ishr x y)) = .int (Int32.ofInt (ishr x y)) from rfl, show Int32.ofInt (ishr x y) = _ from oi32 _] at hh
  exact lv_ishr hx hb hdg hh
theorem irem_def (x y : Int) : Int32.ofInt (irem x y) = Int32.ofInt x - Int32.ofInt x / Int32.ofInt y * Int32.ofInt y := oi32 _
theorem sd_idiv (hx : p.tables.exec = Jvm.exec) (hb : c.code = cc) (hdg : decode cc pc = .ok (.idiv, 1)) (hk : ∀ ls st sh R M cb sb, k ls st sh R M cb sb → WG p l e Rm s mm args below meth c Qw B cA ex D nL mc ms (pc + 1) ls st sh R M cb sb) (h0 : pII st fun x y t => y ≠ 0 ∧ k ls (vi (idiv x y) :: t) sh R M cb sb) : WG p l e Rm s mm args below meth c Qw B cA ex D nL mc ms pc ls st sh R M cb sb := by
  obtain ⟨x, y, t, rfl, hy, h⟩ := pII_inv h0
  intro H locs cells slots lsA hH hL hS h1 h2
  have hh := hk _ _ _ _ _ _ _ h H locs cells slots lsA hH hL (SQ.cons (i32_rng _) hS.tl.tl) h1 h2
  rw [map_cv_cons, show cv B ex (vi (idiv x y)) = .int (Int32.ofInt (idiv x y)) from rfl, show Int32.ofInt (idiv x y) = _ from oi32 _] at hh
  refine lv_idiv hx hb hdg (fun z => hy ?_) hh
  rw [← o_z] at z
  exact (eq32 hS.hd ⟨by omega, by omega⟩).mp z
theorem sd_irem (hx : p.tables.exec = Jvm.exec) (hb : c.code = cc) (hdg : decode cc pc = .ok (.irem, 1)) (hk : ∀ ls st sh R M cb sb, k ls st sh R M cb sb → WG p l e Rm s mm args below meth c Qw B cA ex D nL mc ms (pc + 1) ls st sh R M cb sb) (h0 : pII st fun x y t => y ≠ 0 ∧ k ls (vi (irem x y) :: t) sh R M cb sb) : WG p l e Rm s mm args below meth c Qw B cA ex D nL mc ms pc ls st sh R M cb sb := by
  obtain ⟨x, y, t, rfl, hy, h⟩ := pII_inv h0
  intro H locs cells slots lsA hH hL hS h1 h2
  have hh := hk _ _ _ _ _ _ _ h H locs cells slots lsA hH hL (SQ.cons (i32_rng _) hS.tl.tl) h1 h2
  rw [map_cv_cons, show cv B ex (vi (irem x y)) = .int (Int32.ofInt (irem x y)) from rfl, show Int32.ofInt (irem x y) = _ from oi32 _] at hh
  refine lv_irem hx hb hdg (fun z => hy ?_) hh
  rw [← o_z] at z
  exact (eq32 hS.hd ⟨by omega, by omega⟩).mp z
theorem sd_ladd (hx : p.tables.exec = Jvm.exec) (hb : c.code = cc) (hdg : decode cc pc = .ok (.ladd, 1)) (hk : ∀ ls st sh R M cb sb, k ls st sh R M cb sb → WG p l e Rm s mm args below meth c Qw B cA ex D nL mc ms (pc + 1) ls st sh R M cb sb) (h0 : pLL st fun x y t => k ls (vl (ladd x y) :: t) sh R M cb sb) : WG p l e Rm s mm args below meth c Qw B cA ex D nL mc ms pc ls st sh R M cb sb := by
  obtain ⟨x, y, t, rfl, h⟩ := pLL_inv h0
  intro H locs cells slots lsA hH hL hS h1 h2
  have hh := hk _ _ _ _ _ _ _ h H locs cells slots lsA hH hL (SQ.cons (w64_rng _) hS.tl.tl) h1 h2
  rw [map_cv_cons, show cv B ex (vl (ladd x y)) = .long (Int64.ofInt (ladd x y)) from rfl, ← o_ladd] at hh
  exact lv_ladd hx hb hdg hh
theorem sd_lmul (hx : p.tables.exec = Jvm.exec) (hb : c.code = cc) (hdg : decode cc pc = .ok (.lmul, 1)) (hk : ∀ ls st sh R M cb sb, k ls st sh R M cb sb → WG p l e Rm s mm args below meth c Qw B cA ex D nL mc ms (pc + 1) ls st sh R M cb sb) (h0 : pLL st fun x y t => k ls (vl (lmul x y) :: t) sh R M cb sb) : WG p l e Rm s mm args below meth c Qw B cA ex D nL mc ms pc ls st sh R M cb sb := by
  obtain ⟨x, y, t, rfl, h⟩ := pLL_inv h0
  intro H locs cells slots lsA hH hL hS h1 h2
  have hh := hk _ _ _ _ _ _ _ h H locs cells slots lsA hH hL (SQ.cons (w64_rng _) hS.tl.tl) h1 h2
  rw [map_cv_cons, show cv B ex (vl (lmul x y)) = .long (Int64.ofInt (lmul x y)) from rfl, ← o_lmul] at hh
  exact lv_lmul hx hb hdg hh
theorem sd_lor (hx : p.tables.exec = Jvm.exec) (hb : c.code = cc) (hdg : decode cc pc = .ok (.lor, 1)) (hk : ∀ ls st sh R M cb sb, k ls st sh R M cb sb → WG p l e Rm s mm args below meth c Qw B cA ex D nL mc ms (pc + 1) ls st sh R M cb sb) (h0 : pLL st fun x y t => k ls (vl (lor x y) :: t) sh R M cb sb) : WG p l e Rm s mm args below meth c Qw B cA ex D nL mc ms pc ls st sh R M cb sb := by
  obtain ⟨x, y, t, rfl, h⟩ := pLL_inv h0
  intro H locs cells slots lsA hH hL hS h1 h2
  have hh := hk _ _ _ _ _ _ _ h H locs cells slots lsA hH hL (SQ.cons (i64_rng _) hS.tl.tl) h1 h2
  rw [map_cv_cons, show cv B ex (vl (lor x y)) = .long (Int64.ofInt (lor x y)) from rfl, show Int64.ofInt (lor x y) = _ from oi64 _] at hh
  exact lv_lor hx hb hdg hh
theorem sd_lshl (hx : p.tables.exec = Jvm.exec) (hb : c.code = cc) (hdg : decode cc pc = .ok (.lshl, 1)) (hk : ∀ ls st sh R M cb sb, k ls st sh R M cb sb → WG p l e Rm s mm args below meth c Qw B cA ex D nL mc ms (pc + 1) ls st sh R M cb sb) (h0 : pI st fun y t => pL t fun x t => k ls (vl (lshl x y) :: t) sh R M cb sb) : WG p l e Rm s mm args below meth c Qw B cA ex D nL mc ms pc ls st sh R M cb sb := by
  obtain ⟨y, t, rfl, h⟩ := pI_inv h0
  obtain ⟨x, t2, rfl, h⟩ := pL_inv h
  intro H locs cells slots lsA hH hL hS h1 h2
  have hh := hk _ _ _ _ _ _ _ h H locs cells slots lsA hH hL (SQ.cons (i64_rng _) hS.tl.tl) h1 h2
  rw [map_cv_cons, show cv B ex (vl (lshl x y)) = .long (Int64.ofInt (lshl x y)) from rfl, show Int64.ofInt (lshl x y) = _ from oi64 _] at hh
  exact lv_lshl hx hb hdg rfl hh
theorem sd_lcmp (hx : p.tables.exec = Jvm.exec) (hb : c.code = cc) (hdg : decode cc pc = .ok (.lcmp, 1)) (hk : ∀ ls st sh R M cb sb, k ls st sh R M cb sb → WG p l e Rm s mm args below meth c Qw B cA ex D nL mc ms (pc + 1) ls st sh R M cb sb) (h0 : pLL st fun x y t => k ls (vi (lcmp x y) :: t) sh R M cb sb) : WG p l e Rm s mm args below meth c Qw B cA ex D nL mc ms pc ls st sh R M cb sb := by
  obtain ⟨x, y, t, rfl, h⟩ := pLL_inv h0
  intro H locs cells slots lsA hH hL hS h1 h2
  have hy : rngv 1 y := hS.hd
  have hxx : rngv 1 x := hS.tl.hd
  have hr : rngv 0 (lcmp x y) := by
    unfold lcmp
    split
    · exact ⟨by omega, by omega⟩
    · split <;> exact ⟨by omega, by omega⟩
  have hh := hk _ _ _ _ _ _ _ h H locs cells slots lsA hH hL (SQ.cons hr hS.tl.tl) h1 h2
  have e1 : Int32.ofInt (lcmp x y) = lg_cmp (Int64.ofInt x) (Int64.ofInt y) := by
    have q1 : (Int64.ofInt y < Int64.ofInt x) ↔ y < x := by rw [Int64.lt_iff_toInt_lt, ti64 hy, ti64 hxx]
    have q2 : (Int64.ofInt x = Int64.ofInt y) ↔ x = y := by
      constructor
      · intro z
        have := congrArg Int64.toInt z
        rwa [ti64 hxx, ti64 hy] at this
      · intro z; rw [z]
    unfold lcmp lg_cmp
    simp only [q1, q2]
    split
    · rfl
    · split <;> rfl
  rw [map_cv_cons, show cv B ex (vi (lcmp x y)) = .int (Int32.ofInt (lcmp x y)) from rfl, e1] at hh
  exact W.lcmp hx hb hdg hh
theorem sd_i2l (hx : p.tables.exec = Jvm.exec) (hb : c.code = cc) (hdg : decode cc pc = .ok (.i2l, 1)) (hk : ∀ ls st sh R M cb sb, k ls st sh R M cb sb → WG p l e Rm s mm args below meth c Qw B cA ex D nL mc ms (pc + 1) ls st sh R M cb sb) (h0 : pI st fun x t => k ls (vl x :: t) sh R M cb sb) : WG p l e Rm s mm args below meth c Qw B cA ex D nL mc ms pc ls st sh R M cb sb := by
  obtain ⟨x, t, rfl, h⟩ := pI_inv h0
  intro H locs cells slots lsA hH hL hS h1 h2
  have hxx : rngv 0 x := hS.hd
  have hr : rngv 1 x := ⟨by have := hxx.1; omega, by have := hxx.2; omega⟩
  refine lv_i2l hx hb hdg (v := Int64.ofInt x) ?_ (hk _ _ _ _ _ _ _ h H locs cells slots lsA hH hL (SQ.cons hr hS.tl) h1 h2)
  apply Int64.toInt_inj.mp
  rw [Int32.toInt_toInt64, ti32 hxx, ti64 hr]
theorem sd_l2i (hx : p.tables.exec = Jvm.exec) (hb : c.code = cc) (hdg : decode cc pc = .ok (.l2i, 1)) (hk : ∀ ls st sh R M cb sb, k ls st sh R M cb sb → WG p l e Rm s mm args below meth c Qw B cA ex D nL mc ms (pc + 1) ls st sh R M cb sb) (h0 : pL st fun x t => k ls (vi (w32 x) :: t) sh R M cb sb) : WG p l e Rm s mm args below meth c Qw B cA ex D nL mc ms pc ls st sh R M cb sb := by
  obtain ⟨x, t, rfl, h⟩ := pL_inv h0
  intro H locs cells slots lsA hH hL hS h1 h2
  refine lv_l2i hx hb hdg (v := Int32.ofInt (w32 x)) ?_ (hk _ _ _ _ _ _ _ h H locs cells slots lsA hH hL (SQ.cons (w32_rng _) hS.tl) h1 h2)
  rw [ofw32, Int64.toInt32_ofInt]
theorem sd_i2b (hx : p.tables.exec = Jvm.exec) (hb : c.code = cc) (hdg : decode cc pc = .ok (.i2b, 1)) (hk : ∀ ls st sh R M cb sb, k ls st sh R M cb sb → WG p l e Rm s mm args below meth c Qw B cA ex D nL mc ms (pc + 1) ls st sh R M cb sb) (h0 : pI st fun x t => k ls (vi (w8 x) :: t) sh R M cb sb) : WG p l e Rm s mm args below meth c Qw B cA ex D nL mc ms pc ls st sh R M cb sb := by
  obtain ⟨x, t, rfl, h⟩ := pI_inv h0
  intro H locs cells slots lsA hH hL hS h1 h2
  exact lv_i2b hx hb hdg (v := Int32.ofInt (w8 x)) (oi32 _).symm (hk _ _ _ _ _ _ _ h H locs cells slots lsA hH hL (SQ.cons (i32_rng _) hS.tl) h1 h2)
theorem sd_i2c (hx : p.tables.exec = Jvm.exec) (hb : c.code = cc) (hdg : decode cc pc = .ok (.i2c, 1)) (hk : ∀ ls st sh R M cb sb, k ls st sh R M cb sb → WG p l e Rm s mm args below meth c Qw B cA ex D nL mc ms (pc + 1) ls st sh R M cb sb) (h0 : pI st fun x t => k ls (vi (w16 x) :: t) sh R M cb sb) : WG p l e Rm s mm args below meth c Qw B cA ex D nL mc ms pc ls st sh R M cb sb := by
  obtain ⟨x, t, rfl, h⟩ := pI_inv h0
  intro H locs cells slots lsA hH hL hS h1 h2
  exact lv_i2c hx hb hdg (v := Int32.ofInt (w16 x)) (oi32 _).symm (hk _ _ _ _ _ _ _ h H locs cells slots lsA hH hL (SQ.cons (i32_rng _) hS.tl) h1 h2)
theorem one1_cat (B : Nat) (ex : Nat → Nat) {v : AV} (h : one1 v = true) : (cv B ex v).category = 1 := by
  obtain ⟨t, x⟩ := v
  match t, h with
  | 0, _ => rfl
  | 2, _ => show (rv B x).category = 1; unfold rv; split <;> rfl
  | 4, _ => rfl
theorem sd_dup (hx : p.tables.exec = Jvm.exec) (hb : c.code = cc) {v : AV} {t : List AV} (hst : st = v :: t) (hdg : decode cc pc = .ok (.dup, 1)) (hk : ∀ ls st sh R M cb sb, k ls st sh R M cb sb → WG p l e Rm s mm args below meth c Qw B cA ex D nL mc ms (pc + 1) ls st sh R M cb sb) (h0 : bud (one1 v) (k ls (v :: v :: t) sh R M cb sb)) : WG p l e Rm s mm args below meth c Qw B cA ex D nL mc ms pc ls st sh R M cb sb := by
  obtain ⟨hb1, h⟩ := bud_inv h0
  subst hst
  intro H locs cells slots lsA hH hL hS h1 h2
  exact lv_dup hx hb hdg (one1_cat B ex hb1) (hk _ _ _ _ _ _ _ h H locs cells slots lsA hH hL (SQ.cons hS.hd hS) h1 h2)
theorem sd_dup2L (hx : p.tables.exec = Jvm.exec) (hb : c.code = cc) {x : Int} {t : List AV} (hst : st = (1, x) :: t) (hdg : decode cc pc = .ok (.dup2, 1)) (hk : ∀ ls st sh R M cb sb, k ls st sh R M cb sb → WG p l e Rm s mm args below meth c Qw B cA ex D nL mc ms (pc + 1) ls st sh R M cb sb) (h : k ls ((1, x) :: (1, x) :: t) sh R M cb sb) : WG p l e Rm s mm args below meth c Qw B cA ex D nL mc ms pc ls st sh R M cb sb := by
  subst hst
  intro H locs cells slots lsA hH hL hS h1 h2
  exact lv_dup2_2 hx hb hdg rfl (hk _ _ _ _ _ _ _ h H locs cells slots lsA hH hL (SQ.cons hS.hd hS) h1 h2)
theorem sd_dup2 (hx : p.tables.exec = Jvm.exec) (hb : c.code = cc) {v u : AV} {t : List AV} (hst : st = v :: u :: t) (hdg : decode cc pc = .ok (.dup2, 1)) (hk : ∀ ls st sh R M cb sb, k ls st sh R M cb sb → WG p l e Rm s mm args below meth c Qw B cA ex D nL mc ms (pc + 1) ls st sh R M cb sb) (h0 : bud (one1 v && one1 u) (k ls (v :: u :: v :: u :: t) sh R M cb sb)) : WG p l e Rm s mm args below meth c Qw B cA ex D nL mc ms pc ls st sh R M cb sb := by
  obtain ⟨hb1, h⟩ := bud_inv h0
  subst hst
  rw [Bool.and_eq_true] at hb1
  intro H locs cells slots lsA hH hL hS h1 h2
  exact lv_dup2_11 hx hb hdg (one1_cat B ex hb1.1) (one1_cat B ex hb1.2) (hk _ _ _ _ _ _ _ h H locs cells slots lsA hH hL (SQ.cons hS.hd (SQ.cons hS.tl.hd hS)) h1 h2)
theorem sdgt {a b : Int32} : a > b ↔ b < a := Iff.rfl
theorem sdne {a b : Int32} : a ≠ b ↔ ¬ a = b := Iff.rfl
theorem sdnn {a b : Int32} : (¬ a ≠ b) ↔ a = b := Decidable.not_not
theorem sdge {a b : Int32} : a ≥ b ↔ ¬ a < b := Int32.not_lt.symm
theorem sdgn {a b : Int32} : (¬ a ≥ b) ↔ a < b := Int32.not_le
theorem sdle {a b : Int32} : a ≤ b ↔ ¬ b < a := Int32.not_lt.symm
theorem sdln {a b : Int32} : (¬ a ≤ b) ↔ b < a := Int32.not_le
theorem sd_if_eq (hx : p.tables.exec = Jvm.exec) (hb : c.code = cc) {off : Int} {tgt : Nat} {j : NXT} (hdg : decode cc pc = .ok (.ifCond .eq off, 3)) (ht : (pc : Int) + off = (tgt : Int)) (hk : ∀ ls st sh R M cb sb, k ls st sh R M cb sb → WG p l e Rm s mm args below meth c Qw B cA ex D nL mc ms (pc + 3) ls st sh R M cb sb) (hJ : ∀ ls st sh R M cb sb, j ls st sh R M cb sb → WG p l e Rm s mm args below meth c Qw B cA ex D nL mc ms tgt ls st sh R M cb sb) (h0 : pI st fun x t => cmpI .eq x 0 (j ls t sh R M cb sb) (k ls t sh R M cb sb)) : WG p l e Rm s mm args below meth c Qw B cA ex D nL mc ms pc ls st sh R M cb sb := by
  obtain ⟨x, t, rfl, h⟩ := pI_inv h0
  intro H locs cells slots lsA hH hL hS h1 h2
  have hy : rngv 0 0 := ⟨by omega, by omega⟩
  have hxx : rngv 0 x := hS.hd
  have hA := fun h => hJ _ _ _ _ _ _ _ h H locs cells slots lsA hH hL hS.tl h1 h2
  have hB := fun h => hk _ _ _ _ _ _ _ h H locs cells slots lsA hH hL hS.tl h1 h2
  have q : (Int32.ofInt x = 0) ↔ x = 0 := by rw [← o_z]; exact eq32 hxx hy
  simp only [cmpI] at h
  exact lv_if_eq hx hb hdg ht (fun z => hA (by rw [if_pos (q.mp z)] at h; exact h)) (fun z => hB (by rw [if_neg (fun w => z (q.mpr w))] at h; exact h))
theorem sd_if_ne (hx : p.tables.exec = Jvm.exec) (hb : c.code = cc) {off : Int} {tgt : Nat} {j : NXT} (hdg : decode cc pc = .ok (.ifCond .ne off, 3)) (ht : (pc : Int) + off = (tgt : Int)) (hk : ∀ ls st sh R M cb sb, k ls st sh R M cb sb → WG p l e Rm s mm args below meth c Qw B cA ex D nL mc ms (pc + 3) ls st sh R M cb sb) (hJ : ∀ ls st sh R M cb sb, j ls st sh R M cb sb → WG p l e Rm s mm args below meth c Qw B cA ex D nL mc ms tgt ls st sh R M cb sb) (h0 : pI st fun x t => cmpI .ne x 0 (j ls t sh R M cb sb) (k ls t sh R M cb sb)) : WG p l e Rm s mm args below meth c Qw B cA ex D nL mc ms pc ls st sh R M cb sb := by
  obtain ⟨x, t, rfl, h⟩ := pI_inv h0
  intro H locs cells slots lsA hH hL hS h1 h2
  have hy : rngv 0 0 := ⟨by omega, by omega⟩
  have hxx : rngv 0 x := hS.hd
  have hA := fun h => hJ _ _ _ _ _ _ _ h H locs cells slots lsA hH hL hS.tl h1 h2
  have hB := fun h => hk _ _ _ _ _ _ _ h H locs cells slots lsA hH hL hS.tl h1 h2
  have q : (Int32.ofInt x = 0) ↔ x = 0 := by rw [← o_z]; exact eq32 hxx hy
  simp only [cmpI] at h
  exact lv_if_ne hx hb hdg ht (fun z => hA (by rw [if_neg (fun w => (sdne.mp z) (q.mpr w))] at h; exact h)) (fun z => hB (by rw [if_pos (q.mp z)] at h; exact h))
theorem sd_if_lt (hx : p.tables.exec = Jvm.exec) (hb : c.code = cc) {off : Int} {tgt : Nat} {j : NXT} (hdg : decode cc pc = .ok (.ifCond .lt off, 3)) (ht : (pc : Int) + off = (tgt : Int)) (hk : ∀ ls st sh R M cb sb, k ls st sh R M cb sb → WG p l e Rm s mm args below meth c Qw B cA ex D nL mc ms (pc + 3) ls st sh R M cb sb) (hJ : ∀ ls st sh R M cb sb, j ls st sh R M cb sb → WG p l e Rm s mm args below meth c Qw B cA ex D nL mc ms tgt ls st sh R M cb sb) (h0 : pI st fun x t => cmpI .lt x 0 (j ls t sh R M cb sb) (k ls t sh R M cb sb)) : WG p l e Rm s mm args below meth c Qw B cA ex D nL mc ms pc ls st sh R M cb sb := by
  obtain ⟨x, t, rfl, h⟩ := pI_inv h0
  intro H locs cells slots lsA hH hL hS h1 h2
  have hy : rngv 0 0 := ⟨by omega, by omega⟩
  have hxx : rngv 0 x := hS.hd
  have hA := fun h => hJ _ _ _ _ _ _ _ h H locs cells slots lsA hH hL hS.tl h1 h2
  have hB := fun h => hk _ _ _ _ _ _ _ h H locs cells slots lsA hH hL hS.tl h1 h2
  have q : (Int32.ofInt x < 0) ↔ x < 0 := by rw [← o_z]; exact lt32 hxx hy
  simp only [cmpI] at h
  exact lv_if_lt hx hb hdg ht (fun z => hA (by rw [if_pos (q.mp z)] at h; exact h)) (fun z => hB (by rw [if_neg (fun w => z (q.mpr w))] at h; exact h))
theorem sd_if_ge (hx : p.tables.exec = Jvm.exec) (hb : c.code = cc) {off : Int} {tgt : Nat} {j : NXT} (hdg : decode cc pc = .ok (.ifCond .ge off, 3)) (ht : (pc : Int) + off = (tgt : Int)) (hk : ∀ ls st sh R M cb sb, k ls st sh R M cb sb → WG p l e Rm s mm args below meth c Qw B cA ex D nL mc ms (pc + 3) ls st sh R M cb sb) (hJ : ∀ ls st sh R M cb sb, j ls st sh R M cb sb → WG p l e Rm s mm args below meth c Qw B cA ex D nL mc ms tgt ls st sh R M cb sb) (h0 : pI st fun x t => cmpI .ge x 0 (j ls t sh R M cb sb) (k ls t sh R M cb sb)) : WG p l e Rm s mm args below meth c Qw B cA ex D nL mc ms pc ls st sh R M cb sb := by
  obtain ⟨x, t, rfl, h⟩ := pI_inv h0
  intro H locs cells slots lsA hH hL hS h1 h2
  have hy : rngv 0 0 := ⟨by omega, by omega⟩
  have hxx : rngv 0 x := hS.hd
  have hA := fun h => hJ _ _ _ _ _ _ _ h H locs cells slots lsA hH hL hS.tl h1 h2
  have hB := fun h => hk _ _ _ _ _ _ _ h H locs cells slots lsA hH hL hS.tl h1 h2
  have q : (Int32.ofInt x < 0) ↔ x < 0 := by rw [← o_z]; exact lt32 hxx hy
  simp only [cmpI] at h
  exact lv_if_ge hx hb hdg ht (fun z => hA (by rw [if_neg (fun w => (sdge.mp z) (q.mpr w))] at h; exact h)) (fun z => hB (by rw [if_pos (q.mp (sdgn.mp z))] at h; exact h))
theorem sd_if_gt (hx : p.tables.exec = Jvm.exec) (hb : c.code = cc) {off : Int} {tgt : Nat} {j : NXT} (hdg : decode cc pc = .ok (.ifCond .gt off, 3)) (ht : (pc : Int) + off = (tgt : Int)) (hk : ∀ ls st sh R M cb sb, k ls st sh R M cb sb → WG p l e Rm s mm args below meth c Qw B cA ex D nL mc ms (pc + 3) ls st sh R M cb sb) (hJ : ∀ ls st sh R M cb sb, j ls st sh R M cb sb → WG p l e Rm s mm args below meth c Qw B cA ex D nL mc ms tgt ls st sh R M cb sb) (h0 : pI st fun x t => cmpI .gt x 0 (j ls t sh R M cb sb) (k ls t sh R M cb sb)) : WG p l e Rm s mm args below meth c Qw B cA ex D nL mc ms pc ls st sh R M cb sb := by
  obtain ⟨x, t, rfl, h⟩ := pI_inv h0
  intro H locs cells slots lsA hH hL hS h1 h2
  have hy : rngv 0 0 := ⟨by omega, by omega⟩
  have hxx : rngv 0 x := hS.hd
  have hA := fun h => hJ _ _ _ _ _ _ _ h H locs cells slots lsA hH hL hS.tl h1 h2
  have hB := fun h => hk _ _ _ _ _ _ _ h H locs cells slots lsA hH hL hS.tl h1 h2
  have q : (0 < Int32.ofInt x) ↔ 0 < x := by rw [← o_z]; exact lt32 hy hxx
  simp only [cmpI] at h
  exact lv_if_gt hx hb hdg ht (fun z => hA (by rw [if_pos (q.mp (sdgt.mp z))] at h; exact h)) (fun z => hB (by rw [if_neg (fun w => z (sdgt.mpr (q.mpr w)))] at h; exact h))
theorem sd_if_le (hx : p.tables.exec = Jvm.exec) (hb : c.code = cc) {off : Int} {tgt : Nat} {j : NXT} (hdg : decode cc pc = .ok (.ifCond .le off, 3)) (ht : (pc : Int) + off = (tgt : Int)) (hk : ∀ ls st sh R M cb sb, k ls st sh R M cb sb → WG p l e Rm s mm args below meth c Qw B cA ex D nL mc ms (pc + 3) ls st sh R M cb sb) (hJ : ∀ ls st sh R M cb sb, j ls st sh R M cb sb → WG p l e Rm s mm args below meth c Qw B cA ex D nL mc ms tgt ls st sh R M cb sb) (h0 : pI st fun x t => cmpI .le x 0 (j ls t sh R M cb sb) (k ls t sh R M cb sb)) : WG p l e Rm s mm args below meth c Qw B cA ex D nL mc ms pc ls st sh R M cb sb := by
  obtain ⟨x, t, rfl, h⟩ := pI_inv h0
  intro H locs cells slots lsA hH hL hS h1 h2
  have hy : rngv 0 0 := ⟨by omega, by omega⟩
  have hxx : rngv 0 x := hS.hd
  have hA := fun h => hJ _ _ _ _ _ _ _ h H locs cells slots lsA hH hL hS.tl h1 h2
  have hB := fun h => hk _ _ _ _ _ _ _ h H locs cells slots lsA hH hL hS.tl h1 h2
  have q : (0 < Int32.ofInt x) ↔ 0 < x := by rw [← o_z]; exact lt32 hy hxx
  simp only [cmpI] at h
  exact lv_if_le hx hb hdg ht (fun z => hA (by rw [if_neg (fun w => (sdle.mp z) (q.mpr w))] at h; exact h)) (fun z => hB (by rw [if_pos (q.mp (sdln.mp z))] at h; exact h))
theorem sd_icmp_eq (hx : p.tables.exec = Jvm.exec) (hb : c.code = cc) {off : Int} {tgt : Nat} {j : NXT} (hdg : decode cc pc = .ok (.if_icmp .eq off, 3)) (ht : (pc : Int) + off = (tgt : Int)) (hk : ∀ ls st sh R M cb sb, k ls st sh R M cb sb → WG p l e Rm s mm args below meth c Qw B cA ex D nL mc ms (pc + 3) ls st sh R M cb sb) (hJ : ∀ ls st sh R M cb sb, j ls st sh R M cb sb → WG p l e Rm s mm args below meth c Qw B cA ex D nL mc ms tgt ls st sh R M cb sb) (h0 : pII st fun x y t => cmpI .eq x y (j ls t sh R M cb sb) (k ls t sh R M cb sb)) : WG p l e Rm s mm args below meth c Qw B cA ex D nL mc ms pc ls st sh R M cb sb := by
  obtain ⟨x, y, t, rfl, h⟩ := pII_inv h0
  intro H locs cells slots lsA hH hL hS h1 h2
  have hy : rngv 0 y := hS.hd
  have hxx : rngv 0 x := hS.tl.hd
  have hA := fun h => hJ _ _ _ _ _ _ _ h H locs cells slots lsA hH hL hS.tl.tl h1 h2
  have hB := fun h => hk _ _ _ _ _ _ _ h H locs cells slots lsA hH hL hS.tl.tl h1 h2
  have q : (Int32.ofInt x = Int32.ofInt y) ↔ x = y := eq32 hxx hy
  simp only [cmpI] at h
  exact lv_icmp_eq hx hb hdg ht (fun z => hA (by rw [if_pos (q.mp z)] at h; exact h)) (fun z => hB (by rw [if_neg (fun w => z (q.mpr w))] at h; exact h))
theorem sd_icmp_ne (hx : p.tables.exec = Jvm.exec) (hb : c.code = cc) {off : Int} {tgt : Nat} {j : NXT} (hdg : decode cc pc = .ok (.if_icmp .ne off, 3)) (ht : (pc : Int) + off = (tgt : Int)) (hk : ∀ ls st sh R M cb sb, k ls st sh R M cb sb → WG p l e Rm s mm args below meth c Qw B cA ex D nL mc ms (pc + 3) ls st sh R M cb sb) (hJ : ∀ ls st sh R M cb sb, j ls st sh R M cb sb → WG p l e Rm s mm args below meth c Qw B cA ex D nL mc ms tgt ls st sh R M cb sb) (h0 : pII st fun x y t => cmpI .ne x y (j ls t sh R M cb sb) (k ls t sh R M cb sb)) : WG p l e Rm s mm args below meth c Qw B cA ex D nL mc ms pc ls st sh R M cb sb := by
  obtain ⟨x, y, t, rfl, h⟩ := pII_inv h0
  intro H locs cells slots lsA hH hL hS h1 h2
  have hy : rngv 0 y := hS.hd
  have hxx : rngv 0 x := hS.tl.hd
  have hA := fun h => hJ _ _ _ _ _ _ _ h H locs cells slots lsA hH hL hS.tl.tl h1 h2
  have hB := fun h => hk _ _ _ _ _ _ _ h H locs cells slots lsA hH hL hS.tl.tl h1 h2
  have q : (Int32.ofInt x = Int32.ofInt y) ↔ x = y := eq32 hxx hy
  simp only [cmpI] at h
  exact lv_icmp_ne hx hb hdg ht (fun z => hA (by rw [if_neg (fun w => (sdne.mp z) (q.mpr w))] at h; exact h)) (fun z => hB (by rw [if_pos (q.mp z)] at h; exact h))
theorem sd_icmp_lt (hx : p.tables.exec = Jvm.exec) (hb : c.code = cc) {off : Int} {tgt : Nat} {j : NXT} (hdg : decode cc pc = .ok (.if_icmp .lt off, 3)) (ht : (pc : Int) + off = (tgt : Int)) (hk : ∀ ls st sh R M cb sb, k ls st sh R M cb sb → WG p l e Rm s mm args below meth c Qw B cA ex D nL mc ms (pc + 3) ls st sh R M cb sb) (hJ : ∀ ls st sh R M cb sb, j ls st sh R M cb sb → WG p l e Rm s mm args below meth c Qw B cA ex D nL mc ms tgt ls st sh R M cb sb) (h0 : pII st fun x y t => cmpI .lt x y (j ls t sh R M cb sb) (k ls t sh R M cb sb)) : WG p l e Rm s mm args below meth c Qw B cA ex D nL mc ms pc ls st sh R M cb sb := by
  obtain ⟨x, y, t, rfl, h⟩ := pII_inv h0
  intro H locs cells slots lsA hH hL hS h1 h2
  have hy : rngv 0 y := hS.hd
  have hxx : rngv 0 x := hS.tl.hd
  have hA := fun h => hJ _ _ _ _ _ _ _ h H locs cells slots lsA hH hL hS.tl.tl h1 h2
  have hB := fun h => hk _ _ _ _ _ _ _ h H locs cells slots lsA hH hL hS.tl.tl h1 h2
  have q : (Int32.ofInt x < Int32.ofInt y) ↔ x < y := lt32 hxx hy
  simp only [cmpI] at h
  exact lv_icmp_lt hx hb hdg ht (fun z => hA (by rw [if_pos (q.mp z)] at h; exact h)) (fun z => hB (by rw [if_neg (fun w => z (q.mpr w))] at h; exact h))
theorem sd_icmp_ge (hx : p.tables.exec = Jvm.exec) (hb : c.code = cc) {off : Int} {tgt : Nat} {j : NXT} (hdg : decode cc pc = .ok (.if_icmp .ge off, 3)) (ht : (pc : Int) + off = (tgt : Int)) (hk : ∀ ls st sh R M cb sb, k ls st sh R M cb sb → WG p l e Rm s mm args below meth c Qw B cA ex D nL mc ms (pc + 3) ls st sh R M cb sb) (hJ : ∀ ls st sh R M cb sb, j ls st sh R M cb sb → WG p l e Rm s mm args below meth c Qw B cA ex D nL mc ms tgt ls st sh R M cb sb) (h0 : pII st fun x y t => cmpI .ge x y (j ls t sh R M cb sb) (k ls t sh R M cb sb)) : WG p l e Rm s mm args below meth c Qw B cA ex D nL mc ms pc ls st sh R M cb sb := by
  obtain ⟨x, y, t, rfl, h⟩ := pII_inv h0
  intro H locs cells slots lsA hH hL hS h1 h2
  have hy : rngv 0 y := hS.hd
  have hxx : rngv 0 x := hS.tl.hd
  have hA := fun h => hJ _ _ _ _ _ _ _ h H locs cells slots lsA hH hL hS.tl.tl h1 h2
  have hB := fun h => hk _ _ _ _ _ _ _ h H locs cells slots lsA hH hL hS.tl.tl h1 h2
  have q : (Int32.ofInt x < Int32.ofInt y) ↔ x < y := lt32 hxx hy
  simp only [cmpI] at h
  exact lv_icmp_ge hx hb hdg ht (fun z => hA (by rw [if_neg (fun w => (sdge.mp z) (q.mpr w))] at h; exact h)) (fun z => hB (by rw [if_pos (q.mp (sdgn.mp z))] at h; exact h))
theorem sd_icmp_gt (hx : p.tables.exec = Jvm.exec) (hb : c.code = cc) {off : Int} {tgt : Nat} {j : NXT} (hdg : decode cc pc = .ok (.if_icmp .gt off, 3)) (ht : (pc : Int) + off = (tgt : Int)) (hk : ∀ ls st sh R M cb sb, k ls st sh R M cb sb → WG p l e Rm s mm args below meth c Qw B cA ex D nL mc ms (pc + 3) ls st sh R M cb sb) (hJ : ∀ ls st sh R M cb sb, j ls st sh R M cb sb → WG p l e Rm s mm args below meth c Qw B cA ex D nL mc ms tgt ls st sh R M cb sb) (h0 : pII st fun x y t => cmpI .gt x y (j ls t sh R M cb sb) (k ls t sh R M cb sb)) : WG p l e Rm s mm args below meth c Qw B cA ex D nL mc ms pc ls st sh R M cb sb := by
  obtain ⟨x, y, t, rfl, h⟩ := pII_inv h0
  intro H locs cells slots lsA hH hL hS h1 h2
  have hy : rngv 0 y := hS.hd
  have hxx : rngv 0 x := hS.tl.hd
  have hA := fun h => hJ _ _ _ _ _ _ _ h H locs cells slots lsA hH hL hS.tl.tl h1 h2
  have hB := fun h => hk _ _ _ _ _ _ _ h H locs cells slots lsA hH hL hS.tl.tl h1 h2
  have q : (Int32.ofInt y < Int32.ofInt x) ↔ y < x := lt32 hy hxx
  simp only [cmpI] at h
  exact lv_icmp_gt hx hb hdg ht (fun z => hA (by rw [if_pos (q.mp (sdgt.mp z))] at h; exact h)) (fun z => hB (by rw [if_neg (fun w => z (sdgt.mpr (q.mpr w)))] at h; exact h))
theorem sd_icmp_le (hx : p.tables.exec = Jvm.exec) (hb : c.code = cc) {off : Int} {tgt : Nat} {j : NXT} (hdg : decode cc pc = .ok (.if_icmp .le off, 3)) (ht : (pc : Int) + off = (tgt : Int)) (hk : ∀ ls st sh R M cb sb, k ls st sh R M cb sb → WG p l e Rm s mm args below meth c Qw B cA ex D nL mc ms (pc + 3) ls st sh R M cb sb) (hJ : ∀ ls st sh R M cb sb, j ls st sh R M cb sb → WG p l e Rm s mm args below meth c Qw B cA ex D nL mc ms tgt ls st sh R M cb sb) (h0 : pII st fun x y t => cmpI .le x y (j ls t sh R M cb sb) (k ls t sh R M cb sb)) : WG p l e Rm s mm args below meth c Qw B cA ex D nL mc ms pc ls st sh R M cb sb := by
  obtain ⟨x, y, t, rfl, h⟩ := pII_inv h0
  intro H locs cells slots lsA hH hL hS h1 h2
  have hy : rngv 0 y := hS.hd
  have hxx : rngv 0 x := hS.tl.hd
  have hA := fun h => hJ _ _ _ _ _ _ _ h H locs cells slots lsA hH hL hS.tl.tl h1 h2
  have hB := fun h => hk _ _ _ _ _ _ _ h H locs cells slots lsA hH hL hS.tl.tl h1 h2
  have q : (Int32.ofInt y < Int32.ofInt x) ↔ y < x := lt32 hy hxx
  simp only [cmpI] at h
  exact lv_icmp_le hx hb hdg ht (fun z => hA (by rw [if_neg (fun w => (sdle.mp z) (q.mpr w))] at h; exact h)) (fun z => hB (by rw [if_pos (q.mp (sdln.mp z))] at h; exact h))
theorem sd_goto (hx : p.tables.exec = Jvm.exec) (hb : c.code = cc) {off : Int} {tgt : Nat} {j : NXT} (hdg : decode cc pc = .ok (.goto off, 3)) (ht : (pc : Int) + off = (tgt : Int)) (hJ : ∀ ls st sh R M cb sb, j ls st sh R M cb sb → WG p l e Rm s mm args below meth c Qw B cA ex D nL mc ms tgt ls st sh R M cb sb) (h : j ls st sh R M cb sb) : WG p l e Rm s mm args below meth c Qw B cA ex D nL mc ms pc ls st sh R M cb sb := by
  intro H locs cells slots lsA hH hL hS h1 h2
  exact lv_goto hx hb hdg ht (hJ _ _ _ _ _ _ _ h H locs cells slots lsA hH hL hS h1 h2)
end
