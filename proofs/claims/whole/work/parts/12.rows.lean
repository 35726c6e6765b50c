/-! the classes; the link of each row; a walk is sound -/
def okTy (ty : FieldType) : Bool := match ty with
  | .int => true
  | .boolean => true
  | .long => true
  | .object _ => true
  | .array _ => true
  | _ => false
theorem okTy_dv (B : Nat) {ty : FieldType} (h : okTy ty = true) : defaultValue ty = fv B (tagT ty) (-1) 0 := by
  cases ty <;> first | rfl | cases h
theorem inT0 : ∀ w ∈ u_ws RX0 TX0 4, w ∈ TBg := by
  intro w hw
  have h : u_ws RX0 TX0 4 = [459, 461, 463, 465].filterMap (fun i => lw_tbl[i]?) := by decide +kernel
  have h2 : (u_ws RX0 TX0 4).all goodWord = true := by decide +kernel
  have h3 := List.all_eq_true.mp h2 w hw
  rw [h] at hw
  obtain ⟨i, -, hi⟩ := List.mem_filterMap.mp hw
  exact List.mem_filter.mpr ⟨List.mem_of_getElem? hi, h3⟩
theorem okT0 : ∀ j, j < 4 → okTy (tyX0 j) = true := by decide +kernel
theorem inT1 : ∀ w ∈ u_ws RX1 TX1 5, w ∈ TBg := by
  intro w hw
  have h : u_ws RX1 TX1 5 = [574, 576, 578, 580, 582].filterMap (fun i => lw_tbl[i]?) := by decide +kernel
  have h2 : (u_ws RX1 TX1 5).all goodWord = true := by decide +kernel
  have h3 := List.all_eq_true.mp h2 w hw
  rw [h] at hw
  obtain ⟨i, -, hi⟩ := List.mem_filterMap.mp hw
  exact List.mem_filter.mpr ⟨List.mem_of_getElem? hi, h3⟩
theorem okT1 : ∀ j, j < 5 → okTy (tyX1 j) = true := by decide +kernel
theorem inT2 : ∀ w ∈ u_ws RX2 TX2 10, w ∈ TBg := by
  intro w hw
  have h : u_ws RX2 TX2 10 = [540, 542, 544, 546, 548, 550, 552, 554, 556, 558].filterMap (fun i => lw_tbl[i]?) := by decide +kernel
  have h2 : (u_ws RX2 TX2 10).all goodWord = true := by decide +kernel
  have h3 := List.all_eq_true.mp h2 w hw
  rw [h] at hw
  obtain ⟨i, -, hi⟩ := List.mem_filterMap.mp hw
  exact List.mem_filter.mpr ⟨List.mem_of_getElem? hi, h3⟩
theorem okT2 : ∀ j, j < 10 → okTy (tyX2 j) = true := by decide +kernel
theorem inT3 : ∀ w ∈ u_ws RX3 TX3 2, w ∈ TBg := by
  intro w hw
  have h : u_ws RX3 TX3 2 = [519, 521].filterMap (fun i => lw_tbl[i]?) := by decide +kernel
  have h2 : (u_ws RX3 TX3 2).all goodWord = true := by decide +kernel
  have h3 := List.all_eq_true.mp h2 w hw
  rw [h] at hw
  obtain ⟨i, -, hi⟩ := List.mem_filterMap.mp hw
  exact List.mem_filter.mpr ⟨List.mem_of_getElem? hi, h3⟩
theorem okT3 : ∀ j, j < 2 → okTy (tyX3 j) = true := by decide +kernel
theorem inT4 : ∀ w ∈ u_ws RX4 TX4 19, w ∈ TBg := by
  intro w hw
  have h : u_ws RX4 TX4 19 = [220, 222, 224, 226, 228, 230, 232, 234, 236, 238, 240, 242, 244, 246, 248, 250, 252, 254, 256].filterMap (fun i => lw_tbl[i]?) := by decide +kernel
  have h2 : (u_ws RX4 TX4 19).all goodWord = true := by decide +kernel
  have h3 := List.all_eq_true.mp h2 w hw
  rw [h] at hw
  obtain ⟨i, -, hi⟩ := List.mem_filterMap.mp hw
  exact List.mem_filter.mpr ⟨List.mem_of_getElem? hi, h3⟩
theorem okT4 : ∀ j, j < 19 → okTy (tyX4 j) = true := by decide +kernel
theorem inT5 : ∀ w ∈ u_ws RX5 TX5 9, w ∈ TBg := by
  intro w hw
  have h : u_ws RX5 TX5 9 = [376, 378, 380, 382, 384, 386, 388, 390, 392].filterMap (fun i => lw_tbl[i]?) := by decide +kernel
  have h2 : (u_ws RX5 TX5 9).all goodWord = true := by decide +kernel
  have h3 := List.all_eq_true.mp h2 w hw
  rw [h] at hw
  obtain ⟨i, -, hi⟩ := List.mem_filterMap.mp hw
  exact List.mem_filter.mpr ⟨List.mem_of_getElem? hi, h3⟩
theorem okT5 : ∀ j, j < 9 → okTy (tyX5 j) = true := by decide +kernel
theorem inT6 : ∀ w ∈ u_ws RX6 TX6 2, w ∈ TBg := by
  intro w hw
  have h : u_ws RX6 TX6 2 = [503, 505].filterMap (fun i => lw_tbl[i]?) := by decide +kernel
  have h2 : (u_ws RX6 TX6 2).all goodWord = true := by decide +kernel
  have h3 := List.all_eq_true.mp h2 w hw
  rw [h] at hw
  obtain ⟨i, -, hi⟩ := List.mem_filterMap.mp hw
  exact List.mem_filter.mpr ⟨List.mem_of_getElem? hi, h3⟩
theorem okT6 : ∀ j, j < 2 → okTy (tyX6 j) = true := by decide +kernel
theorem inT7 : ∀ w ∈ u_ws RX7 TX7 11, w ∈ TBg := by
  intro w hw
  have h : u_ws RX7 TX7 11 = [606, 608, 610, 612, 614, 616, 618, 620, 622, 624, 626].filterMap (fun i => lw_tbl[i]?) := by decide +kernel
  have h2 : (u_ws RX7 TX7 11).all goodWord = true := by decide +kernel
  have h3 := List.all_eq_true.mp h2 w hw
  rw [h] at hw
  obtain ⟨i, -, hi⟩ := List.mem_filterMap.mp hw
  exact List.mem_filter.mpr ⟨List.mem_of_getElem? hi, h3⟩
theorem okT7 : ∀ j, j < 11 → okTy (tyX7 j) = true := by decide +kernel
theorem inT8 : ∀ w ∈ u_ws RX8 TX8 11, w ∈ TBg := by
  intro w hw
  have h : u_ws RX8 TX8 11 = [430, 432, 434, 436, 438, 440, 442, 444, 446, 448, 450].filterMap (fun i => lw_tbl[i]?) := by decide +kernel
  have h2 : (u_ws RX8 TX8 11).all goodWord = true := by decide +kernel
  have h3 := List.all_eq_true.mp h2 w hw
  rw [h] at hw
  obtain ⟨i, -, hi⟩ := List.mem_filterMap.mp hw
  exact List.mem_filter.mpr ⟨List.mem_of_getElem? hi, h3⟩
theorem okT8 : ∀ j, j < 11 → okTy (tyX8 j) = true := by decide +kernel
theorem inT9 : ∀ w ∈ u_ws RX9 TX9 11, w ∈ TBg := by
  intro w hw
  have h : u_ws RX9 TX9 11 = [334, 336, 338, 340, 342, 344, 346, 348, 350, 352, 354].filterMap (fun i => lw_tbl[i]?) := by decide +kernel
  have h2 : (u_ws RX9 TX9 11).all goodWord = true := by decide +kernel
  have h3 := List.all_eq_true.mp h2 w hw
  rw [h] at hw
  obtain ⟨i, -, hi⟩ := List.mem_filterMap.mp hw
  exact List.mem_filter.mpr ⟨List.mem_of_getElem? hi, h3⟩
theorem okT9 : ∀ j, j < 11 → okTy (tyX9 j) = true := by decide +kernel
theorem inT10 : ∀ w ∈ u_ws RX10 TX10 4, w ∈ TBg := by
  intro w hw
  have h : u_ws RX10 TX10 4 = [483, 485, 487, 489].filterMap (fun i => lw_tbl[i]?) := by decide +kernel
  have h2 : (u_ws RX10 TX10 4).all goodWord = true := by decide +kernel
  have h3 := List.all_eq_true.mp h2 w hw
  rw [h] at hw
  obtain ⟨i, -, hi⟩ := List.mem_filterMap.mp hw
  exact List.mem_filter.mpr ⟨List.mem_of_getElem? hi, h3⟩
theorem okT10 : ∀ j, j < 4 → okTy (tyX10 j) = true := by decide +kernel
theorem inT11 : ∀ w ∈ u_ws RX11 TX11 15, w ∈ TBg := by
  intro w hw
  have h : u_ws RX11 TX11 15 = [644, 646, 648, 650, 652, 654, 656, 658, 660, 662, 664, 666, 668, 670, 672].filterMap (fun i => lw_tbl[i]?) := by decide +kernel
  have h2 : (u_ws RX11 TX11 15).all goodWord = true := by decide +kernel
  have h3 := List.all_eq_true.mp h2 w hw
  rw [h] at hw
  obtain ⟨i, -, hi⟩ := List.mem_filterMap.mp hw
  exact List.mem_filter.mpr ⟨List.mem_of_getElem? hi, h3⟩
theorem okT11 : ∀ j, j < 15 → okTy (tyX11 j) = true := by decide +kernel
theorem inT12 : ∀ w ∈ u_ws RX12 TX12 74, w ∈ TBg := by
  intro w hw
  have h : u_ws RX12 TX12 74 = [1408, 1410, 1412, 1414, 1416, 1418, 1420, 1422, 1424, 1426, 1428, 1430, 1432, 1434, 1436, 1438, 1440, 1442, 1444, 1446, 1448, 1450, 1452, 1454, 1456, 1458, 1460, 1462, 1464, 1466, 1468, 1470, 1472, 1474, 1476, 1478, 1480, 1482, 1484, 1486, 1488, 1490, 1492, 1494, 1496, 1498, 1500, 1502, 1504, 1506, 1508, 1510, 1512, 1514, 1516, 1518, 1520, 1522, 1524, 1526, 1528, 1530, 1532, 1534, 1536, 1538, 1540, 1542, 1544, 1546, 1548, 1550, 1552, 1554].filterMap (fun i => lw_tbl[i]?) := by decide +kernel
  have h2 : (u_ws RX12 TX12 74).all goodWord = true := by decide +kernel
  have h3 := List.all_eq_true.mp h2 w hw
  rw [h] at hw
  obtain ⟨i, -, hi⟩ := List.mem_filterMap.mp hw
  exact List.mem_filter.mpr ⟨List.mem_of_getElem? hi, h3⟩
theorem okT12 : ∀ j, j < 74 → okTy (tyX12 j) = true := by decide +kernel
/-- what holds of each class of the table -/
def clsF (ci : Nat) (C : String) (T : u_T) (N : Nat) : Prop := nF ci = N ∧ (∀ w ∈ u_ws C T N, w ∈ TBg) ∧ (∀ k, k < N → parseFieldDescriptor (T k).2.2.1 = some (tyF ci k)) ∧ (∀ a, a < N → ∀ b, b < N → a ≠ b → (T a).2.1 ≠ (T b).2.1) ∧ (∀ j, j < N → okTy (tyF ci j) = true) ∧ ∀ j, ftag ci j = tagT (tyF ci j)
theorem cls_ok {ci : Nat} {C : String} {T : u_T} {N : Nat} (h : vwCl[ci]? = some (C, T, N)) (hc : ci < 13) : clsF ci C T N := by
  match ci, hc, h with
  | 0, _, h => cases h; exact ⟨rfl, inT0, tyX0_ok, nmX0, okT0, fun _ => rfl⟩
  | 1, _, h => cases h; exact ⟨rfl, inT1, tyX1_ok, nmX1, okT1, fun _ => rfl⟩
  | 2, _, h => cases h; exact ⟨rfl, inT2, tyX2_ok, nmX2, okT2, fun _ => rfl⟩
  | 3, _, h => cases h; exact ⟨rfl, inT3, tyX3_ok, nmX3, okT3, fun _ => rfl⟩
  | 4, _, h => cases h; exact ⟨rfl, inT4, tyX4_ok, nmX4, okT4, fun _ => rfl⟩
  | 5, _, h => cases h; exact ⟨rfl, inT5, tyX5_ok, nmX5, okT5, fun _ => rfl⟩
  | 6, _, h => cases h; exact ⟨rfl, inT6, tyX6_ok, nmX6, okT6, fun _ => rfl⟩
  | 7, _, h => cases h; exact ⟨rfl, inT7, tyX7_ok, nmX7, okT7, fun _ => rfl⟩
  | 8, _, h => cases h; exact ⟨rfl, inT8, tyX8_ok, nmX8, okT8, fun _ => rfl⟩
  | 9, _, h => cases h; exact ⟨rfl, inT9, tyX9_ok, nmX9, okT9, fun _ => rfl⟩
  | 10, _, h => cases h; exact ⟨rfl, inT10, tyX10_ok, nmX10, okT10, fun _ => rfl⟩
  | 11, _, h => cases h; exact ⟨rfl, inT11, tyX11_ok, nmX11, okT11, fun _ => rfl⟩
  | 12, _, h => cases h; exact ⟨rfl, inT12, tyX12_ok, nmX12, okT12, fun _ => rfl⟩
  | n + 13, hc, _ => omega
theorem tsw_imp {x : Int} {J J' : Nat → Prop} {d : Nat} (hd : J d → J' d) : ∀ (r : List Nat) (lo : Int), (∀ t, t ∈ r → J t → J' t) → tsw lo x J d r → tsw lo x J' d r
  | [], _, _, h => hd h
  | t :: r, lo, hr, h => by
    unfold tsw at h ⊢
    split
    · rename_i hx
      rw [if_pos hx] at h
      exact hr t List.mem_cons_self h
    · rename_i hx
      rw [if_neg hx] at h
      exact tsw_imp hd r (lo + 1) (fun t' ht => hr t' (List.mem_cons_of_mem _ ht)) h
theorem lsw_imp {x : Int} {J J' : Nat → Prop} {d : Nat} (hd : J d → J' d) : ∀ (ps : List (Int × Int)) (r : List Nat), (∀ t, t ∈ r → J t → J' t) → lsw x J d ps r → lsw x J' d ps r
  | [], _, _, h => by unfold lsw at h ⊢; exact hd h
  | _ :: _, [], _, h => by unfold lsw at h ⊢; exact hd h
  | (k, _) :: ps, t :: r, hr, h => by
    unfold lsw at h ⊢
    split
    · rename_i hx
      rw [if_pos hx] at h
      exact hr t List.mem_cons_self h
    · rename_i hx
      rw [if_neg hx] at h
      exact lsw_imp hd ps r (fun t' ht => hr t' (List.mem_cons_of_mem _ ht)) h
def strLB (own : String) (k : Nat) (r : List Nat) : Bool := wdq (pick r 7) (.methodLink own k yJ0_length_8abf5)
def strCB (own : String) (k : Nat) (r : List Nat) : Bool := wdq (pick r 7) (.methodLink own k yJ0_charAt_5068e)
def strIB (own : String) (k : Nat) (r : List Nat) : Bool := wdq (pick r 7) (.methodLink own k yJ0_indexOf_0f7a4)
theorem idxOf_rng (c : Int) : ∀ (l : List Int) (i : Int), 0 ≤ i → -1 ≤ idxOf c l i ∧ idxOf c l i < i + (l.length : Int) + 1
  | [], i, hi => ⟨Int.le_refl _, by show (-1 : Int) < _; simp; omega⟩
  | y :: t, i, hi => by
    unfold idxOf
    obtain ⟨h1, h2⟩ := idxOf_rng c t (i + 1) (by omega)
    rw [List.length_cons]
    split
    · exact ⟨by omega, by omega⟩
    · exact ⟨h1, by omega⟩
theorem ix_eq {i : Nat} {c : Int} {x8 : Int32} (h : ∀ k, k < (strB (i + 1)).length → (chB i k = x8 ↔ c = (strB (i + 1)).getD k 0)) : ∀ (n k : Nat), k + n = (strB (i + 1)).length → ixB i x8 n k = Int32.ofInt (idxOf c ((strB (i + 1)).drop k) k)
  | 0, k, hk => by
    rw [List.drop_eq_nil_iff.mpr (by omega)]
    rfl
  | n + 1, k, hk => by
    have hlt : k < (strB (i + 1)).length := by omega
    rw [List.drop_eq_getElem_cons hlt]
    have e1 : (strB (i + 1)).getD k 0 = (strB (i + 1))[k] := by rw [List.getD_eq_getElem?_getD, List.getElem?_eq_getElem hlt]; rfl
    have hq := h k hlt
    rw [e1] at hq
    unfold ixB idxOf
    by_cases hc : c = (strB (i + 1))[k]
    · rw [if_pos (hq.mpr hc), if_pos hc]
      rfl
    · rw [if_neg (fun z => hc (hq.mp z)), if_neg hc]
      have := ix_eq h n (k + 1) (by omega)
      rw [this]
      rfl
theorem i8_tab : ∀ c, c < 256 → (Int32.ofNat c).toInt8.toInt32 = if c < 128 then Int32.ofNat c else Int32.ofInt ((c : Int) - 256) := by decide +kernel
theorem ixJ_eq {i : Nat} (hi : i < 2) {c : Int} (hc : rngv 0 c) : ixJ i (Int32.ofInt c) = Int32.ofInt (idxOf c (strB (i + 1)) 0) := by
  have hlen := lens_lt i hi
  have hch := chB_255 i hi
  unfold ixJ
  have e0 : (Int32.ofInt c < 0) ↔ c < 0 := by rw [← o_z, lt32 hc ⟨by omega, by omega⟩]
  have e255 : (255 < Int32.ofInt c) ↔ 255 < c := by
    rw [show (255 : Int32) = Int32.ofInt 255 from rfl, lt32 ⟨by omega, by omega⟩ hc]
  by_cases h : 0 ≤ c ∧ c < 256
  · rw [if_neg (by rw [if_neg (by rw [e0]; omega), if_neg (by rw [e255]; omega)]; decide)]
    obtain ⟨cn, rfl⟩ := Int.eq_ofNat_of_zero_le h.1
    have ht := i8_tab cn (by omega)
    rw [show Int32.ofInt (cn : Int) = Int32.ofNat cn from rfl, ht, ← hlen.2.1]
    rw [ix_eq (c := (cn : Int)) (fun k hk => ?_) (strB (i + 1)).length 0 (by omega)]
    · rfl
    · obtain ⟨-, -, g3, g4, g5, g6⟩ := hch k (by rw [← hlen.2.1]; exact hk)
      rw [g3]
      split
      · rename_i h1
        constructor
        · intro z
          exact ((eq32 ⟨by omega, by omega⟩ ⟨by omega, by omega⟩).mp z).symm
        · intro z
          rw [← z]
          rfl
      · rename_i h1
        constructor
        · intro z
          have := (eq32 (x := (strB (i + 1)).getD k 0) (y := (cn : Int) - 256) ⟨by omega, by omega⟩ ⟨by omega, by omega⟩).mp z
          omega
        · intro z
          omega
  · have hz : (if Int32.ofInt c < 0 then (0 : Int32) else if 255 < Int32.ofInt c then 0 else 1) = 0 := by
      by_cases h1 : c < 0
      · rw [if_pos (e0.mpr h1)]
      · rw [if_neg (fun z => h1 (e0.mp z)), if_pos (e255.mpr (by omega))]
    rw [if_pos hz]
    have none : ∀ (l : List Int) (j : Int), (∀ y ∈ l, c ≠ y) → idxOf c l j = -1 := by
      intro l
      induction l with
      | nil => intro j _; rfl
      | cons y t ih =>
        intro j hy
        unfold idxOf
        rw [if_neg (hy y List.mem_cons_self)]
        exact ih _ (fun z hz => hy z (List.mem_cons_of_mem _ hz))
    rw [none _ _ (fun y hy => ?_)]
    · rfl
    · obtain ⟨k, hk⟩ := List.getElem?_of_mem hy
      have hlt := (List.getElem?_eq_some_iff.mp hk).1
      obtain ⟨-, -, -, -, g5, g6⟩ := hch k (by rw [← hlen.2.1]; exact hlt)
      rw [List.getD_eq_getElem?_getD, hk] at g5 g6
      have g5 : y < 128 := g5
      have g6 : 0 ≤ y := g6
      omega
section
variable {p : Program} {l : Launch} {e : Env} {Rm : Room} {s : State} {mm : MethodId} {args : Array Value} {below : List Frame} {meth : Method} {c : Code} {Qw : State → Prop}
variable {B : Nat} {cA : Nat → ClassId} {ex adV : Nat → Nat} {D : va_G} {nL mc ms : Nat} {cc : ByteArray} {pc : Nat} {k : NXT} {ls st : List AV} {sh : SHP} {R M : MEM} {cb sb : Nat}
theorem sd_strL (hx : p.tables.exec = Jvm.exec) (hb : c.code = cc) (hK : va_K D vwCl (TYS cA) s) (hts : ∀ w ∈ TBg, w.before args s = true) {own : String} (hown : s.vm.findClass own = some mm.cls) (hEX : EX B ex adV s s.heap) (hBs : B ≤ s.heap.size) (hfr : 6 ≤ Rm.frames) (hlo : 360 ≤ Rm.locals) (hRc : mc ≤ Rm.cells) (hRs : ms ≤ Rm.slots) (hml : c.maxLocals = nL) {index : Nat} {r : List Nat} (hl : strLB own index r = true) (hdg : decode cc pc = .ok (.invokevirtual index, 3)) (hk : ∀ ls st sh R M cb sb, k ls st sh R M cb sb → WG p l e Rm s mm args below meth c Qw B cA ex D nL mc ms (pc + 3) ls st sh R M cb sb) (h0 : bud (Nat.ble (cats st) 8) (pE st fun q t => bud (Nat.ble 1 q.toNat && Nat.ble q.toNat 2) (k ls (vi ((strB q.toNat).length : Int) :: t) sh R M cb sb))) : WG p l e Rm s mm args below meth c Qw B cA ex D nL mc ms pc ls st sh R M cb sb := by
  obtain ⟨hb1, h1'⟩ := bud_inv h0
  have b1 := Nat.le_of_ble_eq_true hb1
  obtain ⟨q, t, rfl, h2'⟩ := pE_inv h1'
  obtain ⟨hb2, h⟩ := bud_inv h2'
  have b2a := Nat.le_of_ble_eq_true (Bool.and_eq_true_iff.mp hb2).1
  have b2b := Nat.le_of_ble_eq_true (Bool.and_eq_true_iff.mp hb2).2
  obtain ⟨i, hiq⟩ : ∃ i, q.toNat = i + 1 := ⟨q.toNat - 1, by omega⟩
  have hi : i < 2 := by omega
  rw [hiq] at h
  intro H locs cells slots lsA hH hL hS h1 h2
  have hc := cats_sum B ex t
  have hc2 : cats t ≤ 8 := by unfold cats at b1; omega
  have hlen := lens_lt i hi
  have hh := hk _ _ _ _ _ _ _ h H locs cells slots lsA hH hL (SQ.cons (show rngv 0 (((strB (i + 1)).length : Nat) : Int) from ⟨by omega, by omega⟩) hS.tl) h1 h2
  rw [map_cv_cons, show cv B ex (4, q) = .ref (ex q.toNat) from rfl, hiq]
  refine jcallV (na := 0) (As := []) (rest := t.map (cv B ex)) (j_length hi) hi rfl rfl hx hb hml hown hts hEX hBs hH.2.1 (by rw [hH.2.2.1]; omega) hL.1.1 (by decide) (by omega) (by omega) (by omega) (by omega) (wdq_mem hl) (wdq_mem (q := 124) (by decide +kernel)) (wdq_mem (q := 270) (by decide +kernel)) (by decide +kernel) rfl (wdq_mem (q := 268) (by decide +kernel)) (wdq_mem (q := 269) (by decide +kernel)) (Nat.le_trans hc hc2) hdg ?_
  rw [← hlen.2.1]
  exact hh
theorem sd_strC (hx : p.tables.exec = Jvm.exec) (hb : c.code = cc) (hK : va_K D vwCl (TYS cA) s) (hts : ∀ w ∈ TBg, w.before args s = true) {own : String} (hown : s.vm.findClass own = some mm.cls) (hEX : EX B ex adV s s.heap) (hBs : B ≤ s.heap.size) (hfr : 6 ≤ Rm.frames) (hlo : 360 ≤ Rm.locals) (hRc : mc ≤ Rm.cells) (hRs : ms ≤ Rm.slots) (hml : c.maxLocals = nL) {index : Nat} {r : List Nat} (hl : strCB own index r = true) (hdg : decode cc pc = .ok (.invokevirtual index, 3)) (hk : ∀ ls st sh R M cb sb, k ls st sh R M cb sb → WG p l e Rm s mm args below meth c Qw B cA ex D nL mc ms (pc + 3) ls st sh R M cb sb) (h0 : bud (Nat.ble (cats st) 8) (pI st fun i t => pE t fun q t => bud (Nat.ble 1 q.toNat && Nat.ble q.toNat 2) (0 ≤ i ∧ i < ((strB q.toNat).length : Int) ∧ k ls (vi ((strB q.toNat).getD i.toNat 0) :: t) sh R M cb sb))) : WG p l e Rm s mm args below meth c Qw B cA ex D nL mc ms pc ls st sh R M cb sb := by
  obtain ⟨hb1, h1'⟩ := bud_inv h0
  have b1 := Nat.le_of_ble_eq_true hb1
  obtain ⟨j, t1, rfl, h2'⟩ := pI_inv h1'
  obtain ⟨q, t, rfl, h3'⟩ := pE_inv h2'
  obtain ⟨hb2, h⟩ := bud_inv h3'
  have b2a := Nat.le_of_ble_eq_true (Bool.and_eq_true_iff.mp hb2).1
  have b2b := Nat.le_of_ble_eq_true (Bool.and_eq_true_iff.mp hb2).2
  obtain ⟨i, hiq⟩ : ∃ i, q.toNat = i + 1 := ⟨q.toNat - 1, by omega⟩
  have hi : i < 2 := by omega
  rw [hiq] at h
  obtain ⟨hj0, hj1, h⟩ := h
  obtain ⟨jn, rfl⟩ := Int.eq_ofNat_of_zero_le hj0
  rw [Int.toNat_natCast] at h
  intro H locs cells slots lsA hH hL hS h1 h2
  have hc := cats_sum B ex t
  have hc2 : cats t ≤ 8 := by unfold cats at b1; unfold cats at b1; omega
  have hlen := lens_lt i hi
  have hjl : jn < lens.getD i 0 := by rw [← hlen.2.1]; omega
  obtain ⟨-, -, g3, g4, g5, g6⟩ := chB_255 i hi jn hjl
  have hh := hk _ _ _ _ _ _ _ h H locs cells slots lsA hH hL (SQ.cons (show rngv 0 ((strB (i + 1)).getD jn 0) from ⟨by omega, by omega⟩) hS.tl.tl) h1 h2
  rw [map_cv_cons, map_cv_cons, show cv B ex (4, q) = .ref (ex q.toNat) from rfl, hiq]
  refine jcallV (na := 1) (As := [.int (Int32.ofNat jn)]) (rest := t.map (cv B ex)) (j_charAt hi hjl) hi rfl rfl hx hb hml hown hts hEX hBs hH.2.1 (by rw [hH.2.2.1]; omega) hL.1.1 (by decide) (by omega) (by omega) (by omega) (by omega) (wdq_mem hl) (wdq_mem (q := 124) (by decide +kernel)) (wdq_mem (q := 280) (by decide +kernel)) (by decide +kernel) rfl (wdq_mem (q := 278) (by decide +kernel)) (wdq_mem (q := 279) (by decide +kernel)) (Nat.le_trans hc hc2) hdg ?_
  rw [g3]
  exact hh
theorem sd_strI (hx : p.tables.exec = Jvm.exec) (hb : c.code = cc) (hK : va_K D vwCl (TYS cA) s) (hts : ∀ w ∈ TBg, w.before args s = true) {own : String} (hown : s.vm.findClass own = some mm.cls) (hEX : EX B ex adV s s.heap) (hBs : B ≤ s.heap.size) (hfr : 6 ≤ Rm.frames) (hlo : 360 ≤ Rm.locals) (hRc : mc ≤ Rm.cells) (hRs : ms ≤ Rm.slots) (hml : c.maxLocals = nL) {index : Nat} {r : List Nat} (hl : strIB own index r = true) (hdg : decode cc pc = .ok (.invokevirtual index, 3)) (hk : ∀ ls st sh R M cb sb, k ls st sh R M cb sb → WG p l e Rm s mm args below meth c Qw B cA ex D nL mc ms (pc + 3) ls st sh R M cb sb) (h0 : bud (Nat.ble (cats st) 8) (pI st fun c t => pE t fun q t => bud (Nat.ble 1 q.toNat && Nat.ble q.toNat 2) (k ls (vi (idxOf c (strB q.toNat) 0) :: t) sh R M cb sb))) : WG p l e Rm s mm args below meth c Qw B cA ex D nL mc ms pc ls st sh R M cb sb := by
  obtain ⟨hb1, h1'⟩ := bud_inv h0
  have b1 := Nat.le_of_ble_eq_true hb1
  obtain ⟨j, t1, rfl, h2'⟩ := pI_inv h1'
  obtain ⟨q, t, rfl, h3'⟩ := pE_inv h2'
  obtain ⟨hb2, h⟩ := bud_inv h3'
  have b2a := Nat.le_of_ble_eq_true (Bool.and_eq_true_iff.mp hb2).1
  have b2b := Nat.le_of_ble_eq_true (Bool.and_eq_true_iff.mp hb2).2
  obtain ⟨i, hiq⟩ : ∃ i, q.toNat = i + 1 := ⟨q.toNat - 1, by omega⟩
  have hi : i < 2 := by omega
  rw [hiq] at h
  intro H locs cells slots lsA hH hL hS h1 h2
  have hc := cats_sum B ex t
  have hc2 : cats t ≤ 8 := by unfold cats at b1; unfold cats at b1; omega
  have hlen := lens_lt i hi
  have hjr : rngv 0 j := hS.hd
  obtain ⟨r1, r2⟩ := idxOf_rng j (strB (i + 1)) 0 (by omega)
  have hh := hk _ _ _ _ _ _ _ h H locs cells slots lsA hH hL (SQ.cons (show rngv 0 (idxOf j (strB (i + 1)) 0) from ⟨by omega, by omega⟩) hS.tl.tl) h1 h2
  rw [map_cv_cons, map_cv_cons, show cv B ex (4, q) = .ref (ex q.toNat) from rfl, hiq]
  refine jcallV (na := 1) (As := [.int (Int32.ofInt j)]) (rest := t.map (cv B ex)) (j_indexOf hi) hi rfl rfl hx hb hml hown hts hEX hBs hH.2.1 (by rw [hH.2.2.1]; omega) hL.1.1 (by decide) (by omega) (by omega) (by omega) (by omega) (wdq_mem hl) (wdq_mem (q := 124) (by decide +kernel)) (wdq_mem (q := 733) (by decide +kernel)) (by decide +kernel) rfl (wdq_mem (q := 731) (by decide +kernel)) (wdq_mem (q := 732) (by decide +kernel)) (Nat.le_trans hc hc2) hdg ?_
  rw [ixJ_eq hi hjr]
  exact hh
theorem sd_aastore (hx : p.tables.exec = Jvm.exec) (hb : c.code = cc) (hK : va_K D vwCl (TYS cA) s) (hdg : decode cc pc = .ok (.aastore, 1)) (hk : ∀ ls st sh R M cb sb, k ls st sh R M cb sb → WG p l e Rm s mm args below meth c Qw B cA ex D nL mc ms (pc + 1) ls st sh R M cb sb) (h0 : pR st fun v t => pI t fun j t => pR t fun a t => aok sh 104 a j (ook sh 8 v (k ls t sh (stm R a j v) M cb sb))) : WG p l e Rm s mm args below meth c Qw B cA ex D nL mc ms pc ls st sh R M cb sb := by
  obtain ⟨v, t1, rfl, y1⟩ := pR_inv h0
  obtain ⟨j, t2, rfl, y2⟩ := pI_inv y1
  obtain ⟨a, t, rfl, y3⟩ := pR_inv y2
  obtain ⟨hk0, hj0, hj1, y4⟩ := aok_inv y3
  obtain ⟨hk1, h⟩ := ook_inv y4
  obtain ⟨n, rfl, hn, hsk⟩ := shk_inv (sh := sh) (a := a) (by rw [hk0]; decide)
  obtain ⟨nv, rfl, hnv, hskv⟩ := shk_inv (sh := sh) (a := v) (by rw [hk1]; decide)
  rw [hsk] at hk0 hj1
  rw [hskv] at hk1
  intro H locs cells slots lsA hH hL hS h1 h2
  have hP := hH.1
  have hg := wo_get (B := B) (cA := cA) (R := R) (M := M) hn
  rw [hk0] at hg
  have hgv := wo_get (B := B) (cA := cA) (R := R) (M := M) hnv
  rw [hk1, el_obj (by decide)] at hgv
  have hjr : rngv 0 j := hS.tl.hd
  have hvp := in32 hjr hj0 hj1
  have hcl := clamp32 hjr hj0
  have h0' := lt0_32 hjr hj0
  obtain ⟨jn, rfl⟩ := Int.eq_ofNat_of_zero_le hj0
  rw [Int.toNat_natCast] at hcl
  have e0 : ∀ q : Nat, cv B ex (2, (q : Int)) = .ref (B + q) := fun q => by
    show rv B (q : Int) = _
    unfold rv
    rw [if_neg (by omega), Int.toNat_natCast]
  simp only [map_cv_cons, e0]
  have hclR : vwCl[8]? = some (RX8, TX8, 11) := rfl
  obtain ⟨r', hr', cellV, g1, g2, g3, -⟩ := hP nv _ hgv
  have hcls := (hK.1 8 _ hclR).2
  obtain ⟨kA, comp, k1, k2, k3, -⟩ := (hK.2 4 _ rfl).2
  have hcomp : comp = D.1 8 := Option.some.inj (k3.symm.trans hcls.1)
  subst hcomp
  obtain ⟨kC, hkC, -⟩ := hcls.2
  refine W.aast hx hb (hP n _ hg) (fun q h => by cases h) (fun h => by cases h) k1 k2 rfl hkC ⟨h0', by show _ < (arrV _ _ _).slots.size; rw [arrV_size, hcl]; show jn < (sk sh n).2; omega⟩ g1 (fun q h => by rw [g3] at h; cases h) (by rw [g2]; exact hkC) (by rw [g2]; exact va_assign hcls) rfl rfl hdg fun H1 e1 z oq => ?_
  refine hk _ _ _ _ _ _ _ h H1 _ cells slots lsA (hH.upd hn ?_ z oq (fun q hq => st_ne (by omega)) (fun _ _ => rfl) (hH.2.2.2.str (by omega))) hL hS.tl.tl.tl h1 h2
  rw [hk0]
  show H1[B + n]? = some (vp_cell _ _)
  rw [e1]
  show some ((vp_cell (cA 4) ((sk sh n).2, .inr (.inr (.inr (.inr (fun j => ro B (R n j))))))).setSlot _ _) = _
  rw [vp_cell_q, vp_cell_q, arrV_store, hcl]
  refine congrArg some (congrArg (arrV _ _) ?_)
  funext q
  rw [st_at]
  unfold updV
  by_cases hq : q = jn
  · subst hq
    rw [if_pos rfl, if_pos rfl]
    unfold ro
    rw [if_neg (by omega), Int.toNat_natCast]
    rfl
  · rw [if_neg hq, if_neg (by omega)]
end
/-- an instruction's place in the list of its method -/
def tpc (code : List INS) (t : Nat) : Nat := match code[t]? with
  | some e => e.2.1
  | none => 0
def jok (code : List INS) (pc : Nat) (off : Int) (t : Nat) : Bool := decide ((pc : Int) + off = (tpc code t : Int)) && decide (t < code.length)
def tgB (t ft : Nat) : Bool := match t with
  | 2 => Nat.beq ft 2
  | 1 => Nat.beq ft 1
  | _ => Nat.beq ft 0
def ptB (t : Nat) (ty : FieldType) : Bool := match t, ty with
  | 2, .object _ => true
  | 2, .array _ => true
  | 1, .long => true
  | 5, .boolean => true
  | 0, .int => true
  | _, _ => false
def getB (own : String) (k : Nat) (r : List Nat) : Bool := match vwCl[pick r 0]? with
  | some q => decide (pick r 0 < 13) && decide (pick r 1 < q.2.2) && tgB (pick r 2) (ftag (pick r 0) (pick r 1)) && wdq (pick r 3) (.fieldLink own k (q.2.1 (pick r 1)).1 (q.2.1 (pick r 1)).2.1 (q.2.1 (pick r 1)).2.2.1)
  | none => false
def putB (own nm : String) (k : Nat) (r : List Nat) : Bool := match vwCl[pick r 0]? with
  | some q => decide (pick r 0 < 13) && decide (pick r 1 < q.2.2) && ptB (pick r 2) (tyF (pick r 0) (pick r 1)) && wdq (pick r 3) (.fieldLink own k (q.2.1 (pick r 1)).1 (q.2.1 (pick r 1)).2.1 (q.2.1 (pick r 1)).2.2.1) && (decide ((q.2.1 (pick r 1)).2.2.2 = false) || (decide (nm = "<init>") && decide ((q.2.1 (pick r 1)).1 = own)))
  | none => false
def newB (own : String) (k : Nat) (r : List Nat) : Bool := match vwCl[pick r 0]? with
  | some q => decide (pick r 0 < 13) && decide (pick r 1 = q.2.2) && wdq (pick r 2) (.classLink own k q.1) && wdq (pick r 3) (.instantiable q.1 q.2.2) && wdq (pick r 4) (.initialized q.1)
  | none => false
def tswB (code : List INS) (pc : Nat) : List Int → List Nat → Bool
  | [], [] => true
  | off :: os, t :: r => jok code pc off t && tswB code pc os r
  | _, _ => false
def invB (own : String) (st : Nat) (k : Nat) (r : List Nat) : Bool := match pick r 0 with
  | 0 => Nat.beq st 0 && callB own k r && wdq (pick r 8) (.static (mY (pick r 1)))
  | 1 => Nat.beq st 1 && callB own k r && cvB r
  | 2 => Nat.beq st 2 && callB own k r && ciB r
  | 3 => Nat.beq st 0 && wdq (pick r 7) (.methodLink own k Lib.Math.max.name) && wdq (pick r 8) (.static Lib.Math.max.name) && wdq (pick r 10) (.initialized "java/lang/Math") && wdq (pick r 11) (.code Lib.Math.max.name Lib.Math.max.code 2 (some .int))
  | 4 => Nat.beq st 0 && wdq (pick r 7) (.methodLink own k Lib.Math.min.name) && wdq (pick r 8) (.static Lib.Math.min.name) && wdq (pick r 10) (.initialized "java/lang/Math") && wdq (pick r 11) (.code Lib.Math.min.name Lib.Math.min.code 2 (some .int))
  | 5 => Nat.beq st 0 && wdq (pick r 7) (.methodLink own k arraycopyName) && wdq (pick r 8) (.static arraycopyName) && wdq (pick r 9) (.native arraycopyName) && wdq (pick r 10) (.initialized "java/lang/System")
  | 6 => Nat.beq st 1 && strLB own k r
  | 7 => Nat.beq st 1 && strCB own k r
  | 8 => Nat.beq st 1 && strIB own k r
  | 9 => Nat.beq st 2 && wdq (pick r 7) (.methodLink own k Lib.objectInit) && wdq (pick r 8) (.instanceMethod Lib.objectInit) && wdq (pick r 11) (.code Lib.objectInit ⟨#[0xb1]⟩ 1 none)
  | _ => false
/-- a row's instruction is linked as its list says -/
def lkB (m pc : Nat) (i : Jvm.ClassFile.Instr) (len : Nat) (r : List Nat) : Bool := match i with
  | .iconst n => decide (len = 1 ∧ -2147483648 ≤ n ∧ n < 2147483648)
  | .bipush n => decide (len = 2 ∧ (Int8.ofInt n).toInt32 = Int32.ofInt n ∧ -2147483648 ≤ n ∧ n < 2147483648)
  | .sipush n => decide (len = 3 ∧ (Int16.ofInt n).toInt32 = Int32.ofInt n ∧ -2147483648 ≤ n ∧ n < 2147483648)
  | .iload _ => decide (len = 2)
  | .lload _ => decide (len = 2)
  | .aload _ => decide (len = 2)
  | .istore n => decide (len = 2 ∧ n < mL m)
  | .astore n => decide (len = 2 ∧ n < mL m)
  | .lstore n => decide (len = 2 ∧ n + 1 < mL m)
  | .istore_n n => decide (len = 1 ∧ n.val < mL m)
  | .astore_n n => decide (len = 1 ∧ n.val < mL m)
  | .lstore_n n => decide (len = 1 ∧ n.val + 1 < mL m)
  | .iinc _ _ => decide (len = 3)
  | .ifCond _ off => decide (len = 3) && jok (mK m) pc off (pick r 0)
  | .if_icmp _ off => decide (len = 3) && jok (mK m) pc off (pick r 0)
  | .goto off => decide (len = 3) && jok (mK m) pc off (pick r 0)
  | .tableswitch d lo hi offs => decide (-2147483648 ≤ lo ∧ lo < 2147483648) && decide (hi + 1 = lo + (r.tail.length : Int)) && jok (mK m) pc d (pick r 0) && tswB (mK m) pc offs.toList r.tail
  | .lookupswitch d ps => jok (mK m) pc d (pick r 0) && ((ps.toList.zip (ps.toList.drop 1)).all (fun (a, next) => a.1 < next.1)) && tswB (mK m) pc (ps.toList.map (·.2)) r.tail
  | .getfield k => decide (len = 3) && getB (mO m) k r
  | .putfield k => decide (len = 3) && putB (mO m) (mY m).name k r
  | .new k => decide (len = 3) && newB (mO m) k r
  | .newarray t => decide (len = 2) && (match t with
    | .int => decide (pick r 0 = 100) && wdq (pick r 1) (.arrayClass .int)
    | .long => decide (pick r 0 = 101) && wdq (pick r 1) (.arrayClass .long)
    | .byte => decide (pick r 0 = 102) && wdq (pick r 1) (.arrayClass .byte)
    | .boolean => decide (pick r 0 = 103) && wdq (pick r 1) (.arrayClass .boolean)
    | _ => false)
  | .anewarray k => decide (len = 3) && wdq (pick r 1) (.classLink (mO m) k "GeeseSums$Sky")
  | .multianewarray k dm => decide (len = 4 ∧ dm = 2) && wdq (pick r 1) (.classLink (mO m) k "[[I") && wdq (pick r 3) (.arrayClass .int)
  | .baload => decide (len = 1) && (decide (pick r 0 = 102) || decide (pick r 0 = 103))
  | .bastore => decide (len = 1) && (decide (pick r 0 = 102) || decide (pick r 0 = 103))
  | .aaload => decide (len = 1) && (decide (pick r 0 = 104) || decide (pick r 0 = 105))
  | .ldc k => decide (len = 2) && (match r with
    | [v, q] => decide (v < 2147483648) && wdq q (.constant (mO m) k (Int32.ofNat v))
    | [v, _, _] => decide (mO m = "GeeseSums$Tape" ∧ ((v = 1 ∧ k = 26) ∨ (v = 2 ∧ k = 75)))
    | _ => false)
  | .ldc_w k => decide (len = 3) && decide (pick r 0 < 2147483648) && wdq (pick r 1) (.constant (mO m) k (Int32.ofNat (pick r 0)))
  | .ldc2_w k => decide (len = 3) && decide (pick r 0 < 9223372036854775808) && wdq (pick r 1) (.constantLong (mO m) k (Int64.ofNat (pick r 0)))
  | .invokestatic k => decide (len = 3) && invB (mO m) 0 k r
  | .invokevirtual k => decide (len = 3) && invB (mO m) 1 k r
  | .invokespecial k => decide (len = 3) && invB (mO m) 2 k r
  | .ireturn => decide (len = 1) && (match mR m with
    | some .boolean => decide (pick r 0 = 5)
    | some .int => decide (pick r 0 = 0)
    | _ => false)
  | .lreturn => decide (len = 1) && decide (mR m = some .long)
  | .areturn => decide (len = 1) && (match mR m with
    | some (.object _) => true
    | some (.array _) => true
    | _ => false)
  | .return_ => decide (len = 1) && decide (mR m = none)
  | _ => decide (len = 1)
def Cx (d m : Nat) (B : Nat) (cA : Nat → ClassId) (ex adV : Nat → Nat) (D : va_G) (X : Int × (Int → Int)) (p : Program) (s : State) (mm : MethodId) (args : Array Value) (meth : Method) (c : Code) (Rm : Room) (mc ms : Nat) : Prop := p.tables.exec = Jvm.exec ∧ c.code = mC m ∧ c.maxLocals = mL m ∧ s.vm.findClass (mO m) = some mm.cls ∧ (∀ w ∈ TBg, w.before args s = true) ∧ va_K D vwCl (TYS cA) s ∧ EX B ex adV s s.heap ∧ XS B ex X s ∧ B ≤ s.heap.size ∧ d + 6 ≤ Rm.frames ∧ 60 * (d + 6) ≤ Rm.locals ∧ mc ≤ Rm.cells ∧ ms ≤ Rm.slots ∧ meth.name = (mY m).name
def FinH (m : Nat) (B : Nat) (cA : Nat → ClassId) (D : va_G) (p : Program) (l : Launch) (e : Env) (Rm : Room) (s : State) (mm : MethodId) (args : Array Value) (below : List Frame) (meth : Method) (c : Code) (Qw : State → Prop) (mc ms : Nat) (Q : RES) : Prop := ∀ (pc : Nat) (H : Heap) (locs : List Loc) (cells slots : Nat) (lsA : Array Slot) (x : Int) (sh : SHP) (R M : MEM), HR B cA D s H locs sh R M → cells ≤ mc → slots ≤ ms → Q x sh R M → rok (mR m) x → decode (mC m) pc = .ok (retI (mR m), 1) → W p l e Rm s mm args below meth c H locs cells slots Qw (F0 mm pc lsA (rvl B (mR m) x).toList)
theorem tswB_get {code : List INS} {pc : Nat} : ∀ (os : List Int) (r : List Nat), tswB code pc os r = true → os.length = r.length ∧ ∀ (j t : Nat), r[j]? = some t → t < code.length ∧ ∃ off, os[j]? = some off ∧ (pc : Int) + off = (tpc code t : Int)
  | [], [], _ => ⟨rfl, fun j t h => by simp at h⟩
  | off :: os, t :: r, h => by
    unfold tswB at h
    rw [Bool.and_eq_true] at h
    obtain ⟨g1, g2⟩ := tswB_get os r h.2
    have h1 := h.1
    unfold jok at h1
    simp only [Bool.and_eq_true, decide_eq_true_eq] at h1
    refine ⟨by simp [g1], fun j t' hj => ?_⟩
    cases j with
    | zero =>
      cases hj
      exact ⟨h1.2, off, rfl, h1.1⟩
    | succ j => exact g2 j t' hj
  | [], _ :: _, h => by cases h
  | _ :: _, [], h => by cases h
theorem jok_inv {code : List INS} {pc t : Nat} {off : Int} (h : jok code pc off t = true) : (pc : Int) + off = (tpc code t : Int) ∧ t < code.length := by
  unfold jok at h
  simpa only [Bool.and_eq_true, decide_eq_true_eq] using h
section
variable {p : Program} {l : Launch} {e : Env} {Rm : Room} {s : State} {mm : MethodId} {args : Array Value} {below : List Frame} {meth : Method} {c : Code} {Qw : State → Prop}
variable {B : Nat} {cA : Nat → ClassId} {ex adV : Nat → Nat} {D : va_G} {mc ms d m : Nat} {pc : Nat} {k : NXT} {J : Nat → NXT} {Q : RES} {ls st : List AV} {sh : SHP} {R M : MEM} {cb sb : Nat} {X : Int × (Int → Int)}
set_option maxHeartbeats 4000000 in
theorem row_sound (hCx : Cx d m B cA ex adV D X p s mm args meth c Rm mc ms) (hF : FinH m B cA D p l e Rm s mm args below meth c Qw mc ms Q) {i : Jvm.ClassFile.Instr} {len : Nat} {r : List Nat} (hdg : decode (mC m) pc = .ok (i, len)) (hl : lkB m pc i len r = true) (hk : ∀ ls st sh R M cb sb, k ls st sh R M cb sb → WG p l e Rm s mm args below meth c Qw B cA ex D (mL m) mc ms (pc + len) ls st sh R M cb sb) (hJ : ∀ t ls st sh R M cb sb, t < (mK m).length → J t ls st sh R M cb sb → WG p l e Rm s mm args below meth c Qw B cA ex D (mL m) mc ms (tpc (mK m) t) ls st sh R M cb sb) (h : gx_stp (Cd d) X i r ls st sh R M cb sb k J Q) : WG p l e Rm s mm args below meth c Qw B cA ex D (mL m) mc ms pc ls st sh R M cb sb := by
  obtain ⟨hx, hb, hml, hown, hts, hK, hEX, hXS, hBs, hfr, hlo, hRc, hRs, hnm⟩ := hCx
  cases i with
  | iconst n =>
    simp only [lkB, decide_eq_true_eq] at hl
    obtain ⟨rfl, hl⟩ := hl
    exact sd_iconst hx hb hdg rfl hl hk h
  | bipush n =>
    simp only [lkB, decide_eq_true_eq] at hl
    obtain ⟨rfl, hl⟩ := hl
    exact sd_bipush hx hb hdg hl.1 hl.2 hk h
  | sipush n =>
    simp only [lkB, decide_eq_true_eq] at hl
    obtain ⟨rfl, hl⟩ := hl
    exact sd_sipush hx hb hdg hl.1 hl.2 hk h
  | lconst n =>
    simp only [lkB, decide_eq_true_eq] at hl
    subst hl
    exact sd_lconst hx hb hdg hk h
  | iload_n n =>
    simp only [lkB, decide_eq_true_eq] at hl
    subst hl
    exact sd_iload_n hx hb hdg hk h
  | lload_n n =>
    simp only [lkB, decide_eq_true_eq] at hl
    subst hl
    exact sd_lload_n hx hb hdg hk h
  | aload_n n =>
    simp only [lkB, decide_eq_true_eq] at hl
    subst hl
    exact sd_aload_n hx hb hdg hk h
  | iadd =>
    simp only [lkB, decide_eq_true_eq] at hl
    subst hl
    exact sd_iadd hx hb hdg hk h
  | isub =>
    simp only [lkB, decide_eq_true_eq] at hl
    subst hl
    exact sd_isub hx hb hdg hk h
  | imul =>
    simp only [lkB, decide_eq_true_eq] at hl
    subst hl
    exact sd_imul hx hb hdg hk h
  | iand =>
    simp only [lkB, decide_eq_true_eq] at hl
    subst hl
    exact sd_iand hx hb hdg hk h
  | ior =>
    simp only [lkB, decide_eq_true_eq] at hl
    subst hl
    exact sd_ior hx hb hdg hk h
  | ishl =>
    simp only [lkB, decide_eq_true_eq] at hl
    subst hl
    exact sd_ishl hx hb hdg hk h
  | ishr =>
    simp only [lkB, decide_eq_true_eq] at hl
    subst hl
    exact sd_ishr hx hb hdg hk h
  | idiv =>
    simp only [lkB, decide_eq_true_eq] at hl
    subst hl
    exact sd_idiv hx hb hdg hk h
  | irem =>
    simp only [lkB, decide_eq_true_eq] at hl
    subst hl
    exact sd_irem hx hb hdg hk h
  | ladd =>
    simp only [lkB, decide_eq_true_eq] at hl
    subst hl
    exact sd_ladd hx hb hdg hk h
  | lmul =>
    simp only [lkB, decide_eq_true_eq] at hl
    subst hl
    exact sd_lmul hx hb hdg hk h
  | lor =>
    simp only [lkB, decide_eq_true_eq] at hl
    subst hl
    exact sd_lor hx hb hdg hk h
  | lshl =>
    simp only [lkB, decide_eq_true_eq] at hl
    subst hl
    exact sd_lshl hx hb hdg hk h
  | lcmp =>
    simp only [lkB, decide_eq_true_eq] at hl
    subst hl
    exact sd_lcmp hx hb hdg hk h
  | i2l =>
    simp only [lkB, decide_eq_true_eq] at hl
    subst hl
    exact sd_i2l hx hb hdg hk h
  | l2i =>
    simp only [lkB, decide_eq_true_eq] at hl
    subst hl
    exact sd_l2i hx hb hdg hk h
  | i2b =>
    simp only [lkB, decide_eq_true_eq] at hl
    subst hl
    exact sd_i2b hx hb hdg hk h
  | i2c =>
    simp only [lkB, decide_eq_true_eq] at hl
    subst hl
    exact sd_i2c hx hb hdg hk h
  | iload n =>
    simp only [lkB, decide_eq_true_eq] at hl
    subst hl
    exact sd_iload hx hb hdg hk h
  | lload n =>
    simp only [lkB, decide_eq_true_eq] at hl
    subst hl
    exact sd_lload hx hb hdg hk h
  | aload n =>
    simp only [lkB, decide_eq_true_eq] at hl
    subst hl
    exact sd_aload hx hb hdg hk h
  | iinc n q =>
    simp only [lkB, decide_eq_true_eq] at hl
    subst hl
    exact sd_iinc hx hb hdg hk h
  | istore n =>
    simp only [lkB, decide_eq_true_eq] at hl
    obtain ⟨rfl, hl⟩ := hl
    exact sd_istore hx hb hdg hl hk h
  | astore n =>
    simp only [lkB, decide_eq_true_eq] at hl
    obtain ⟨rfl, hl⟩ := hl
    exact sd_astore hx hb hdg hl hk h
  | lstore n =>
    simp only [lkB, decide_eq_true_eq] at hl
    obtain ⟨rfl, hl⟩ := hl
    exact sd_lstore hx hb hdg hl hk h
  | istore_n n =>
    simp only [lkB, decide_eq_true_eq] at hl
    obtain ⟨rfl, hl⟩ := hl
    exact sd_istore_n hx hb hdg hl hk h
  | astore_n n =>
    simp only [lkB, decide_eq_true_eq] at hl
    obtain ⟨rfl, hl⟩ := hl
    exact sd_astore_n hx hb hdg hl hk h
  | lstore_n n =>
    simp only [lkB, decide_eq_true_eq] at hl
    obtain ⟨rfl, hl⟩ := hl
    exact sd_lstore_n hx hb hdg hl hk h
  | dup =>
    simp only [lkB, decide_eq_true_eq] at hl
    subst hl
    match hst : st, h with
    | v :: t, h => exact sd_dup hx hb rfl hdg hk h
  | dup2 =>
    simp only [lkB, decide_eq_true_eq] at hl
    subst hl
    match hst : st, h with
    | (1, x) :: t, h => exact sd_dup2L hx hb rfl hdg hk h
    | (0, x) :: u :: t, h => exact sd_dup2 hx hb rfl hdg hk h
    | (n + 2, x) :: u :: t, h => exact sd_dup2 hx hb rfl hdg hk h
  | ifCond cnd off =>
    simp only [lkB, Bool.and_eq_true, decide_eq_true_eq] at hl
    obtain ⟨rfl, hl⟩ := hl
    obtain ⟨j1, j2⟩ := jok_inv hl
    cases cnd with
    | eq => exact sd_if_eq hx hb hdg j1 hk (fun _ _ _ _ _ _ _ z => hJ _ _ _ _ _ _ _ _ j2 z) h
    | ne => exact sd_if_ne hx hb hdg j1 hk (fun _ _ _ _ _ _ _ z => hJ _ _ _ _ _ _ _ _ j2 z) h
    | lt => exact sd_if_lt hx hb hdg j1 hk (fun _ _ _ _ _ _ _ z => hJ _ _ _ _ _ _ _ _ j2 z) h
    | ge => exact sd_if_ge hx hb hdg j1 hk (fun _ _ _ _ _ _ _ z => hJ _ _ _ _ _ _ _ _ j2 z) h
    | gt => exact sd_if_gt hx hb hdg j1 hk (fun _ _ _ _ _ _ _ z => hJ _ _ _ _ _ _ _ _ j2 z) h
    | le => exact sd_if_le hx hb hdg j1 hk (fun _ _ _ _ _ _ _ z => hJ _ _ _ _ _ _ _ _ j2 z) h
  | if_icmp cnd off =>
    simp only [lkB, Bool.and_eq_true, decide_eq_true_eq] at hl
    obtain ⟨rfl, hl⟩ := hl
    obtain ⟨j1, j2⟩ := jok_inv hl
    cases cnd with
    | eq => exact sd_icmp_eq hx hb hdg j1 hk (fun _ _ _ _ _ _ _ z => hJ _ _ _ _ _ _ _ _ j2 z) h
    | ne => exact sd_icmp_ne hx hb hdg j1 hk (fun _ _ _ _ _ _ _ z => hJ _ _ _ _ _ _ _ _ j2 z) h
    | lt => exact sd_icmp_lt hx hb hdg j1 hk (fun _ _ _ _ _ _ _ z => hJ _ _ _ _ _ _ _ _ j2 z) h
    | ge => exact sd_icmp_ge hx hb hdg j1 hk (fun _ _ _ _ _ _ _ z => hJ _ _ _ _ _ _ _ _ j2 z) h
    | gt => exact sd_icmp_gt hx hb hdg j1 hk (fun _ _ _ _ _ _ _ z => hJ _ _ _ _ _ _ _ _ j2 z) h
    | le => exact sd_icmp_le hx hb hdg j1 hk (fun _ _ _ _ _ _ _ z => hJ _ _ _ _ _ _ _ _ j2 z) h
  | goto off =>
    simp only [lkB, Bool.and_eq_true, decide_eq_true_eq] at hl
    obtain ⟨rfl, hl⟩ := hl
    obtain ⟨j1, j2⟩ := jok_inv hl
    exact sd_goto hx hb hdg j1 (fun _ _ _ _ _ _ _ z => hJ _ _ _ _ _ _ _ _ j2 z) h
  | tableswitch q lo hi offs =>
    simp only [lkB, Bool.and_eq_true, decide_eq_true_eq] at hl
    obtain ⟨⟨⟨g1, g2⟩, g3⟩, g4⟩ := hl
    obtain ⟨j1, j2⟩ := jok_inv g3
    obtain ⟨t1, t2⟩ := tswB_get _ _ g4
    refine sd_tsw (tp := tpc (mK m)) (d := pick r 0) (r := r.tail) (J := fun t ls st sh R M cb sb => t < (mK m).length ∧ J t ls st sh R M cb sb) hx hb hdg g1 g2 j1 (fun j t hj => ?_) (fun t ls st sh R M cb sb z => hJ t _ _ _ _ _ _ _ z.1 z.2) ?_
    · obtain ⟨-, off, e1, e2⟩ := t2 j t hj
      exact ⟨off, by rw [← Array.getElem?_toList]; exact e1, e2⟩
    · obtain ⟨x, t, e1, h⟩ := pI_inv h
      subst e1
      exact tsw_imp (fun z => ⟨j2, z⟩) _ _ (fun t' ht z => ⟨(t2 _ t' (List.getElem?_of_mem ht).choose_spec).1, z⟩) h
  | lookupswitch q ps =>
    simp only [lkB, Bool.and_eq_true, decide_eq_true_eq] at hl
    obtain ⟨⟨g3, g2⟩, g4⟩ := hl
    obtain ⟨j1, j2⟩ := jok_inv g3
    obtain ⟨t1, t2⟩ := tswB_get _ _ g4
    refine sd_lsw (tp := tpc (mK m)) (d := pick r 0) (r := r.tail) (J := fun t ls st sh R M cb sb => t < (mK m).length ∧ J t ls st sh R M cb sb) hx hb hdg g2 (by rw [← t1, List.length_map]) j1 (fun i t q hi hj => ?_) (fun t ls st sh R M cb sb z => hJ t _ _ _ _ _ _ _ z.1 z.2) ?_
    · obtain ⟨-, off, e1, e2⟩ := t2 i t hj
      rw [List.getElem?_map, hi] at e1
      cases e1
      exact e2
    · obtain ⟨x, t, e1, h⟩ := pI_inv h
      subst e1
      exact lsw_imp (fun z => ⟨j2, z⟩) _ _ (fun t' ht z => ⟨(t2 _ t' (List.getElem?_of_mem ht).choose_spec).1, z⟩) h
  | ireturn =>
    simp only [lkB, Bool.and_eq_true, decide_eq_true_eq] at hl
    obtain ⟨rfl, hl⟩ := hl
    match hst : st, h with
    | [(0, x)], h =>
      intro H locs cells slots lsA hH hL hS h1 h2
      have hr : rngv 0 x := hS.hd
      have key : ∀ ret, mR m = ret → (ret = some .boolean ∨ ret = some .int) → Q x sh R M ∧ rok ret x → W p l e Rm s mm args below meth c H locs cells slots Qw (F0 mm pc lsA [.int (Int32.ofInt x)]) := by
        intro ret e1 e2 e3
        have := hF pc H locs cells slots lsA x sh R M hH (by omega) (by omega) e3.1 (by rw [e1]; exact e3.2) (by rw [e1]; rcases e2 with rfl | rfl <;> exact hdg)
        rw [e1] at this
        rcases e2 with rfl | rfl <;> exact this
      cases hm : mR m with
      | none => rw [hm] at hl; cases hl
      | some ty =>
        rw [hm] at hl
        cases ty with
        | boolean =>
          have e5 : pick r 0 = 5 := by simpa using hl
          have h' : bq x (Q x sh R M) := by have h9 := h; simp only [gx_stp, e5] at h9; exact h9
          obtain ⟨b1, b2⟩ := bq_inv h'
          exact key _ hm (Or.inl rfl) ⟨b2, b1⟩
        | int =>
          have e5 : pick r 0 = 0 := by simpa using hl
          have h' : Q x sh R M := by have h9 := h; simp only [gx_stp, e5] at h9; exact h9
          exact key _ hm (Or.inr rfl) ⟨h', hr⟩
        | _ => simp at hl
  | lreturn =>
    simp only [lkB, Bool.and_eq_true, decide_eq_true_eq] at hl
    obtain ⟨rfl, hl⟩ := hl
    match hst : st, h with
    | [(1, x)], h =>
      intro H locs cells slots lsA hH hL hS h1 h2
      have := hF pc H locs cells slots lsA x sh R M hH (by omega) (by omega) h (by rw [hl]; exact hS.hd) (by rw [hl]; exact hdg)
      rw [hl] at this
      exact this
  | areturn =>
    simp only [lkB, Bool.and_eq_true, decide_eq_true_eq] at hl
    obtain ⟨rfl, hl⟩ := hl
    match hst : st, h with
    | [(2, x)], h =>
      intro H locs cells slots lsA hH hL hS h1 h2
      cases hm : mR m with
      | none => rw [hm] at hl; cases hl
      | some ty =>
        rw [hm] at hl
        cases ty with
        | object nm =>
          have := hF pc H locs cells slots lsA x sh R M hH (by omega) (by omega) h (by rw [hm]; exact hS.hd) (by rw [hm]; exact hdg)
          rw [hm] at this
          exact this
        | array nm =>
          have := hF pc H locs cells slots lsA x sh R M hH (by omega) (by omega) h (by rw [hm]; exact hS.hd) (by rw [hm]; exact hdg)
          rw [hm] at this
          exact this
        | _ => simp at hl
  | return_ =>
    simp only [lkB, Bool.and_eq_true, decide_eq_true_eq] at hl
    obtain ⟨rfl, hl⟩ := hl
    match hst : st, h with
    | [], h =>
      intro H locs cells slots lsA hH hL hS h1 h2
      have := hF pc H locs cells slots lsA 0 sh R M hH (by omega) (by omega) h (by rw [hl]; trivial) (by rw [hl]; exact hdg)
      rw [hl] at this
      exact this
  | getfield n =>
    simp only [lkB, Bool.and_eq_true, decide_eq_true_eq] at hl
    obtain ⟨rfl, hl⟩ := hl
    unfold getB at hl
    cases hq : vwCl[pick r 0]? with
    | none => rw [hq] at hl; cases hl
    | some q =>
      obtain ⟨C, T, N⟩ := q
      rw [hq] at hl
      simp only [Bool.and_eq_true, decide_eq_true_eq] at hl
      obtain ⟨⟨⟨g1, g2⟩, g3⟩, g4⟩ := hl
      obtain ⟨f1, f2, f3, f4, f5, f6⟩ := cls_ok hq g1
      have w := hts _ (wdq_mem g4)
      unfold tgB at g3
      split at g3
      · rename_i ht
        have h9 := h
        simp only [gx_stp, ht] at h9
        exact sd_getR hx hb hK hts (by omega) hq f2 g2 f1 hown w (Nat.eq_of_beq_eq_true g3) hdg hk h9
      · rename_i ht
        have h9 := h
        simp only [gx_stp, ht] at h9
        exact sd_getL hx hb hK hts (by omega) hq f2 g2 f1 hown w (Nat.eq_of_beq_eq_true g3) hdg hk h9
      · rename_i ht1 ht2
        have h9 := h
        simp only [gx_stp] at h9
        exact sd_getI hx hb hK hts (by omega) hq f2 g2 f1 hown w (Nat.eq_of_beq_eq_true g3) hdg hk h9
  | putfield n =>
    simp only [lkB, Bool.and_eq_true, decide_eq_true_eq] at hl
    obtain ⟨rfl, hl⟩ := hl
    unfold putB at hl
    cases hq : vwCl[pick r 0]? with
    | none => rw [hq] at hl; cases hl
    | some q =>
      obtain ⟨C, T, N⟩ := q
      rw [hq] at hl
      simp only [Bool.and_eq_true, Bool.or_eq_true, decide_eq_true_eq] at hl
      obtain ⟨⟨⟨⟨g1, g2⟩, g3⟩, g4⟩, g5⟩ := hl
      obtain ⟨f1, f2, f3, f4, f5, f6⟩ := cls_ok hq g1
      have w := hts _ (wdq_mem g4)
      have hfin : (T (pick r 1)).2.2.2 = false ∨ ((T (pick r 1)).2.2.2 = true ∧ meth.name = "<init>" ∧ (T (pick r 1)).1 = mO m) := by
        cases hz : (T (pick r 1)).2.2.2 with
        | false => exact Or.inl rfl
        | true =>
          rcases g5 with g5 | g5
          · exact absurd (hz.symm.trans g5) (by decide)
          · exact Or.inr ⟨rfl, hnm.trans g5.1, g5.2⟩
      have h9 := h
      unfold ptB at g3
      split at g3
      · rename_i ht hty
        simp only [gx_stp, ht] at h9
        exact sd_putR hx hb hK hts (by omega) hq f2 g2 f1 hown w _ f3 f4 hfin (Or.inl ⟨_, hty⟩) (by rw [f6, hty]; rfl) hdg hk h9
      · rename_i ht hty
        simp only [gx_stp, ht] at h9
        exact sd_putR hx hb hK hts (by omega) hq f2 g2 f1 hown w _ f3 f4 hfin (Or.inr ⟨_, hty⟩) (by rw [f6, hty]; rfl) hdg hk h9
      · rename_i ht hty
        simp only [gx_stp, ht] at h9
        exact sd_putL hx hb hK hts (by omega) hq f2 g2 f1 hown w _ f3 f4 hfin hty (by rw [f6, hty]; rfl) hdg hk h9
      · rename_i ht hty
        simp only [gx_stp, ht] at h9
        exact sd_putZ hx hb hK hts (by omega) hq f2 g2 f1 hown w _ f3 f4 hfin hty (by rw [f6, hty]; rfl) hdg hk h9
      · rename_i ht hty
        simp only [gx_stp, ht] at h9
        exact sd_putI hx hb hK hts (by omega) hq f2 g2 f1 hown w _ f3 f4 hfin hty (by rw [f6, hty]; rfl) hdg hk h9
      · cases g3
  | new n =>
    simp only [lkB, Bool.and_eq_true, decide_eq_true_eq] at hl
    obtain ⟨rfl, hl⟩ := hl
    unfold newB at hl
    cases hq : vwCl[pick r 0]? with
    | none => rw [hq] at hl; cases hl
    | some q =>
      obtain ⟨C, T, N⟩ := q
      rw [hq] at hl
      simp only [Bool.and_eq_true, decide_eq_true_eq] at hl
      obtain ⟨⟨⟨⟨g1, g2⟩, g3⟩, g4⟩, g5⟩ := hl
      obtain ⟨f1, f2, f3, f4, f5, f6⟩ := cls_ok hq g1
      have h9 := h
      simp only [gx_stp, g2] at h9
      exact sd_new hx hb hK hts hown hRc hRs (by omega) hq f2 f1 _ f3 (fun j hj => by rw [f6]; exact okTy_dv B (f5 j hj)) (hts _ (wdq_mem g3)) (hts _ (wdq_mem g4)) (hts _ (wdq_mem g5)) hdg hk h9
  | newarray t =>
    simp only [lkB, Bool.and_eq_true, decide_eq_true_eq] at hl
    obtain ⟨rfl, hl⟩ := hl
    have h9 := h
    cases t with
    | int => simp only [Bool.and_eq_true, decide_eq_true_eq] at hl; simp only [gx_stp, hl.1] at h9; exact sd_newarray100 hx hb hK (hts _ (wdq_mem hl.2)) hRc hRs hdg hk h9
    | long => simp only [Bool.and_eq_true, decide_eq_true_eq] at hl; simp only [gx_stp, hl.1] at h9; exact sd_newarray101 hx hb hK (hts _ (wdq_mem hl.2)) hRc hRs hdg hk h9
    | byte => simp only [Bool.and_eq_true, decide_eq_true_eq] at hl; simp only [gx_stp, hl.1] at h9; exact sd_newarray102 hx hb hK (hts _ (wdq_mem hl.2)) hRc hRs hdg hk h9
    | boolean => simp only [Bool.and_eq_true, decide_eq_true_eq] at hl; simp only [gx_stp, hl.1] at h9; exact sd_newarray103 hx hb hK (hts _ (wdq_mem hl.2)) hRc hRs hdg hk h9
    | _ => cases hl
  | anewarray n =>
    simp only [lkB, Bool.and_eq_true, decide_eq_true_eq] at hl
    obtain ⟨rfl, hl⟩ := hl
    exact sd_anewarray hx hb hK hts hown hRc hRs hEX.2.2.2.2.2.1 (hts _ (wdq_mem hl)) hdg hk h
  | multianewarray n dm =>
    simp only [lkB, Bool.and_eq_true, decide_eq_true_eq] at hl
    obtain ⟨⟨⟨rfl, rfl⟩, g1⟩, g2⟩ := hl
    exact sd_multi hx hb hK hts hown hRc hRs hEX.2.2.2.2.2.2 (hts _ (wdq_mem g1)) (hts _ (wdq_mem g2)) hdg hk h
  | iaload =>
    simp only [lkB, decide_eq_true_eq] at hl
    subst hl
    obtain ⟨j, t, e1, h9⟩ := pI_inv h
    subst e1
    match t, h9 with
    | (2, a) :: t, h9 => exact sd_iaload0 hx hb hK hdg hk h9
    | (4, x) :: t, h9 => exact sd_ialoadX hx hb hXS rfl hdg hk h9
  | laload =>
    simp only [lkB, decide_eq_true_eq] at hl
    subst hl
    exact sd_laload hx hb hK hdg hk h
  | iastore =>
    simp only [lkB, decide_eq_true_eq] at hl
    subst hl
    exact sd_iastore hx hb hK hdg hk h
  | lastore =>
    simp only [lkB, decide_eq_true_eq] at hl
    subst hl
    exact sd_lastore hx hb hK hdg hk h
  | baload =>
    simp only [lkB, Bool.and_eq_true, Bool.or_eq_true, decide_eq_true_eq] at hl
    obtain ⟨rfl, hl⟩ := hl
    have h9 := h
    rcases hl with hl | hl
    · simp only [gx_stp, hl] at h9
      exact sd_baloadB hx hb hK hdg hk h9
    · simp only [gx_stp, hl] at h9
      exact sd_baloadZ hx hb hK hdg hk h9
  | bastore =>
    simp only [lkB, Bool.and_eq_true, Bool.or_eq_true, decide_eq_true_eq] at hl
    obtain ⟨rfl, hl⟩ := hl
    have h9 := h
    rcases hl with hl | hl
    · simp only [gx_stp, hl] at h9
      exact sd_bastoreB hx hb hK hdg hk h9
    · simp only [gx_stp, hl] at h9
      exact sd_bastoreZ hx hb hK hdg hk h9
  | aaload =>
    simp only [lkB, Bool.and_eq_true, Bool.or_eq_true, decide_eq_true_eq] at hl
    obtain ⟨rfl, hl⟩ := hl
    have h9 := h
    rcases hl with hl | hl
    · simp only [gx_stp, hl] at h9
      exact sd_aaload4 hx hb hK hdg hk h9
    · simp only [gx_stp, hl] at h9
      exact sd_aaload5 hx hb hK hdg hk h9
  | aastore =>
    simp only [lkB, decide_eq_true_eq] at hl
    subst hl
    exact sd_aastore hx hb hK hdg hk h
  | arraylength =>
    simp only [lkB, decide_eq_true_eq] at hl
    subst hl
    match hst : st, h with
    | (2, a) :: t, h =>
      exact sd_alen hx hb hK rfl hdg hk h
    | (4, x) :: t, h => exact sd_alenX hx hb hXS rfl hdg hk h
  | ldc n =>
    simp only [lkB, Bool.and_eq_true, decide_eq_true_eq] at hl
    obtain ⟨rfl, hl⟩ := hl
    match r, hl, h with
    | [v, q], hl, h =>
      simp only [Bool.and_eq_true, decide_eq_true_eq] at hl
      exact sd_ldc hx hb hts hown hl.1 (hts _ (wdq_mem hl.2)) hdg hk h
    | [v, a9, b9], hl, h =>
      simp only [decide_eq_true_eq] at hl
      obtain ⟨e1, ⟨rfl, rfl⟩ | ⟨rfl, rfl⟩⟩ := hl
      · exact sd_ldcS (tx := tx1) hx hb (own := "GeeseSums$Tape") (by rw [← e1]; exact hown) hEX.2.1 hdg hk h
      · exact sd_ldcS (tx := tx2) hx hb (own := "GeeseSums$Tape") (by rw [← e1]; exact hown) hEX.2.2.1 hdg hk h
  | ldc_w n =>
    simp only [lkB, Bool.and_eq_true, decide_eq_true_eq] at hl
    obtain ⟨⟨rfl, g1⟩, g2⟩ := hl
    exact sd_ldc_w hx hb hts hown g1 (hts _ (wdq_mem g2)) hdg hk h
  | ldc2_w n =>
    simp only [lkB, Bool.and_eq_true, decide_eq_true_eq] at hl
    obtain ⟨⟨rfl, g1⟩, g2⟩ := hl
    exact sd_ldc2 hx hb hts hown g1 (hts _ (wdq_mem g2)) hdg hk h
  | invokestatic n =>
    simp only [lkB, Bool.and_eq_true, decide_eq_true_eq] at hl
    obtain ⟨rfl, hl⟩ := hl
    have h9 : callp (Cd d) (pick r 0) r ls st sh R M cb sb k := h
    unfold invB at hl
    split at hl
    · rename_i hp
      rw [hp] at h9
      simp only [Bool.and_eq_true] at hl
      exact sd_callS hx hb hK hts hown hRc hRs hEX hBs hfr hlo hml hl.1.2 (hts _ (wdq_mem hl.2)) hdg hk h9
    · rename_i hp
      rw [hp] at h9
      simp [Nat.beq] at hl
    · rename_i hp
      rw [hp] at h9
      simp [Nat.beq] at hl
    · rename_i hp
      rw [hp] at h9
      simp only [Bool.and_eq_true] at hl
      exact sd_mmax hx hb hts hown (by omega) (by omega) hRc hRs (hts _ (wdq_mem hl.1.1.1.2)) (hts _ (wdq_mem hl.1.1.2)) (hts _ (wdq_mem hl.1.2)) (hts _ (wdq_mem hl.2)) hml hdg hk h9
    · rename_i hp
      rw [hp] at h9
      simp only [Bool.and_eq_true] at hl
      exact sd_mmin hx hb hts hown (by omega) (by omega) hRc hRs (hts _ (wdq_mem hl.1.1.1.2)) (hts _ (wdq_mem hl.1.1.2)) (hts _ (wdq_mem hl.1.2)) (hts _ (wdq_mem hl.2)) hml hdg hk h9
    · rename_i hp
      rw [hp] at h9
      simp only [Bool.and_eq_true] at hl
      exact sd_copy hx hb hK hts hown (by omega) (by omega) (hts _ (wdq_mem hl.1.1.1.2)) (hts _ (wdq_mem hl.1.2)) (hts _ (wdq_mem hl.1.1.2)) (hts _ (wdq_mem hl.2)) hml hdg hk h9
    · rename_i hp
      rw [hp] at h9
      simp [Nat.beq] at hl
    · rename_i hp
      rw [hp] at h9
      simp [Nat.beq] at hl
    · rename_i hp
      rw [hp] at h9
      simp [Nat.beq] at hl
    · rename_i hp
      rw [hp] at h9
      simp [Nat.beq] at hl
    · cases hl
  | invokevirtual n =>
    simp only [lkB, Bool.and_eq_true, decide_eq_true_eq] at hl
    obtain ⟨rfl, hl⟩ := hl
    have h9 : callp (Cd d) (pick r 0) r ls st sh R M cb sb k := h
    unfold invB at hl
    split at hl
    · rename_i hp
      rw [hp] at h9
      simp [Nat.beq] at hl
    · rename_i hp
      rw [hp] at h9
      simp only [Bool.and_eq_true] at hl
      exact sd_callV hx hb hK hts hown hRc hRs hEX hBs hfr hlo hml hl.1.2 hl.2 hdg hk h9
    · rename_i hp
      rw [hp] at h9
      simp [Nat.beq] at hl
    · rename_i hp
      rw [hp] at h9
      simp [Nat.beq] at hl
    · rename_i hp
      rw [hp] at h9
      simp [Nat.beq] at hl
    · rename_i hp
      rw [hp] at h9
      simp [Nat.beq] at hl
    · rename_i hp
      rw [hp] at h9
      simp only [Bool.and_eq_true] at hl
      exact sd_strL hx hb hK hts hown hEX hBs (by omega) (by omega) hRc hRs hml hl.2 hdg hk h9
    · rename_i hp
      rw [hp] at h9
      simp only [Bool.and_eq_true] at hl
      exact sd_strC hx hb hK hts hown hEX hBs (by omega) (by omega) hRc hRs hml hl.2 hdg hk h9
    · rename_i hp
      rw [hp] at h9
      simp only [Bool.and_eq_true] at hl
      exact sd_strI hx hb hK hts hown hEX hBs (by omega) (by omega) hRc hRs hml hl.2 hdg hk h9
    · rename_i hp
      rw [hp] at h9
      simp [Nat.beq] at hl
    · cases hl
  | invokespecial n =>
    simp only [lkB, Bool.and_eq_true, decide_eq_true_eq] at hl
    obtain ⟨rfl, hl⟩ := hl
    have h9 : callp (Cd d) (pick r 0) r ls st sh R M cb sb k := h
    unfold invB at hl
    split at hl
    · rename_i hp
      rw [hp] at h9
      simp [Nat.beq] at hl
    · rename_i hp
      rw [hp] at h9
      simp [Nat.beq] at hl
    · rename_i hp
      rw [hp] at h9
      simp only [Bool.and_eq_true] at hl
      exact sd_callI hx hb hK hts hown hRc hRs hEX hBs hfr hlo hml hl.1.2 hl.2 hdg hk h9
    · rename_i hp
      rw [hp] at h9
      simp [Nat.beq] at hl
    · rename_i hp
      rw [hp] at h9
      simp [Nat.beq] at hl
    · rename_i hp
      rw [hp] at h9
      simp [Nat.beq] at hl
    · rename_i hp
      rw [hp] at h9
      simp [Nat.beq] at hl
    · rename_i hp
      rw [hp] at h9
      simp [Nat.beq] at hl
    · rename_i hp
      rw [hp] at h9
      simp [Nat.beq] at hl
    · rename_i hp
      rw [hp] at h9
      simp only [Bool.and_eq_true] at hl
      exact sd_objInit hx hb hts hown (by omega) (by omega) (hts _ (wdq_mem hl.1.1.2)) (hts _ (wdq_mem hl.1.2)) (hts _ (wdq_mem hl.2)) hml hdg hk h9
    · cases hl
  | _ => exact False.elim h
end
