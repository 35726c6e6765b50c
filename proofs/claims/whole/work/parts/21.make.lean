/-! CONSTRUCTORS: what they write -/
def skyS : SHP := [(100, 256), (100, 10), (100, 10), (100, 10)]
def skyR (a L : Int) : List MOP := [(0, L, -1, 0), (1, a, 0, L), (0, L + 1, -1, 0), (1, a, 1, L + 1), (0, L + 2, -1, 0), (1, a, 2, L + 2), (0, L + 3, -1, 0), (1, a, 3, L + 3)]
def rows0 (L : Int) : Nat → List MOP
  | 0 => []
  | n + 1 => (0, L, 0, 0) :: rows0 (L + 1) n
theorem newk_1 (kd n : Nat) (sh : SHP) (R M : MEM) : (newk kd n sh R M).1 = sh ++ [(kd, n)] := rfl
theorem newk_2 (kd n : Nat) (sh : SHP) (R M : MEM) : (newk kd n sh R M).2.1 = zr R (sh.length : Int) (-1) := rfl
theorem newk_3 (kd n : Nat) (sh : SHP) (R M : MEM) : (newk kd n sh R M).2.2 = zr M (sh.length : Int) 0 := rfl
theorem len1 (sh : SHP) (k n : Nat) : ((sh ++ [(k, n)]).length : Int) = (sh.length : Int) + 1 := by
  rw [List.length_append]
  rfl
theorem shk_app1 {sh : SHP} {a : Int} {k kd n : Nat} (h : (shk sh a).1 = k) (hk : k < 999) : (shk (sh ++ [(kd, n)]) a).1 = k := by
  obtain ⟨h0, h1⟩ := shk_lt h hk
  rw [shk_app h0 h1, h]
theorem w_X8_init {d : Nat} {sh : SHP} {R M : MEM} {a : Int} {Q : RES} (hs : (shk sh a).1 = 8) (hq : Q 0 (sh ++ skyS) (runm (skyR a sh.length) R) (runm (rows0 sh.length 4) M)) : Mw d 66 [vr a] sh R M 4 286 Q := by
  refine Mw_of mok66 rfl fun _ _ => b_X8_init_0 ?_
  have h1 := shk_app1 (kd := 100) (n := 256) hs (by omega)
  have h2 := shk_app1 (kd := 100) (n := 10) h1 (by omega)
  have h3 := shk_app1 (kd := 100) (n := 10) h2 (by omega)
  have h4 := shk_app1 (kd := 100) (n := 10) h3 (by omega)
  simp only [newk_1, newk_2, newk_3, ook_iff, h1, h2, h3, h4, len1, true_and]
  refine ⟨(shk_lt hs (by omega)).1, by omega, by omega, by omega, by omega, ?_⟩
  have e : sh ++ [(100, 256)] ++ [(100, 10)] ++ [(100, 10)] ++ [(100, 10)] = sh ++ skyS := by simp [skyS]
  rw [e]
  have e1 : (sh.length : Int) + 1 + 1 = sh.length + 2 := by omega
  have e2 : (sh.length : Int) + 2 + 1 = sh.length + 3 := by omega
  simp only [e1, e2]
  exact hq
theorem c61 : ((61 : Nat) : Int) = 61 := rfl
theorem c9 : ((9 : Nat) : Int) = 9 := rfl
theorem new2_1 (N n : Nat) (sh : SHP) (R M : MEM) : (new2 N n sh R M).1 = sh ++ (105, N) :: List.replicate N (100, n) := rfl
theorem new2_2 (N n : Nat) (sh : SHP) (R M : MEM) : (new2 N n sh R M).2.1 = run1 (2, (sh.length : Int), (N : Int), 0) R := rfl
theorem new2_3 (N n : Nat) (sh : SHP) (R M : MEM) : (new2 N n sh R M).2.2 = run1 (3, (sh.length : Int), 0, 0) M := rfl
theorem len2 (sh : SHP) (N n : Nat) : ((sh ++ (105, N) :: List.replicate N (100, n)).length : Int) = (sh.length : Int) + (1 + (N : Int)) := by
  rw [List.length_append, List.length_cons, List.length_replicate]
  omega
theorem shk_app2 {sh : SHP} {a : Int} {k N n : Nat} (h : (shk sh a).1 = k) (hk : k < 999) : (shk (sh ++ (105, N) :: List.replicate N (100, n)) a).1 = k := by
  obtain ⟨h0, h1⟩ := shk_lt h hk
  rw [shk_app h0 h1, h]
def mkS3 : SHP := [(100, 8)]
def mkR3 (a L : Int) : List MOP := [(0, L, -1, 0), (1, a, 0, L)]
def mkM3 (a L : Int) : List MOP := [(0, L, 0, 0)]
theorem w_X3_init {d : Nat} {sh : SHP} {R M : MEM} {a : Int} {Q : RES} (hs : (shk sh a).1 = 3) (hq : Q 0 (sh ++ mkS3) (runm (mkR3 a sh.length) R) (runm (mkM3 a sh.length) M)) : Mw d 20 [vr a] sh R M 1 8 Q := by
  refine Mw_of mok20 rfl fun _ _ => b_X3_init_0 ?_
  have h1 := shk_app1 (kd := 100) (n := 8) hs (by omega)
  simp only [newk_1, newk_2, newk_3, new2_1, new2_2, new2_3, ook_iff, hs, h1, len1, len2, true_and]
  refine ⟨(shk_lt hs (by omega)).1, by omega, ?_⟩
  have e : sh ++ [(100, 8)] = sh ++ mkS3 := by simp only [mkS3, List.append_assoc, List.cons_append, List.nil_append]
  rw [e]
  try simp only [Int.add_assoc, Int.reduceAdd, c61, c9]
  exact hq
def mkS4 : SHP := [(100, 10), (100, 10), (100, 10), (100, 10), (100, 3), (100, 16), (100, 16), (100, 16), (100, 6), (100, 6), (100, 1600), (100, 32)]
def mkR4 (a L : Int) : List MOP := [(0, L, -1, 0), (1, a, 1, L), (0, L + 1, -1, 0), (1, a, 2, L + 1), (0, L + 2, -1, 0), (1, a, 3, L + 2), (0, L + 3, -1, 0), (1, a, 4, L + 3), (0, L + 4, -1, 0), (1, a, 6, L + 4), (0, L + 5, -1, 0), (1, a, 8, L + 5), (0, L + 6, -1, 0), (1, a, 9, L + 6), (0, L + 7, -1, 0), (1, a, 10, L + 7), (0, L + 8, -1, 0), (1, a, 12, L + 8), (0, L + 9, -1, 0), (1, a, 13, L + 9), (0, L + 10, -1, 0), (1, a, 14, L + 10), (0, L + 11, -1, 0), (1, a, 16, L + 11)]
def mkM4 (a L : Int) : List MOP := [(0, L, 0, 0), (0, L + 1, 0, 0), (0, L + 2, 0, 0), (0, L + 3, 0, 0), (0, L + 4, 0, 0), (0, L + 5, 0, 0), (0, L + 6, 0, 0), (0, L + 7, 0, 0), (0, L + 8, 0, 0), (0, L + 9, 0, 0), (0, L + 10, 0, 0), (0, L + 11, 0, 0)]
theorem w_X4_init {d : Nat} {sh : SHP} {R M : MEM} {a : Int} {Q : RES} (hs : (shk sh a).1 = 4) (hq : Q 0 (sh ++ mkS4) (runm (mkR4 a sh.length) R) (runm (mkM4 a sh.length) M)) : Mw d 22 [vr a] sh R M 12 1735 Q := by
  refine Mw_of mok22 rfl fun _ _ => b_X4_init_0 ?_
  have h1 := shk_app1 (kd := 100) (n := 10) hs (by omega)
  have h2 := shk_app1 (kd := 100) (n := 10) h1 (by omega)
  have h3 := shk_app1 (kd := 100) (n := 10) h2 (by omega)
  have h4 := shk_app1 (kd := 100) (n := 10) h3 (by omega)
  have h5 := shk_app1 (kd := 100) (n := 3) h4 (by omega)
  have h6 := shk_app1 (kd := 100) (n := 16) h5 (by omega)
  have h7 := shk_app1 (kd := 100) (n := 16) h6 (by omega)
  have h8 := shk_app1 (kd := 100) (n := 16) h7 (by omega)
  have h9 := shk_app1 (kd := 100) (n := 6) h8 (by omega)
  have h10 := shk_app1 (kd := 100) (n := 6) h9 (by omega)
  have h11 := shk_app1 (kd := 100) (n := 1600) h10 (by omega)
  have h12 := shk_app1 (kd := 100) (n := 32) h11 (by omega)
  simp only [newk_1, newk_2, newk_3, new2_1, new2_2, new2_3, ook_iff, hs, h1, h2, h3, h4, h5, h6, h7, h8, h9, h10, h11, h12, len1, len2, true_and]
  refine ⟨(shk_lt hs (by omega)).1, by omega, by omega, by omega, by omega, by omega, by omega, by omega, by omega, by omega, by omega, by omega, by omega, ?_⟩
  have e : sh ++ [(100, 10)] ++ [(100, 10)] ++ [(100, 10)] ++ [(100, 10)] ++ [(100, 3)] ++ [(100, 16)] ++ [(100, 16)] ++ [(100, 16)] ++ [(100, 6)] ++ [(100, 6)] ++ [(100, 1600)] ++ [(100, 32)] = sh ++ mkS4 := by simp only [mkS4, List.append_assoc, List.cons_append, List.nil_append]
  rw [e]
  try simp only [Int.add_assoc, Int.reduceAdd, c61, c9]
  exact hq
def mkS2 : SHP := [(100, 3)]
def mkR2 (a L : Int) (v1 v2 v3 : Int) : List MOP := [(1, a, 0, v1), (1, a, 1, v2), (1, a, 2, v3), (0, L, -1, 0), (1, a, 3, L)]
def mkM2 (a L : Int) : List MOP := [(0, L, 0, 0)]
theorem w_X2_init {d : Nat} {sh : SHP} {R M : MEM} {a v1 v2 v3 : Int} {Q : RES} (hs : (shk sh a).1 = 2) (hq : Q 0 (sh ++ mkS2) (runm (mkR2 a sh.length v1 v2 v3) R) (runm (mkM2 a sh.length) M)) : Mw d 13 [vr a, vr v1, vr v2, vr v3] sh R M 1 3 Q := by
  refine Mw_of mok13 rfl fun _ _ => b_X2_init_0 ?_
  have h1 := shk_app1 (kd := 100) (n := 3) hs (by omega)
  simp only [newk_1, newk_2, newk_3, new2_1, new2_2, new2_3, ook_iff, hs, h1, len1, len2, true_and]
  refine ⟨(shk_lt hs (by omega)).1, by omega, ?_⟩
  have e : sh ++ [(100, 3)] = sh ++ mkS2 := by simp only [mkS2, List.append_assoc, List.cons_append, List.nil_append]
  rw [e]
  try simp only [Int.add_assoc, Int.reduceAdd, c61, c9]
  exact hq
def mkS5 : SHP := [(101, 10), (101, 6)]
def mkR5 (a L : Int) (v1 v2 : Int) : List MOP := [(1, a, 2, v1), (1, a, 5, v2), (0, L, -1, 0), (1, a, 3, L), (0, L + 1, -1, 0), (1, a, 4, L + 1)]
def mkM5 (a L : Int) : List MOP := [(0, L, 0, 0), (0, L + 1, 0, 0), (1, a, 1, -1)]
theorem w_X5_init {d : Nat} {sh : SHP} {R M : MEM} {a v1 v2 : Int} {Q : RES} (hs : (shk sh a).1 = 5) (hq : Q 0 (sh ++ mkS5) (runm (mkR5 a sh.length v1 v2) R) (runm (mkM5 a sh.length) M)) : Mw d 33 [vr a, vr v1, vr v2] sh R M 2 16 Q := by
  refine Mw_of mok33 rfl fun _ _ => b_X5_init_0 ?_
  have h1 := shk_app1 (kd := 101) (n := 10) hs (by omega)
  have h2 := shk_app1 (kd := 101) (n := 6) h1 (by omega)
  simp only [newk_1, newk_2, newk_3, new2_1, new2_2, new2_3, ook_iff, hs, h1, h2, len1, len2, true_and]
  refine ⟨(shk_lt hs (by omega)).1, by omega, by omega, ?_⟩
  have e : sh ++ [(101, 10)] ++ [(101, 6)] = sh ++ mkS5 := by simp only [mkS5, List.append_assoc, List.cons_append, List.nil_append]
  rw [e]
  try simp only [Int.add_assoc, Int.reduceAdd, c61, c9]
  exact hq
def mkS6 : SHP := (105, 61) :: List.replicate 61 (100, 10) ++ [(100, 10)]
def mkR6 (a L : Int) : List MOP := [(2, L, 61, 0), (1, a, 0, L), (0, L + 62, -1, 0), (1, a, 1, L + 62)]
def mkM6 (a L : Int) : List MOP := [(3, L, 0, 0), (0, L + 62, 0, 0)]
theorem w_X6_init {d : Nat} {sh : SHP} {R M : MEM} {a : Int} {Q : RES} (hs : (shk sh a).1 = 6) (hq : Q 0 (sh ++ mkS6) (runm (mkR6 a sh.length) R) (runm (mkM6 a sh.length) M)) : Mw d 52 [vr a] sh R M 63 681 Q := by
  refine Mw_of mok52 rfl fun _ _ => b_X6_init_0 ?_
  have h1 := shk_app2 (N := 61) (n := 10) hs (by omega)
  have h2 := shk_app1 (kd := 100) (n := 10) h1 (by omega)
  simp only [newk_1, newk_2, newk_3, new2_1, new2_2, new2_3, ook_iff, hs, h1, h2, len1, len2, true_and]
  refine ⟨(shk_lt hs (by omega)).1, by omega, by omega, by omega, ?_⟩
  have e : sh ++ (105, 61) :: List.replicate 61 (100, 10) ++ [(100, 10)] = sh ++ mkS6 := by simp only [mkS6, List.append_assoc, List.cons_append, List.nil_append]
  rw [e]
  try simp only [Int.add_assoc, Int.reduceAdd, c61, c9]
  exact hq
def mkS7 : SHP := [(100, 20), (100, 20), (100, 20), (100, 20), (100, 20), (100, 3), (100, 3), (103, 3)]
def mkR7 (a L : Int) (v1 : Int) : List MOP := [(1, a, 6, v1), (0, L, -1, 0), (1, a, 1, L), (0, L + 1, -1, 0), (1, a, 2, L + 1), (0, L + 2, -1, 0), (1, a, 3, L + 2), (0, L + 3, -1, 0), (1, a, 4, L + 3), (0, L + 4, -1, 0), (1, a, 5, L + 4), (0, L + 5, -1, 0), (1, a, 7, L + 5), (0, L + 6, -1, 0), (1, a, 9, L + 6), (0, L + 7, -1, 0), (1, a, 10, L + 7)]
def mkM7 (a L : Int) : List MOP := [(0, L, 0, 0), (0, L + 1, 0, 0), (0, L + 2, 0, 0), (0, L + 3, 0, 0), (0, L + 4, 0, 0), (0, L + 5, 0, 0), (0, L + 6, 0, 0), (0, L + 7, 0, 0)]
theorem w_X7_init {d : Nat} {sh : SHP} {R M : MEM} {a v1 : Int} {Q : RES} (hs : (shk sh a).1 = 7) (hq : Q 0 (sh ++ mkS7) (runm (mkR7 a sh.length v1) R) (runm (mkM7 a sh.length) M)) : Mw d 60 [vr a, vr v1] sh R M 8 109 Q := by
  refine Mw_of mok60 rfl fun _ _ => b_X7_init_0 ?_
  have h1 := shk_app1 (kd := 100) (n := 20) hs (by omega)
  have h2 := shk_app1 (kd := 100) (n := 20) h1 (by omega)
  have h3 := shk_app1 (kd := 100) (n := 20) h2 (by omega)
  have h4 := shk_app1 (kd := 100) (n := 20) h3 (by omega)
  have h5 := shk_app1 (kd := 100) (n := 20) h4 (by omega)
  have h6 := shk_app1 (kd := 100) (n := 3) h5 (by omega)
  have h7 := shk_app1 (kd := 100) (n := 3) h6 (by omega)
  have h8 := shk_app1 (kd := 103) (n := 3) h7 (by omega)
  simp only [newk_1, newk_2, newk_3, new2_1, new2_2, new2_3, ook_iff, hs, h1, h2, h3, h4, h5, h6, h7, h8, len1, len2, true_and]
  refine ⟨(shk_lt hs (by omega)).1, by omega, by omega, by omega, by omega, by omega, by omega, by omega, by omega, ?_⟩
  have e : sh ++ [(100, 20)] ++ [(100, 20)] ++ [(100, 20)] ++ [(100, 20)] ++ [(100, 20)] ++ [(100, 3)] ++ [(100, 3)] ++ [(103, 3)] = sh ++ mkS7 := by simp only [mkS7, List.append_assoc, List.cons_append, List.nil_append]
  rw [e]
  try simp only [Int.add_assoc, Int.reduceAdd, c61, c9]
  exact hq
def mkS1 : SHP := [(100, 4)] ++ (105, 9) :: List.replicate 9 (100, 4) ++ [(100, 8)]
def mkR1 (a L : Int) (v1 : Int) : List MOP := [(1, a, 4, v1), (0, L, -1, 0), (1, a, 1, L), (2, L + 1, 9, 0), (1, a, 2, L + 1), (0, L + 11, -1, 0), (1, a, 3, L + 11)]
def mkM1 (a L : Int) : List MOP := [(0, L, 0, 0), (3, L + 1, 0, 0), (0, L + 11, 0, 0)]
theorem w_X1_init {d : Nat} {sh : SHP} {R M : MEM} {a v1 : Int} {Q : RES} (hs : (shk sh a).1 = 1) (hq : Q 0 (sh ++ mkS1) (runm (mkR1 a sh.length v1) R) (runm (mkM1 a sh.length) M)) : Mw d 7 [vr a, vr v1] sh R M 12 57 Q := by
  refine Mw_of mok7 rfl fun _ _ => b_X1_init_0 ?_
  have h1 := shk_app1 (kd := 100) (n := 4) hs (by omega)
  have h2 := shk_app2 (N := 9) (n := 4) h1 (by omega)
  have h3 := shk_app1 (kd := 100) (n := 8) h2 (by omega)
  simp only [newk_1, newk_2, newk_3, new2_1, new2_2, new2_3, ook_iff, hs, h1, h2, h3, len1, len2, true_and]
  refine ⟨(shk_lt hs (by omega)).1, by omega, by omega, by omega, by omega, ?_⟩
  have e : sh ++ [(100, 4)] ++ (105, 9) :: List.replicate 9 (100, 4) ++ [(100, 8)] = sh ++ mkS1 := by simp only [mkS1, List.append_assoc, List.cons_append, List.nil_append]
  rw [e]
  try simp only [Int.add_assoc, Int.reduceAdd, c61, c9]
  exact hq
theorem shk_ap {sh t : SHP} {a : Int} {k : Nat} (h : (shk sh a).1 = k) (hk : k < 999) : (shk (sh ++ t) a).1 = k := by
  obtain ⟨h0, h1⟩ := shk_lt h hk
  rw [shk_app h0 h1, h]
theorem lenS (sh : SHP) : ((sh ++ skyS).length : Int) = (sh.length : Int) + 4 := by
  rw [List.length_append]
  rfl
theorem shk_e1 {sh : SHP} {k n : Nat} : (shk (sh ++ [(k, n)]) (sh.length : Int)).1 = k := by rw [shk_end]
def mkS10 : SHP := [(8, 0)] ++ skyS ++ [(8, 0)] ++ skyS ++ [(100, 3), (100, 41)]
def mkR10 (a L : Int) : List MOP := [(0, L, -1, 0)] ++ (skyR L (L + 1) ++ ([(1, a, 0, L), (0, L + 5, -1, 0)] ++ (skyR (L + 5) (L + 6) ++ [(1, a, 1, L + 5), (0, L + 10, -1, 0), (1, a, 2, L + 10), (0, L + 11, -1, 0), (1, a, 3, L + 11)])))
def mkM10 (L : Int) : List MOP := [(0, L, 0, 0)] ++ (rows0 (L + 1) 4 ++ ([(0, L + 5, 0, 0)] ++ (rows0 (L + 6) 4 ++ [(0, L + 10, 0, 0), (0, L + 11, 0, 0)])))
theorem w_X10_init {d : Nat} {sh : SHP} {R M : MEM} {a : Int} {Q : RES} (hs : (shk sh a).1 = 10) (hq : Q 0 (sh ++ mkS10) (runm (mkR10 a sh.length) R) (runm (mkM10 sh.length) M)) : Mw (d + 1) 95 [vr a] sh R M 12 638 Q := by
  refine Mw_of mok95 rfl fun _ _ => b_X10_init_0 ?_
  refine ⟨(shk_lt hs (by omega)).1, ?_⟩
  show ook (sh ++ [(8, 0)]) 8 _ _
  rw [ook_iff]
  refine ⟨shk_e1, ?_⟩
  refine w_X8_init (d := d) shk_e1 ?_
  show ook (sh ++ [(8, 0)] ++ skyS) 10 a _
  rw [ook_iff]
  refine ⟨shk_ap (shk_ap hs (by omega)) (by omega), ?_⟩
  show ook (sh ++ [(8, 0)] ++ skyS ++ [(8, 0)]) 8 _ _
  rw [ook_iff]
  refine ⟨shk_e1, ?_⟩
  refine w_X8_init (d := d) shk_e1 ?_
  have h4 : (shk (sh ++ [(8, 0)] ++ skyS ++ [(8, 0)] ++ skyS) a).1 = 10 := shk_ap (shk_ap (shk_ap (shk_ap hs (by omega)) (by omega)) (by omega)) (by omega)
  have h5 := shk_app1 (kd := 100) (n := 3) h4 (by omega)
  have h6 := shk_app1 (kd := 100) (n := 41) h5 (by omega)
  simp only [newk_1, newk_2, newk_3, ook_iff, h4, h5, h6, len1, lenS, true_and]
  refine ⟨by omega, by omega, ?_⟩
  simp only [Int.add_assoc, Int.reduceAdd]
  have e : sh ++ [(8, 0)] ++ skyS ++ [(8, 0)] ++ skyS ++ [(100, 3)] ++ [(100, 41)] = sh ++ mkS10 := by simp only [mkS10, List.append_assoc, List.cons_append, List.nil_append]
  rw [e]
  simp only [mkR10, mkM10, runm_app] at hq
  exact hq
theorem b_X0_init_8z {d : Nat} {Q : RES} {sh : SHP} {R M : MEM} {v0 v1 : Int} (h : (if 40 < v1 then Q 0 sh R M else ook sh 0 v0 False)) : Go d 0 Q 8 [vr v0, vi v1] [] sh R M 0 0 :=
  Go_wp (cuts := [(8, [1, 1])]) 15 8 mok0 rfl h
def actsS : Nat → SHP
  | 0 => []
  | n + 1 => [(8, 0)] ++ (skyS ++ actsS n)
def actsR (A : Int) : Nat → Int → Int → List MOP
  | 0, _, _ => []
  | n + 1, i, L => [(0, L, -1, 0)] ++ (skyR L (L + 1) ++ ([(1, A, i, L)] ++ actsR A n (i + 1) (L + 5)))
def actsM : Nat → Int → List MOP
  | 0, _ => []
  | n + 1, L => [(0, L, 0, 0)] ++ (rows0 (L + 1) 4 ++ actsM n (L + 5))
theorem acts_loop {d : Nat} {a A : Int} {Q : RES} : ∀ (n : Nat) (i : Int) (sh : SHP) (R M : MEM), 0 ≤ i → i + (n : Int) = 41 → (shk sh a).1 = 0 → R a 0 = A → shk sh A = (104, 41) → Q 0 (sh ++ actsS n) (runm (actsR A n i sh.length) R) (runm (actsM n sh.length) M) → Go (d + 1) 0 Q 8 [vr a, vi i] [] sh R M (5 * n) (297 * n)
  | 0, i, sh, R, M, h0, hi, ha, hR, hA, hq => by
    refine b_X0_init_8z ?_
    rw [if_pos (by omega)]
    have e : sh ++ actsS 0 = sh := List.append_nil sh
    rw [e] at hq
    exact hq
  | n + 1, i, sh, R, M, h0, hi, ha, hR, hA, hq => by
    refine b_X0_init_8 (cb := 5 * n) (sb := 297 * n) ?_
    rw [if_neg (by omega), ook_iff]
    refine ⟨ha, ?_⟩
    show ook (sh ++ [(8, 0)]) 8 _ _
    rw [ook_iff]
    refine ⟨shk_e1, ?_⟩
    refine w_X8_init (d := d) shk_e1 ?_
    obtain ⟨a0, a1⟩ := shk_lt ha (by omega)
    have hA1 : (shk sh A).1 = 104 := by rw [hA]
    obtain ⟨b0, b1⟩ := shk_lt hA1 (by omega)
    have hne : a ≠ A := by
      intro e
      rw [← e, ha] at hA1
      cases hA1
    have hA2 : shk (sh ++ [(8, 0)] ++ skyS) A = (104, 41) := by
      rw [List.append_assoc, shk_app b0 b1, hA]
    have ha2 : (shk (sh ++ [(8, 0)] ++ skyS) a).1 = 0 := by
      rw [List.append_assoc, shk_app a0 a1, ha]
    rw [hR, aok_iff, ook_iff, newk_1, hA2]
    refine ⟨rfl, h0, by show i < 41; omega, shk_ap shk_e1 (by omega), ?_⟩
    have e1 : iadd i 1 = i + 1 := iadd_of (by omega) (by omega)
    rw [e1]
    have hl : ((sh ++ [(8, 0)] ++ skyS).length : Int) = (sh.length : Int) + 5 := by
      rw [lenS, len1]
      omega
    refine acts_loop n (i + 1) _ _ _ (by omega) (by omega) ha2 ?_ hA2 ?_
    · simp only [newk_2, len1, skyR, runm, run1, stm, zr]
      simp only [hne, false_and, if_false]
      repeat rw [if_neg (by omega)]
      exact hR
    · rw [hl]
      simp only [actsS, actsR, actsM, runm_app] at hq
      simp only [len1, newk_2, newk_3]
      have e : sh ++ [(8, 0)] ++ skyS ++ actsS n = sh ++ ([(8, 0)] ++ (skyS ++ actsS n)) := by simp only [List.append_assoc]
      rw [e]
      exact hq
def mkS0 : SHP := [(104, 41)] ++ actsS 41
def mkR0 (a L : Int) : List MOP := [(0, L, -1, 0), (1, a, 0, L)] ++ actsR L 41 0 (L + 1)
def mkM0 (L : Int) : List MOP := [(0, L, 0, 0)] ++ actsM 41 (L + 1)
theorem w_X0_init {d : Nat} {sh : SHP} {R M : MEM} {a : Int} {Q : RES} (hs : (shk sh a).1 = 0) (hq : Q 0 (sh ++ mkS0) (runm (mkR0 a sh.length) R) (runm (mkM0 sh.length) M)) : Mw (d + 1) 0 [vr a] sh R M 206 12218 Q := by
  refine Mw_of mok0 rfl fun _ _ => b_X0_init_0 ?_
  refine ⟨(shk_lt hs (by omega)).1, by omega, ?_⟩
  show ook (sh ++ [(104, 41)]) 0 a _
  have h1 := shk_app1 (kd := 104) (n := 41) hs (by omega)
  rw [ook_iff]
  refine ⟨h1, ?_⟩
  refine acts_loop (A := (sh.length : Int)) 41 0 _ _ _ (by omega) (by omega) h1 (stm_hit _ _ _ _) shk_end ?_
  rw [newk_1, len1]
  simp only [newk_2, newk_3]
  have e : sh ++ [(104, 41)] ++ actsS 41 = sh ++ mkS0 := by simp only [mkS0, List.append_assoc]
  rw [e]
  simp only [mkR0, mkM0, runm_app] at hq
  exact hq
theorem w_X9_withLetter {d : Nat} {sh : SHP} {R M : MEM} {w c : Int} {Q : RES} (hq : Q (ladd (lmul w 32) (iadd (isub c 97) 1)) sh R M) : Mw d 91 [vl w, vi c] sh R M 0 0 Q :=
  Mw_of mok91 rfl fun _ _ => b_X9_withLetter_0 hq
def kwf (A : Int) : List Int → Int → Int → List MOP
  | [], _, _ => []
  | c :: t, w, cur => if c = 32 then kwf A t (w + 1) 0 else (1, A, w, ladd (lmul cur 32) (iadd (isub c 97) 1)) :: kwf A t w (ladd (lmul cur 32) (iadd (isub c 97) 1))
def kwok : List Int → Int → Bool
  | [], _ => true
  | c :: t, w => decide (w < 18) && (if c = 32 then kwok t (w + 1) else kwok t w)
theorem tape_loop {d : Nat} {a A : Int} {sh : SHP} {R : MEM} {Q : RES} (ha : (shk sh a).1 = 9) (hR : R a 2 = A) (hA : shk sh A = (101, 18)) : ∀ (t : List Int) (k : Nat) (w cur : Int) (M : MEM), (strB 1).drop k = t → k + t.length = 81 → kwok t w = true → 0 ≤ w → M A w = cur → (∀ j, w < j → M A j = 0) → Q 0 sh R (runm (kwf A t w cur) M) → Go (d + 1) 81 Q 26 [vr a, vi w, vi (k : Int)] [] sh R M 0 0
  | [], k, w, cur, M, hd, hk, hw, h0, hc, hz, hq => by
    refine b_X9_init_26 ?_
    rw [if_neg (by simp at hk; omega)]
    exact hq
  | c :: t, k, w, cur, M, hd, hk, hw, h0, hc, hz, hq => by
    refine b_X9_init_26 ?_
    have hk2 : k < 81 := by simp at hk; omega
    have hk3 : k + 1 + t.length = 81 := by simp at hk; omega
    unfold kwok at hw
    simp only [Bool.and_eq_true, decide_eq_true_eq] at hw
    obtain ⟨hw1, hw2⟩ := hw
    have hg : (strB 1).getD ((k : Int)).toNat 0 = c := by
      rw [Int.toNat_natCast, List.getD_eq_getElem?_getD]
      have : ((strB 1).drop k)[0]? = some c := by rw [hd]; rfl
      rw [List.getElem?_drop] at this
      rw [Nat.add_zero] at this
      rw [this]
      rfl
    have hd2 : (strB 1).drop (k + 1) = t := by
      rw [← List.drop_drop, hd]
      rfl
    have e2 : iadd (k : Int) 1 = ((k + 1 : Nat) : Int) := by rw [iadd_of (by omega) (by omega)]; omega
    rw [if_pos (by omega), if_pos hw1, hg]
    refine ⟨by omega, by omega, ?_⟩
    unfold kwf at hq
    by_cases hs : c = 32
    · rw [if_pos hs] at hq hw2 ⊢
      have e1 : iadd w 1 = w + 1 := iadd_of (by omega) (by omega)
      rw [e1, e2]
      exact tape_loop ha hR hA t (k + 1) (w + 1) 0 M hd2 hk3 hw2 (by omega) (hz _ (by omega)) (fun j hj => hz j (by omega)) hq
    · rw [if_neg hs] at hq hw2 ⊢
      rw [ook_iff, ook_iff, aok_iff, hR, hA, hc]
      refine ⟨ha, ha, rfl, h0, hw1, by omega, by omega, ?_⟩
      refine w_X9_withLetter (d := d) ?_
      rw [aok_iff, hA, e2]
      refine ⟨rfl, h0, hw1, ?_⟩
      refine tape_loop ha hR hA t (k + 1) w _ _ hd2 hk3 hw2 h0 (stm_hit _ _ _ _) (fun j hj => ?_) hq
      rw [stm_same, if_neg (by omega)]
      exact hz j hj
def mkS9 : SHP := [(100, 1600), (101, 18), (100, 1601), (100, 1601), (101, 1601)]
def mkR9 (a L : Int) : List MOP := [(0, L, -1, 0), (1, a, 0, L), (0, L + 1, -1, 0), (1, a, 2, L + 1), (0, L + 2, -1, 0), (1, a, 3, L + 2), (0, L + 3, -1, 0), (1, a, 4, L + 3), (0, L + 4, -1, 0), (1, a, 5, L + 4)]
def mkM9 (L : Int) : List MOP := rows0 L 5 ++ kwf (L + 1) (strB 1) 0 0
theorem w_X9_init {d : Nat} {sh : SHP} {R M : MEM} {a : Int} {Q : RES} (hs : (shk sh a).1 = 9) (hq : Q 0 (sh ++ mkS9) (runm (mkR9 a sh.length) R) (runm (mkM9 sh.length) M)) : Mw (d + 1) 81 [vr a] sh R M 5 6421 Q := by
  refine Mw_of mok81 rfl fun _ _ => b_X9_init_0 ?_
  have h1 := shk_app1 (kd := 100) (n := 1600) hs (by omega)
  have h2 := shk_app1 (kd := 101) (n := 18) h1 (by omega)
  have h3 := shk_app1 (kd := 100) (n := 1601) h2 (by omega)
  have h4 := shk_app1 (kd := 100) (n := 1601) h3 (by omega)
  have h5 := shk_app1 (kd := 101) (n := 1601) h4 (by omega)
  simp only [newk_1, newk_2, newk_3, ook_iff, h1, h2, h3, h4, h5, len1, true_and]
  refine ⟨(shk_lt hs (by omega)).1, by omega, by omega, by omega, by omega, by omega, ?_⟩
  simp only [Int.add_assoc, Int.reduceAdd]
  obtain ⟨a0, a1⟩ := shk_lt hs (by omega)
  refine tape_loop (A := (sh.length : Int) + 1) h5 ?_ ?_ (strB 1) 0 0 0 _ rfl rfl (by decide +kernel) (by omega) ?_ ?_ ?_
  · simp only [stm, zr]
    repeat (first | rw [if_pos (by omega)] | rw [if_neg (by omega)])
    exact if_pos ⟨trivial, trivial⟩
  · have e : sh ++ [(100, 1600)] ++ [(101, 18)] ++ [(100, 1601)] ++ [(100, 1601)] ++ [(101, 1601)] = (sh ++ [(100, 1600)]) ++ (101, 18) :: [(100, 1601), (100, 1601), (101, 1601)] := by simp only [List.append_assoc, List.cons_append, List.nil_append]
    rw [e, ← len1 sh 100 1600]
    exact shk_end
  · simp only [zr]
    repeat (first | rw [if_pos (by omega)] | rw [if_neg (by omega)])
    exact if_pos trivial
  · intro j hj
    simp only [zr]
    repeat (first | rw [if_pos (by omega)] | rw [if_neg (by omega)])
    exact if_pos trivial
  · have e : sh ++ [(100, 1600)] ++ [(101, 18)] ++ [(100, 1601)] ++ [(100, 1601)] ++ [(101, 1601)] = sh ++ mkS9 := by simp only [mkS9, List.append_assoc, List.cons_append, List.nil_append]
    rw [e]
    simp only [mkM9, runm_app, rows0, Int.add_assoc, Int.reduceAdd] at hq
    exact hq
