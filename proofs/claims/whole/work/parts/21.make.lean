/-! CONSTRUCTORS: what they write -/
def skyS : SHP := [(100, 256), (100, 10), (100, 10), (100, 10)]
def skyR (a L : Int) : List MOP := [(0, L, -1, 0), (1, a, 0, L), (0, L + 1, -1, 0), (1, a, 1, L + 1), (0, L + 2, -1, 0), (1, a, 2, L + 2), (0, L + 3, -1, 0), (1, a, 3, L + 3)]
def rows0 (L : Int) : Nat → List MOP
  | 0 => []
  | n + 1 => (0, L, 0, 0) :: rows0 (L + 1) n
theorem newk_1 (kd n : Nat) (sh : SHP) (R M : MEM) : (newk kd n sh R M).1 = sh ++ [(kd, n)] := rfl
theorem newk_2 (kd n : Nat) (sh : SHP) (R M : MEM) : (newk kd n sh R M).2.1 = zr R (sh.length : Int) (-1) := rfl
theorem newk_3 (kd n : Nat) (sh : SHP) (R M : MEM) : (newk kd n sh R M).2.2 = zr M (sh.length : Int) 0 := rfl
theorem len1 (sh : SHP) (k n : Nat) : ((sh ++ [(k, n)]).length : Int) = (sh.length : Int) + 1 := by
  rw [List.length_append]
  rfl
theorem shk_app1 {sh : SHP} {a : Int} {k kd n : Nat} (h : (shk sh a).1 = k) (hk : k < 999) : (shk (sh ++ [(kd, n)]) a).1 = k := by
  obtain ⟨h0, h1⟩ := shk_lt h hk
  rw [shk_app h0 h1, h]
theorem w_X8_init {d : Nat} {sh : SHP} {R M : MEM} {a : Int} {Q : RES} (hs : (shk sh a).1 = 8) (hq : Q 0 (sh ++ skyS) (runm (skyR a sh.length) R) (runm (rows0 sh.length 4) M)) : Mw d 66 [vr a] sh R M 4 286 Q := by
  refine Mw_of mok66 rfl fun _ _ => b_X8_init_0 ?_
  have h1 := shk_app1 (kd := 100) (n := 256) hs (by omega)
  have h2 := shk_app1 (kd := 100) (n := 10) h1 (by omega)
  have h3 := shk_app1 (kd := 100) (n := 10) h2 (by omega)
  have h4 := shk_app1 (kd := 100) (n := 10) h3 (by omega)
  simp only [newk_1, newk_2, newk_3, ook_iff, h1, h2, h3, h4, len1, true_and]
  refine ⟨(shk_lt hs (by omega)).1, by omega, by omega, by omega, by omega, ?_⟩
  have e : sh ++ [(100, 256)] ++ [(100, 10)] ++ [(100, 10)] ++ [(100, 10)] = sh ++ skyS := by simp [skyS]
  rw [e]
  have e1 : (sh.length : Int) + 1 + 1 = sh.length + 2 := by omega
  have e2 : (sh.length : Int) + 2 + 1 = sh.length + 3 := by omega
  simp only [e1, e2]
  exact hq
