/-! BOTH ARE MADE -/
def gXR : List MOP := g11R ++ ([(0, 364, -1, 0)] ++ mkR12 364 365)
def gXM : List MOP := g11M ++ ([(0, 364, 0, 0)] ++ mkM12 364 365)
theorem len_g11 : (g11S.length : Int) = 364 := by decide +kernel
theorem RM_made (R : MEM) : RM (runm gXR R) := by
  have h : ∀ k : Nat, k < 74 → getm gXR 364 (k : Int) none = some (refT.getD k (-1)) := by decide +kernel
  intro k hk
  exact getm_of gXR 364 k none R _ (fun w hw => by cases hw) (h k hk)
theorem w_X12_made {d : Nat} {R M : MEM} {Q : RES} (hq : Q 0 SHX (runm gXR R) (anewM (clrM (runm gXM M) 0) 0)) : Mw (d + 2) 152 [vr 364] (g11S ++ [(12, 0)]) (zr (runm g11R R) 364 (-1)) (zr (runm g11M M) 364 0) 50 17024 Q := by
  have e : g11S ++ [(12, 0)] ++ mkS12 = SHX := by simp only [SHX, List.append_assoc]
  have el : ((g11S ++ [(12, 0)]).length : Int) = 365 := by rw [lenA, len_g11]; rfl
  refine w_X12_init (d := d + 1) (by decide +kernel) ?_
  rw [el, e]
  have hr : runm (mkR12 364 365) (zr (runm g11R R) 364 (-1)) = runm gXR R := by simp only [gXR, runm_app]; rfl
  have hm : runm (mkM12 364 365) (zr (runm g11M M) 364 0) = runm gXM M := by simp only [gXM, runm_app]; rfl
  rw [hr, hm]
  have h37 : runm gXM M 364 37 = 0 := getm_of gXM 364 37 none M 0 (fun w hw => by cases hw) (by decide +kernel)
  have h36 : runm gXM M 364 36 = 0 := getm_of gXM 364 36 none M 0 (fun w hw => by cases hw) (by decide +kernel)
  refine w_clearBank (RM_made R) h37 (by decide) (by decide) ?_
  refine ⟨by rw [fs364], ?_⟩
  refine w_startAnew (d := d) (b := 0) (RM_made R) ?_ (by decide) (by decide) ?_
  · simp (disch := decide) only [clrM, stm_ne, stm_neq]
    exact h36
  · exact hq
theorem law_made {X : Int × (Int → Int)} {d : Nat} {R M : MEM} {Q : RES} (hq : ∀ R M, GoX X (d + 3) 305 Q 10 [ve 0, vr 0, vr 364, vi 0] [] SHX (runm gXR R) (anewM (clrM (runm gXM M) 0) 0) 0 0) : GoX X (d + 3) 305 Q 0 [ve 0, vn, vn, vn] [] [] R M 415 41730 := by
  refine b_law_0 ?_
  simp only [newk_1, newk_2, newk_3, List.nil_append, List.length_nil, Int.natCast_zero]
  rw [ook_iff]
  refine ⟨rfl, ?_⟩
  refine w_X11_init (d := d) ?_
  simp only [newk_1, newk_2, newk_3, len_g11]
  rw [ook_iff]
  refine ⟨by decide +kernel, ?_⟩
  refine w_X12_made (d := d) ?_
  exact hq _ _
