/-! THE CLASS FLIES -/
/-- the class's sky A is S -/
def SKY (δ : Int) (A : MEM) (S : SK) : Prop := (∀ w l : Int, 0 ≤ w → w < 16 → 1 ≤ l → l ≤ 16 → A 1 (16 * w + (S 216 + l) % 16) = if l ≤ 12 then S (12 * w + l - 1) else 0) ∧ (∀ t : Int, 0 ≤ t → t < 10 → A 3 t = S (192 + t)) ∧ (∀ t : Int, 0 ≤ t → t < 10 → A 4 t = S (202 + t)) ∧ (A 0 4 = S 212 + δ) ∧ (A 0 5 = S 213) ∧ (A 0 6 = sm S 0 192) ∧ (A 0 7 = S 214) ∧ (A 0 8 = S 215) ∧ (A 0 9 = S 217) ∧ (A 0 10 = S 216)
theorem sky_on {δ : Int} {A : MEM} {S : SK} (h : SKY δ A S) : ∀ w l : Int, 0 ≤ w → w < 16 → 1 ≤ l → l ≤ 16 → A 1 (16 * w + (S 216 + l) % 16) = if l ≤ 12 then S (12 * w + l - 1) else 0 := h.1
theorem sky_th {δ : Int} {A : MEM} {S : SK} (h : SKY δ A S) : ∀ t : Int, 0 ≤ t → t < 10 → A 3 t = S (192 + t) := h.2.1
theorem sky_ca {δ : Int} {A : MEM} {S : SK} (h : SKY δ A S) : ∀ t : Int, 0 ≤ t → t < 10 → A 4 t = S (202 + t) := h.2.2.1
theorem sky_be {δ : Int} {A : MEM} {S : SK} (h : SKY δ A S) : A 0 4 = S 212 + δ := h.2.2.2.1
theorem sky_br {δ : Int} {A : MEM} {S : SK} (h : SKY δ A S) : A 0 5 = S 213 := h.2.2.2.2.1
theorem sky_fl {δ : Int} {A : MEM} {S : SK} (h : SKY δ A S) : A 0 6 = sm S 0 192 := h.2.2.2.2.2.1
theorem sky_lo {δ : Int} {A : MEM} {S : SK} (h : SKY δ A S) : A 0 7 = S 214 := h.2.2.2.2.2.2.1
theorem sky_ta {δ : Int} {A : MEM} {S : SK} (h : SKY δ A S) : A 0 8 = S 215 := h.2.2.2.2.2.2.2.1
theorem sky_se {δ : Int} {A : MEM} {S : SK} (h : SKY δ A S) : A 0 9 = S 217 := h.2.2.2.2.2.2.2.2.1
theorem sky_bt {δ : Int} {A : MEM} {S : SK} (h : SKY δ A S) : A 0 10 = S 216 := h.2.2.2.2.2.2.2.2.2
section
variable {δ : Int} {A : MEM} {S : SK}
theorem sky_there {t v : Int} (h : SKY δ A S) (h0 : 0 ≤ t) (h1 : t < 10) : SKY δ (stm A 3 t v) (upf S (192 + t) v) := by
  obtain ⟨a1, a2, a3, a4, a5, a6, a7, a8, a9, a10⟩ := h
  have e : ∀ i, i ≠ 192 + t → upf S (192 + t) v i = S i := fun i hi => upf_ne hi
  refine ⟨fun w l w0 w1 l0 l1 => ?_, fun u u0 u1 => ?_, fun u u0 u1 => ?_, ?_, ?_, ?_, ?_, ?_, ?_, ?_⟩
  · rw [e 216 (by omega), stm_neq (by omega), a1 w l w0 w1 l0 l1]
    split
    · rw [e _ (by omega)]
    · rfl
  · by_cases hu : u = t
    · subst hu; rw [stm_hit, upf_hit]
    · rw [stm_neq (by omega), upf_ne (by omega)]; exact a2 u u0 u1
  · rw [stm_neq (by omega), e _ (by omega)]; exact a3 u u0 u1
  · rw [stm_neq (by omega), e _ (by omega)]; exact a4
  · rw [stm_neq (by omega), e _ (by omega)]; exact a5
  · rw [stm_neq (by omega), sm_out 192 (by omega)]; exact a6
  · rw [stm_neq (by omega), e _ (by omega)]; exact a7
  · rw [stm_neq (by omega), e _ (by omega)]; exact a8
  · rw [stm_neq (by omega), e _ (by omega)]; exact a9
  · rw [stm_neq (by omega), e _ (by omega)]; exact a10
theorem sky_came {t v : Int} (h : SKY δ A S) (h0 : 0 ≤ t) (h1 : t < 10) : SKY δ (stm A 4 t v) (upf S (202 + t) v) := by
  obtain ⟨a1, a2, a3, a4, a5, a6, a7, a8, a9, a10⟩ := h
  have e : ∀ i, i ≠ 202 + t → upf S (202 + t) v i = S i := fun i hi => upf_ne hi
  refine ⟨fun w l w0 w1 l0 l1 => ?_, fun u u0 u1 => ?_, fun u u0 u1 => ?_, ?_, ?_, ?_, ?_, ?_, ?_, ?_⟩
  · rw [e 216 (by omega), stm_neq (by omega), a1 w l w0 w1 l0 l1]
    split
    · rw [e _ (by omega)]
    · rfl
  · rw [stm_neq (by omega), e _ (by omega)]; exact a2 u u0 u1
  · by_cases hu : u = t
    · subst hu; rw [stm_hit, upf_hit]
    · rw [stm_neq (by omega), upf_ne (by omega)]; exact a3 u u0 u1
  · rw [stm_neq (by omega), e _ (by omega)]; exact a4
  · rw [stm_neq (by omega), e _ (by omega)]; exact a5
  · rw [stm_neq (by omega), sm_out 192 (by omega)]; exact a6
  · rw [stm_neq (by omega), e _ (by omega)]; exact a7
  · rw [stm_neq (by omega), e _ (by omega)]; exact a8
  · rw [stm_neq (by omega), e _ (by omega)]; exact a9
  · rw [stm_neq (by omega), e _ (by omega)]; exact a10
theorem sky_arr {i v : Int} (h : SKY δ A S) : SKY δ (stm A 2 i v) S := by
  obtain ⟨a1, a2, a3, a4, a5, a6, a7, a8, a9, a10⟩ := h
  refine ⟨fun w l w0 w1 l0 l1 => ?_, fun u u0 u1 => ?_, fun u u0 u1 => ?_, ?_, ?_, ?_, ?_, ?_, ?_, ?_⟩
  all_goals rw [stm_neq (by omega)]
  all_goals first | exact a1 w l w0 w1 l0 l1 | exact a2 u u0 u1 | exact a3 u u0 u1 | assumption
theorem sky_bred {v : Int} (h : SKY δ A S) : SKY δ (stm A 0 5 v) (upf S 213 v) := by
  obtain ⟨a1, a2, a3, a4, a5, a6, a7, a8, a9, a10⟩ := h
  have e : ∀ i, i ≠ 213 → upf S 213 v i = S i := fun i hi => upf_ne hi
  refine ⟨fun w l w0 w1 l0 l1 => ?_, fun u u0 u1 => ?_, fun u u0 u1 => ?_, ?_, ?_, ?_, ?_, ?_, ?_, ?_⟩
  · rw [e 216 (by omega), stm_neq (by omega), a1 w l w0 w1 l0 l1]
    split
    · rw [e _ (by omega)]
    · rfl
  · rw [stm_neq (by omega), e _ (by omega)]; exact a2 u u0 u1
  · rw [stm_neq (by omega), e _ (by omega)]; exact a3 u u0 u1
  · rw [stm_neq (by omega), e _ (by omega)]; exact a4
  · rw [stm_hit, upf_hit]
  · rw [stm_neq (by omega), sm_out 192 (by omega)]; exact a6
  · rw [stm_neq (by omega), e _ (by omega)]; exact a7
  · rw [stm_neq (by omega), e _ (by omega)]; exact a8
  · rw [stm_neq (by omega), e _ (by omega)]; exact a9
  · rw [stm_neq (by omega), e _ (by omega)]; exact a10
theorem sky_lost {v : Int} (h : SKY δ A S) : SKY δ (stm A 0 7 v) (upf S 214 v) := by
  obtain ⟨a1, a2, a3, a4, a5, a6, a7, a8, a9, a10⟩ := h
  have e : ∀ i, i ≠ 214 → upf S 214 v i = S i := fun i hi => upf_ne hi
  refine ⟨fun w l w0 w1 l0 l1 => ?_, fun u u0 u1 => ?_, fun u u0 u1 => ?_, ?_, ?_, ?_, ?_, ?_, ?_, ?_⟩
  · rw [e 216 (by omega), stm_neq (by omega), a1 w l w0 w1 l0 l1]
    split
    · rw [e _ (by omega)]
    · rfl
  · rw [stm_neq (by omega), e _ (by omega)]; exact a2 u u0 u1
  · rw [stm_neq (by omega), e _ (by omega)]; exact a3 u u0 u1
  · rw [stm_neq (by omega), e _ (by omega)]; exact a4
  · rw [stm_neq (by omega), e _ (by omega)]; exact a5
  · rw [stm_neq (by omega), sm_out 192 (by omega)]; exact a6
  · rw [stm_hit, upf_hit]
  · rw [stm_neq (by omega), e _ (by omega)]; exact a8
  · rw [stm_neq (by omega), e _ (by omega)]; exact a9
  · rw [stm_neq (by omega), e _ (by omega)]; exact a10
theorem sky_taken {v : Int} (h : SKY δ A S) : SKY δ (stm A 0 8 v) (upf S 215 v) := by
  obtain ⟨a1, a2, a3, a4, a5, a6, a7, a8, a9, a10⟩ := h
  have e : ∀ i, i ≠ 215 → upf S 215 v i = S i := fun i hi => upf_ne hi
  refine ⟨fun w l w0 w1 l0 l1 => ?_, fun u u0 u1 => ?_, fun u u0 u1 => ?_, ?_, ?_, ?_, ?_, ?_, ?_, ?_⟩
  · rw [e 216 (by omega), stm_neq (by omega), a1 w l w0 w1 l0 l1]
    split
    · rw [e _ (by omega)]
    · rfl
  · rw [stm_neq (by omega), e _ (by omega)]; exact a2 u u0 u1
  · rw [stm_neq (by omega), e _ (by omega)]; exact a3 u u0 u1
  · rw [stm_neq (by omega), e _ (by omega)]; exact a4
  · rw [stm_neq (by omega), e _ (by omega)]; exact a5
  · rw [stm_neq (by omega), sm_out 192 (by omega)]; exact a6
  · rw [stm_neq (by omega), e _ (by omega)]; exact a7
  · rw [stm_hit, upf_hit]
  · rw [stm_neq (by omega), e _ (by omega)]; exact a9
  · rw [stm_neq (by omega), e _ (by omega)]; exact a10
theorem sky_seed {v : Int} (h : SKY δ A S) : SKY δ (stm A 0 9 v) (upf S 217 v) := by
  obtain ⟨a1, a2, a3, a4, a5, a6, a7, a8, a9, a10⟩ := h
  have e : ∀ i, i ≠ 217 → upf S 217 v i = S i := fun i hi => upf_ne hi
  refine ⟨fun w l w0 w1 l0 l1 => ?_, fun u u0 u1 => ?_, fun u u0 u1 => ?_, ?_, ?_, ?_, ?_, ?_, ?_, ?_⟩
  · rw [e 216 (by omega), stm_neq (by omega), a1 w l w0 w1 l0 l1]
    split
    · rw [e _ (by omega)]
    · rfl
  · rw [stm_neq (by omega), e _ (by omega)]; exact a2 u u0 u1
  · rw [stm_neq (by omega), e _ (by omega)]; exact a3 u u0 u1
  · rw [stm_neq (by omega), e _ (by omega)]; exact a4
  · rw [stm_neq (by omega), e _ (by omega)]; exact a5
  · rw [stm_neq (by omega), sm_out 192 (by omega)]; exact a6
  · rw [stm_neq (by omega), e _ (by omega)]; exact a7
  · rw [stm_neq (by omega), e _ (by omega)]; exact a8
  · rw [stm_hit, upf_hit]
  · rw [stm_neq (by omega), e _ (by omega)]; exact a10
theorem sky_slot {w l v x : Int} (h : SKY δ A S) (w0 : 0 ≤ w) (w1 : w < 16) (l0 : 1 ≤ l) (l1 : l ≤ 12) (hx : x = sm S 0 192 - S (12 * w + l - 1) + v) : SKY δ (stm (stm A 0 6 x) 1 (16 * w + (S 216 + l) % 16) v) (upf S (12 * w + l - 1) v) := by
  obtain ⟨a1, a2, a3, a4, a5, a6, a7, a8, a9, a10⟩ := h
  have e : ∀ i, i ≠ 12 * w + l - 1 → upf S (12 * w + l - 1) v i = S i := fun i hi => upf_ne hi
  refine ⟨fun u k u0 u1 k0 k1 => ?_, fun u u0 u1 => ?_, fun u u0 u1 => ?_, ?_, ?_, ?_, ?_, ?_, ?_, ?_⟩
  · rw [e 216 (by omega)]
    by_cases hu : u = w ∧ k = l
    · obtain ⟨rfl, rfl⟩ := hu
      rw [stm_hit, if_pos l1, upf_hit]
    · rw [stm_neq (by omega), stm_neq (by omega), a1 u k u0 u1 k0 k1]
      split
      · rw [e _ (by omega)]
      · rfl
  · rw [stm_neq (by omega), stm_neq (by omega), e _ (by omega)]; exact a2 u u0 u1
  · rw [stm_neq (by omega), stm_neq (by omega), e _ (by omega)]; exact a3 u u0 u1
  · rw [stm_neq (by omega), stm_neq (by omega), e _ (by omega)]; exact a4
  · rw [stm_neq (by omega), stm_neq (by omega), e _ (by omega)]; exact a5
  · rw [stm_neq (by omega), stm_hit, hx, sm_in 192 (by omega) (by omega)]
  · rw [stm_neq (by omega), stm_neq (by omega), e _ (by omega)]; exact a7
  · rw [stm_neq (by omega), stm_neq (by omega), e _ (by omega)]; exact a8
  · rw [stm_neq (by omega), stm_neq (by omega), e _ (by omega)]; exact a9
  · rw [stm_neq (by omega), stm_neq (by omega), e _ (by omega)]; exact a10
theorem sky_out {i v : Int} (h : SKY δ A S) (hi : 218 ≤ i) : SKY δ A (upf S i v) := by
  obtain ⟨a1, a2, a3, a4, a5, a6, a7, a8, a9, a10⟩ := h
  have e : ∀ j, j < 218 → upf S i v j = S j := fun j hj => upf_ne (by omega)
  refine ⟨fun u k u0 u1 k0 k1 => ?_, fun u u0 u1 => ?_, fun u u0 u1 => ?_, ?_, ?_, ?_, ?_, ?_, ?_, ?_⟩
  · rw [e 216 (by decide), a1 u k u0 u1 k0 k1]
    split
    · rw [e _ (by omega)]
    · rfl
  · rw [e _ (by omega)]; exact a2 u u0 u1
  · rw [e _ (by omega)]; exact a3 u u0 u1
  · rw [e _ (by decide)]; exact a4
  · rw [e _ (by decide)]; exact a5
  · rw [sm_out 192 (by omega)]; exact a6
  · rw [e _ (by decide)]; exact a7
  · rw [e _ (by decide)]; exact a8
  · rw [e _ (by decide)]; exact a9
  · rw [e _ (by decide)]; exact a10
end
