/-! THE END: what stands outside: the script and two texts -/
def tmS (i : Nat) : Term := if i = 0 then .string "GeeseSums$Tape" 26 else .string "GeeseSums$Tape" 75
theorem S_made {args : Array Value} {s : State} (hgv : (Jvm.Cond.and given_1 narrow_1).before args s = true) : ∃ adK adV : Nat → Nat, vk_S 2 lens byts adK adV (Bq s.heap.size) s s.heap ∧ ∀ i : Nat, i < 2 → (tmS i).eval args s none [] s = some (.ref (adK i)) := by
  have hf := flat_of_before _ hgv
  refine vk_Sof (tm := tmS) (by decide) ?_ ?_ ?_ ?_ ?_ ?_ (fun a h1 h2 => Nat.not_le.mpr h1 h2)
  · intro i hi
    match i, hi with
    | 0, _ => exact hf _ (by decide +kernel)
    | 1, _ => exact hf _ (by decide +kernel)
  · intro i hi
    match i, hi with
    | 0, _ => exact hf _ (by decide +kernel)
    | 1, _ => exact hf _ (by decide +kernel)
  · intro i hi
    match i, hi with
    | 0, _ => exact hf _ (by decide +kernel)
    | 1, _ => exact hf _ (by decide +kernel)
  · intro i hi
    match i, hi with
    | 0, _ => exact hf _ (by decide +kernel)
    | 1, _ => exact hf _ (by decide +kernel)
  · intro i hi
    match i, hi with
    | 0, _ =>
      intro j hj
      have hj : j < 81 := hj
      exact hf _ (by revert j hj; decide +kernel)
    | 1, _ =>
      intro j hj
      have hj : j < 11 := hj
      exact hf _ (by revert j hj; decide +kernel)
  · intro i j hi hj hij
    match i, j, hi, hj, hij with
    | 0, 0, _, _, h => exact absurd rfl h
    | 0, 1, _, _, _ => first | exact Or.inl (hf _ (by decide +kernel)) | exact Or.inr (hf _ (by decide +kernel))
    | 1, 0, _, _, _ => first | exact Or.inl (hf _ (by decide +kernel)) | exact Or.inr (hf _ (by decide +kernel))
    | 1, 1, _, _, h => exact absurd rfl h
