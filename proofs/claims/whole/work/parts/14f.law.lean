/-! the law's list, a piece at a time -/
def rowsN (m : Nat) : Nat → Nat → List INS → Bool
  | 0, _, _ => true
  | _ + 1, _, [] => true
  | n + 1, i, (j, pc, ins, len, r) :: rest => Nat.beq i j && decide (decode (mC m) pc = .ok (ins, len)) && lkB m pc ins len r && (match rest with
    | [] => true
    | (_, pc2, _) :: _ => Nat.beq pc2 (pc + len)) && rowsN m n (i + 1) rest
theorem rowsN_app {m : Nat} : ∀ (n k i : Nat) (suf : List INS), rowsN m n i suf = true → rowsN m k (i + n) (suf.drop n) = true → rowsN m (n + k) i suf = true
  | 0, k, i, suf, _, h2 => by simpa using h2
  | n + 1, k, i, [], _, _ => by
    rw [Nat.add_right_comm]
    rfl
  | n + 1, k, i, (j, pc, ins, len, r) :: rest, h1, h2 => by
    rw [Nat.add_right_comm]
    unfold rowsN at h1 ⊢
    simp only [Bool.and_eq_true] at h1 ⊢
    obtain ⟨h3, h4⟩ := h1
    refine ⟨h3, rowsN_app n k (i + 1) rest h4 ?_⟩
    have e : i + 1 + n = i + (n + 1) := by omega
    rw [e]
    exact h2
theorem rowsN_B {m : Nat} : ∀ (n i : Nat) (suf : List INS), Nat.ble suf.length n = true → rowsN m n i suf = true → rowsB m i suf = true
  | _, _, [], _, _ => by
    unfold rowsB
    rfl
  | 0, _, _ :: _, h, _ => by cases h
  | n + 1, i, (j, pc, ins, len, r) :: rest, h0, h1 => by
    unfold rowsN at h1
    unfold rowsB
    simp only [Bool.and_eq_true] at h1 ⊢
    exact ⟨h1.1, rowsN_B n (i + 1) rest h0 h1.2⟩
theorem lawp0 : rowsN 305 80 0 ((mK 305).drop 0) = true := by decide +kernel
theorem lawp1 : rowsN 305 80 80 ((mK 305).drop 80) = true := by decide +kernel
theorem lawp2 : rowsN 305 80 160 ((mK 305).drop 160) = true := by decide +kernel
theorem lawp3 : rowsN 305 80 240 ((mK 305).drop 240) = true := by decide +kernel
theorem lawp4 : rowsN 305 80 320 ((mK 305).drop 320) = true := by decide +kernel
theorem lawp5 : rowsN 305 80 400 ((mK 305).drop 400) = true := by decide +kernel
theorem lawp6 : rowsN 305 80 480 ((mK 305).drop 480) = true := by decide +kernel
theorem lawp7 : rowsN 305 80 560 ((mK 305).drop 560) = true := by decide +kernel
theorem lawp8 : rowsN 305 80 640 ((mK 305).drop 640) = true := by decide +kernel
theorem lawp9 : rowsN 305 80 720 ((mK 305).drop 720) = true := by decide +kernel
theorem lawp10 : rowsN 305 80 800 ((mK 305).drop 800) = true := by decide +kernel
theorem lawp11 : rowsN 305 79 880 ((mK 305).drop 880) = true := by decide +kernel
theorem lawq10 : rowsN 305 159 800 ((mK 305).drop 800) = true := rowsN_app 80 79 800 _ lawp10 (by rw [List.drop_drop]; exact lawp11)
theorem lawq9 : rowsN 305 239 720 ((mK 305).drop 720) = true := rowsN_app 80 159 720 _ lawp9 (by rw [List.drop_drop]; exact lawq10)
theorem lawq8 : rowsN 305 319 640 ((mK 305).drop 640) = true := rowsN_app 80 239 640 _ lawp8 (by rw [List.drop_drop]; exact lawq9)
theorem lawq7 : rowsN 305 399 560 ((mK 305).drop 560) = true := rowsN_app 80 319 560 _ lawp7 (by rw [List.drop_drop]; exact lawq8)
theorem lawq6 : rowsN 305 479 480 ((mK 305).drop 480) = true := rowsN_app 80 399 480 _ lawp6 (by rw [List.drop_drop]; exact lawq7)
theorem lawq5 : rowsN 305 559 400 ((mK 305).drop 400) = true := rowsN_app 80 479 400 _ lawp5 (by rw [List.drop_drop]; exact lawq6)
theorem lawq4 : rowsN 305 639 320 ((mK 305).drop 320) = true := rowsN_app 80 559 320 _ lawp4 (by rw [List.drop_drop]; exact lawq5)
theorem lawq3 : rowsN 305 719 240 ((mK 305).drop 240) = true := rowsN_app 80 639 240 _ lawp3 (by rw [List.drop_drop]; exact lawq4)
theorem lawq2 : rowsN 305 799 160 ((mK 305).drop 160) = true := rowsN_app 80 719 160 _ lawp2 (by rw [List.drop_drop]; exact lawq3)
theorem lawq1 : rowsN 305 879 80 ((mK 305).drop 80) = true := rowsN_app 80 799 80 _ lawp1 (by rw [List.drop_drop]; exact lawq2)
theorem lawq0 : rowsN 305 959 0 ((mK 305).drop 0) = true := rowsN_app 80 879 0 _ lawp0 (by rw [List.drop_drop]; exact lawq1)
theorem lawr : rowsB 305 0 (mK 305) = true := rowsN_B 959 0 _ (by decide +kernel) lawq0
theorem mok305 : MOK 305 := by
  unfold MOK mokB
  rw [lawr]
  decide +kernel
