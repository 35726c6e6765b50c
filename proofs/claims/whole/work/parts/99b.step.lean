/-! EVERY CALL -/
theorem Inv_up {k : Nat} {R M : MEM} (h : Inv k R M) : Inv (k + 1) R M := h.elim fun _ h => h.elim fun _ h => same h
theorem law_step {X : Int × (Int → Int)} (hX : X.1 ≤ 3072) (k : Nat) (v3 : Int) (hv : v3 = 6 * (k : Int)) (hk : v3 + 6 ≤ X.1) : ∀ q ∈ opT, ∀ R M, Inv k R M → PR 300 q.1 q.2.1 (argX X v3 q.2.2) R M (Inv (k + 1)) := by
  have hc5 : k ≤ 512 := by omega
  intro q hq R M hI
  obtain ⟨b, N, h⟩ := hI
  unfold opT at hq
  rcases List.mem_cons.1 hq with rfl | hq
  · exact p_feed (d := 299) h
  rcases List.mem_cons.1 hq with rfl | hq
  · exact p_end (d := 300) h
  rcases List.mem_cons.1 hq with rfl | hq
  · exact p_net (d := 197) h
  rcases List.mem_cons.1 hq with rfl | hq
  · exact p_fault (d := 300) h
  rcases List.mem_cons.1 hq with rfl | hq
  · exact p_tower (d := 298) h
  rcases List.mem_cons.1 hq with rfl | hq
  · exact p_way (d := 298) h hc5
  rcases List.mem_cons.1 hq with rfl | hq
  · exact p_flock (d := 298) h
  rcases List.mem_cons.1 hq with rfl | hq
  · exact p_geese (d := 298) h hc5
  rcases List.mem_cons.1 hq with rfl | hq
  · exact p_begin (d := 298) h hc5
  rcases List.mem_cons.1 hq with rfl | hq
  · exact p_beats (d := 297) h hc5
  rcases List.mem_cons.1 hq with rfl | hq
  · exact p_gust (d := 298) h hc5
  rcases List.mem_cons.1 hq with rfl | hq
  · exact p_undo (d := 299) h
  rcases List.mem_cons.1 hq with rfl | hq
  · exact p_redo (d := 299) h
  rcases List.mem_cons.1 hq with rfl | hq
  · exact p_row (d := 298) h
  rcases List.mem_cons.1 hq with rfl | hq
  · exact p_reckon (d := 296) h hc5
  rcases List.mem_cons.1 hq with rfl | hq
  · exact p_still (d := 296) h hc5
  rcases List.mem_cons.1 hq with rfl | hq
  · exact p_says (d := 298) h
  rcases List.mem_cons.1 hq with rfl | hq
  · exact p_wrong (d := 294) h
  rcases List.mem_cons.1 hq with rfl | hq
  · exact p_against (d := 294) h
  rcases List.mem_cons.1 hq with rfl | hq
  · exact p_mend (d := 291) h
  rcases List.mem_cons.1 hq with rfl | hq
  · exact p_loss (d := 295) h hc5
  rcases List.mem_cons.1 hq with rfl | hq
  · exact p_blind (d := 295) h hc5
  rcases List.mem_cons.1 hq with rfl | hq
  · exact p_adds (d := 295) h
  rcases List.mem_cons.1 hq with rfl | hq
  · exact p_paths (d := 298) h
  rcases List.mem_cons.1 hq with rfl | hq
  · exact p_meet (d := 298) h
  rcases List.mem_cons.1 hq with rfl | hq
  · exact p_spread (d := 298) h
  rcases List.mem_cons.1 hq with rfl | hq
  · exact p_ring (d := 297) h
  rcases List.mem_cons.1 hq with rfl | hq
  · exact p_pair (d := 299) h
  rcases List.mem_cons.1 hq with rfl | hq
  · exact p_hush (d := 300) h
  rcases List.mem_cons.1 hq with rfl | hq
  · exact p_chain (d := 289) h
  rcases List.mem_cons.1 hq with rfl | hq
  · exact p_lies (d := 299) h
  rcases List.mem_cons.1 hq with rfl | hq
  · exact p_sight (d := 297) h
  rcases List.mem_cons.1 hq with rfl | hq
  · exact p_untell (d := 299) h
  rcases List.mem_cons.1 hq with rfl | hq
  · exact p_later (d := 299) h
  rcases List.mem_cons.1 hq with rfl | hq
  · exact p_begun (d := 295) h
  rcases List.mem_cons.1 hq with rfl | hq
  · exact p_sure (d := 295) h
  rcases List.mem_cons.1 hq with rfl | hq
  · exact p_image (d := 299) h
  rcases List.mem_cons.1 hq with rfl | hq
  · exact p_back (d := 298) h
  rcases List.mem_cons.1 hq with rfl | hq
  · exact p_about (d := 299) h
  exact nomatch hq
