/-! loops over the four places -/
theorem clear_eq (bn : Nat → Int32) : f_X0_clear bn = some (upd (upd (upd (upd bn 0 0) 1 0) 2 0) 3 0) := by
  unfold f_X0_clear
  have h := lup (f := fun n s x => f_X0_clear_L2 n s x) (acc := fun k => match k with | 0 => bn | 1 => upd bn 0 0 | 2 => upd (upd bn 0 0) 1 0 | 3 => upd (upd (upd bn 0 0) 1 0) 2 0 | _ => upd (upd (upd (upd bn 0 0) 1 0) 2 0) 3 0) (K := 4) (out := upd (upd (upd (upd bn 0 0) 1 0) 2 0) 3 0)
    (fun n => by rw [f_X0_clear_L2_s]; exact if_pos (by decide))
    (fun n k hk => by
      show f_X0_clear_L2 _ _ _ = _
      rw [f_X0_clear_L2_s, if_neg (show ¬ (4 : Int32) ≤ nI k from nI_ge (b := 4) hk (by decide)), if_neg (ix_ok hk (by decide)), cl_nI (by omega), nI_1]
      rcases (show k = 0 ∨ k = 1 ∨ k = 2 ∨ k = 3 by omega) with rfl | rfl | rfl | rfl <;> rfl) 100 0 (by omega) (by omega)
  have h : f_X0_clear_L2 100 bn 0 = _ := h
  rw [h]; rfl
/-- how many of the first k places hold something -/
def cnt4 (bn : Nat → Int32) : Nat → Nat
  | 0 => 0
  | k + 1 => cnt4 bn k + (if bn k = 0 then 0 else 1)
theorem how_eq (bn : Nat → Int32) : f_X0_howMany bn = some (nI (cnt4 bn 4)) := by
  unfold f_X0_howMany
  have h := lup (f := fun n s x => f_X0_howMany_L4 bn n s x) (acc := fun k => nI (cnt4 bn k)) (K := 4) (out := nI (cnt4 bn 4))
    (fun n => by rw [f_X0_howMany_L4_s]; exact if_pos (by decide))
    (fun n k hk => by
      show f_X0_howMany_L4 _ _ _ _ = _
      rw [f_X0_howMany_L4_s, if_neg (show ¬ (4 : Int32) ≤ nI k from nI_ge (b := 4) hk (by decide)), is_there hk]
      by_cases h0 : bn k = 0
      · simp only [h0, if_true, Option.bind_some, cnt4, Nat.add_zero, nI_1]
      · simp only [h0, if_false, Option.bind_some, cnt4, if_neg ne10, nI_1]) 100 0 (by omega) (by omega)
  have h : f_X0_howMany_L4 bn 100 0 0 = _ := h
  rw [h]; rfl
theorem many_eq (bn : Nat → Int32) : f_X6_bundlesMany bn = some (nI (cnt4 bn 4)) := by
  unfold f_X6_bundlesMany
  have h := lup (f := fun n s x => f_X6_bundlesMany_L4 bn n s x) (acc := fun k => nI (cnt4 bn k)) (K := 4) (out := nI (cnt4 bn 4))
    (fun n => by rw [f_X6_bundlesMany_L4_s]; exact if_pos (by decide))
    (fun n k hk => by
      show f_X6_bundlesMany_L4 _ _ _ _ = _
      rw [f_X6_bundlesMany_L4_s, if_neg (show ¬ (4 : Int32) ≤ nI k from nI_ge (b := 4) hk (by decide)), if_neg (ix_ok hk (by decide)), cl_nI (by omega), nI_1]
      by_cases h0 : bn k = 0
      · rw [if_pos h0, show nI (cnt4 bn k) + 0 = nI (cnt4 bn k + 0) from nI_add _ 0]; simp only [cnt4, if_pos h0]
      · rw [if_neg h0, nI_1]; simp only [cnt4, if_neg h0]) 100 0 (by omega) (by omega)
  have h : f_X6_bundlesMany_L4 bn 100 0 0 = _ := h
  rw [h]; rfl
theorem how_many (bn : Nat → Int32) : f_X0_howMany bn = f_X6_bundlesMany bn := (how_eq bn).trans (many_eq bn).symm
theorem how_some (bn : Nat → Int32) : ∃ z, f_X0_howMany bn = some z := ⟨_, how_eq bn⟩
