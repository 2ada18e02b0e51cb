/-! one bit; the places that have a link -/
theorem b01 (z : Int32) : z &&& 1 = 0 ∨ z &&& 1 = 1 := by
  rw [pk_and z (m := 1) 1 (by decide)]
  rcases Nat.mod_two_eq_zero_or_one z.toBitVec.toNat with h | h
  · left; rw [show (2 : Nat) ^ 1 = 2 from rfl, h]; rfl
  · right; rw [show (2 : Nat) ^ 1 = 2 from rfl, h]; rfl
theorem has_eq (x k : Int32) : f_X6_has x k = (x >>> (k &&& 31)) &&& 1 := by
  unfold f_X6_has
  rcases b01 (x >>> (k &&& 31)) with h | h
  · rw [h]; rfl
  · rw [h]; rfl
theorem has_nI {m k : Nat} (hm : m < 2 ^ 31) (hk : k < 31) : (nI m >>> (nI k &&& 31)) &&& 1 = if m.testBit k then 1 else 0 := by
  rw [pk_shrN hm _ k (s_l k (by omega)), pk_andN (by have := Nat.div_le_self m (2 ^ k); omega) (m := 1) 1 (by decide)]
  rw [Nat.testBit_eq_decide_div_mod_eq, show (2 : Nat) ^ 1 = 2 from rfl]
  rcases Nat.mod_two_eq_zero_or_one (m / 2 ^ k) with h | h
  · rw [h]; rfl
  · rw [h]; rfl
theorem has_nI' {m k : Nat} (hm : m < 2 ^ 31) (hk : k < 31) : f_X6_has (nI m) (nI k) = if m.testBit k then 1 else 0 := (has_eq _ _).trans (has_nI hm hk)
theorem bit0 {b : Bool} : ((if b then 1 else 0 : Int32) = 0) = (b = false) := by cases b <;> simp
theorem shl1 {k : Nat} (hk : k < 31) : (1 : Int32) <<< (nI k &&& 31) = nI (2 ^ k) := by
  have h := pk_shlN (n := 1) (nI k &&& 31) k (s_l k (by omega)) (by have : 2 ^ k < 2 ^ 32 := Nat.pow_lt_pow_right (by omega) (by omega); omega)
  rw [Nat.one_mul] at h
  exact h
def pw4 (bn : Nat → Int32) (x : Int32) : Nat → Int32
  | 0 => 0
  | k + 1 => pw4 bn x k ||| ((((bn k) >>> (x &&& 31)) &&& 1) <<< (nI k &&& 31))
theorem places_eq (bn : Nat → Int32) (x : Int32) : f_X0_placesWith bn x = some (pw4 bn x 4) := by
  unfold f_X0_placesWith
  have h := lup (f := fun n s y => f_X0_placesWith_L4 bn x n s y) (acc := pw4 bn x) (K := 4) (out := pw4 bn x 4)
    (fun n => by rw [f_X0_placesWith_L4_s]; exact if_pos (by decide))
    (fun n k hk => by
      show f_X0_placesWith_L4 _ _ _ _ _ = _
      rw [f_X0_placesWith_L4_s, if_neg (show ¬ (4 : Int32) ≤ nI k from nI_ge (b := 4) hk (by decide)), if_neg (ix_ok hk (by decide)), cl_nI (by omega), nI_1]
      rfl) 100 0 (by omega) (by omega)
  have h : f_X0_placesWith_L4 bn x 100 0 0 = _ := h
  rw [h]; rfl
theorem bundles_eq (bn : Nat → Int32) (x : Int32) : f_X6_bundlesOf bn x = some (pw4 bn x 4) := by
  unfold f_X6_bundlesOf
  have h := lup (f := fun n s y => f_X6_bundlesOf_L4 bn x n s y) (acc := pw4 bn x) (K := 4) (out := pw4 bn x 4)
    (fun n => by rw [f_X6_bundlesOf_L4_s]; exact if_pos (by decide))
    (fun n k hk => by
      show f_X6_bundlesOf_L4 _ _ _ _ _ = _
      rw [f_X6_bundlesOf_L4_s, if_neg (show ¬ (4 : Int32) ≤ nI k from nI_ge (b := 4) hk (by decide)), if_neg (ix_ok hk (by decide)), cl_nI (by omega), nI_1, has_eq]
      have e : (if (bn k >>> (x &&& 31)) &&& 1 = 0 then (0 : Int32) else (1 : Int32) <<< (nI k &&& 31)) = (((bn k) >>> (x &&& 31)) &&& 1) <<< (nI k &&& 31) := by
        rcases b01 (bn k >>> (x &&& 31)) with h | h
        · rw [h, if_pos rfl]
          rcases (show k = 0 ∨ k = 1 ∨ k = 2 ∨ k = 3 by omega) with rfl | rfl | rfl | rfl <;> decide
        · rw [h, if_neg ne10]
      rw [e]
      rfl) 100 0 (by omega) (by omega)
  have h : f_X6_bundlesOf_L4 bn x 100 0 0 = _ := h
  rw [h]; rfl
theorem start_of {st : Nat → Int32} {k : Nat} (hk : k < 16) : f_X2_startOf st (nI k) = some (st k) := by
  unfold f_X2_startOf
  rw [if_neg (nI_pos (by omega)), if_neg (show ¬ (16 : Int32) ≤ nI k from nI_ge (b := 16) hk (by decide)), if_neg (ix_ok hk (by decide)), cl_nI (by omega)]
theorem end_of {st : Nat → Int32} {k : Nat} (hk : k < 16) : f_X2_endOf st (nI k) = some (st k) := by
  unfold f_X2_endOf
  rw [if_neg (nI_pos (by omega)), if_neg (show ¬ (16 : Int32) ≤ nI k from nI_ge (b := 16) hk (by decide)), if_neg (ix_ok hk (by decide)), cl_nI (by omega)]
theorem link_now {st en bn : Nat → Int32} {k : Nat} (hk : k < 16) (w : Nat) (hw : w < 3) : f_X6_linkNow st en bn (nI k) (nI w) = some (if w = 0 then st k else if w = 1 then en k else pw4 bn (nI k) 4) := by
  unfold f_X6_linkNow
  rcases (show w = 0 ∨ w = 1 ∨ w = 2 by omega) with rfl | rfl | rfl
  · rw [if_pos (by decide), if_neg (ix_ok hk (by decide)), cl_nI (by omega)]; rfl
  · rw [if_neg (by decide), if_pos (by decide), if_neg (ix_ok hk (by decide)), cl_nI (by omega)]; rfl
  · rw [if_neg (by decide), if_neg (by decide), bundles_eq]; rfl
/-! drawing -/
def nxs (a : Nat) : Nat := (1103515245 * a + 12345) % 2147483648
theorem nxs_lt (a : Nat) : nxs a < 2147483648 := Nat.mod_lt _ (by omega)
theorem draw_eq {a W : Nat} (ha : a < 2147483648) (hW : 0 < W) (hW2 : W ≤ 40) : f_X6_draw (lN a) (nI W) = some (nI (nxs a / 65536 % W), lN (nxs a)) := by
  unfold f_X6_draw
  have e1 : (1103515245 : Int64) * lN a + 12345 = lN (1103515245 * a + 12345) := by
    rw [show (1103515245 : Int64) = lN 1103515245 from rfl, show (12345 : Int64) = lN 12345 from rfl, lN_mul, lN_add]
  have e2 : (nI W).toInt64 = lN W := nI_l (by omega)
  have e3 : lN (1103515245 * a + 12345) - lN (1103515245 * a + 12345) / 2147483648 * 2147483648 = lN (nxs a) := pk_lRem (a := 1103515245 * a + 12345) (b := 2147483648) (by omega) (by omega) (by omega)
  have hx := nxs_lt a
  have e4 : lN (nxs a) / 65536 = lN (nxs a / 65536) := pk_lDiv (b := 65536) (by omega) (by omega) (by omega)
  have e5 : lN (nxs a / 65536) - lN (nxs a / 65536) / lN W * lN W = lN (nxs a / 65536 % W) := pk_lRem (by omega) hW (by omega)
  have h0 : ¬ lN W = 0 := fun h => by
    have := (pk_lEQ (a := W) (b := 0) (by omega) (by omega)).mp h
    omega
  rw [e1, e2, if_neg h0, e3, e4, e5, lN_i]
theorem drawBit_eq {a W : Nat} (ha : a < 2147483648) (hW : 0 < W) (hW2 : W ≤ 40) : f_X3_drawBit (nI W) (lN a) = some (nI (nxs a / 65536 % W), lN (nxs a)) := by
  rw [← draw_eq ha hW hW2]
  unfold f_X3_drawBit f_X6_draw
  rw [if_neg (nI_nle hW (by omega))]
/-- a mark of i draws -/
def dm (W a : Nat) : Nat → Nat × Nat
  | 0 => (a, 0)
  | i + 1 => (nxs (dm W a i).1, (dm W a i).2 ||| 2 ^ (nxs (dm W a i).1 / 65536 % W))
theorem dm_lt {W a : Nat} (ha : a < 2147483648) (hW : 0 < W) (hW2 : W ≤ 40) : ∀ i, (dm W a i).1 < 2147483648 ∧ (dm W a i).2 < 2 ^ 40
  | 0 => ⟨ha, Nat.two_pow_pos 40⟩
  | i + 1 => ⟨nxs_lt _, Nat.or_lt_two_pow (dm_lt ha hW hW2 i).2 (Nat.pow_lt_pow_right (by omega) (by have := Nat.mod_lt (nxs (dm W a i).1 / 65536) hW; omega))⟩
theorem mark_step {m j : Nat} (hj : j < 40) : lN m ||| ((1 : Int64) <<< ((nI j).toInt64 &&& 63)) = lN (m ||| 2 ^ j) := by
  rw [show (1 : Int64) = lN 1 from rfl, wb_shl 1 (by omega), Nat.one_mul, fb_orL]
theorem drawMark_eq {a W Dn : Nat} (ha : a < 2147483648) (hW : 0 < W) (hW2 : W ≤ 40) (hD : Dn ≤ 4) : f_X3_drawMark (nI W) (nI Dn) (lN a) = some (lN (dm W a Dn).2, lN (dm W a Dn).1) := by
  unfold f_X3_drawMark
  have h := lup (f := fun n s y => f_X3_drawMark_L4 (nI W) (nI Dn) n s.1 s.2 y) (acc := fun i => (lN (dm W a i).1, lN (dm W a i).2)) (K := Dn) (out := (lN (dm W a Dn).1, lN (dm W a Dn).2))
    (fun n => by
      show f_X3_drawMark_L4 _ _ _ _ _ _ = _
      rw [f_X3_drawMark_L4_s]; exact if_pos (nI_le (Nat.le_refl Dn) (by omega)))
    (fun n k hk => by
      show f_X3_drawMark_L4 _ _ _ _ _ _ = f_X3_drawMark_L4 _ _ _ _ _ _
      have hl := Nat.mod_lt (nxs (dm W a k).1 / 65536) hW
      rw [f_X3_drawMark_L4_s, if_neg (nI_ge hk (by omega)), drawBit_eq (dm_lt ha hW hW2 k).1 hW hW2, nI_1]
      simp only [Option.bind_some]
      rw [mark_step (by omega)]
      rfl) 100 0 (by omega) (by omega)
  have h : f_X3_drawMark_L4 (nI W) (nI Dn) 100 (lN a) 0 0 = _ := h
  rw [h]; rfl
theorem lay29_act {a W Dn K k : Nat} (ha : a < 2147483648) (hW : 0 < W) (hW2 : W ≤ 40) (hD : Dn ≤ 4) (hK : K ≤ 16) (hk : k < 20) (hact : k < K ∨ 16 ≤ k) : f_X6_layMarks_L29 (nI K) (nI W) (nI Dn) (nI k) 100 (lN a) 0 0 = some (lN (dm W a Dn).1, lN (dm W a Dn).2) := by
  have h := lup (f := fun n s y => f_X6_layMarks_L29 (nI K) (nI W) (nI Dn) (nI k) n s.1 s.2 y) (acc := fun i => (lN (dm W a i).1, lN (dm W a i).2)) (K := Dn) (out := (lN (dm W a Dn).1, lN (dm W a Dn).2))
    (fun n => by
      show f_X6_layMarks_L29 _ _ _ _ _ _ _ _ = _
      rw [f_X6_layMarks_L29_s]; exact if_pos (nI_le (Nat.le_refl Dn) (by omega)))
    (fun n i hi => by
      show f_X6_layMarks_L29 _ _ _ _ _ _ _ _ = f_X6_layMarks_L29 _ _ _ _ _ _ _ _
      have hl := Nat.mod_lt (nxs (dm W a i).1 / 65536) hW
      rw [f_X6_layMarks_L29_s, if_neg (nI_ge hi (by omega)), draw_eq (dm_lt ha hW hW2 i).1 hW hW2, nI_1]
      simp only [Option.bind_some]
      rw [mark_step (by omega)]
      rcases hact with h | h
      · rw [if_pos (nI_lt h (by omega))]; rfl
      · rw [if_neg (nI_nlt (by omega) (by omega)), if_neg (show ¬ nI k < 16 from nI_nlt (b := 16) h (by omega))]; rfl) 100 0 (by omega) (by omega)
  exact h
theorem lay29_no {a W Dn K k : Nat} (hD1 : 1 ≤ Dn) (hD : Dn ≤ 4) (hK : K ≤ k) (hk : k < 16) : f_X6_layMarks_L29 (nI K) (nI W) (nI Dn) (nI k) 100 (lN a) 0 0 = some (lN a, 0) := by
  rw [show (100 : Nat) = 99 + 1 from rfl, f_X6_layMarks_L29_s, if_neg (show ¬ nI Dn ≤ 0 from nI_nle (by omega) (by omega)), if_neg (nI_nlt hK (by omega)), if_pos (show nI k < 16 from nI_lt (b := 16) hk (by omega))]
