/-! which links match -/
/-- a mark is among some bits -/
def amg (x bits : Int64) : Prop := x &&& (bits ^^^ -1) = 0
theorem amg_dec (x bits : Int64) : lg_cmp (x &&& (bits ^^^ -1)) 0 = 0 ↔ amg x bits := lgc0 _
/-- the links that match, as numbers: own marks first, then the bundles -/
def mk1 (mb : Nat → Int64) (bits : Int64) (v : Nat) : Nat → Nat
  | 0 => 0
  | k + 1 => if lg_cmp (mb (20 * v + k) &&& (bits ^^^ -1)) 0 = 0 then mk1 mb bits v k ||| 2 ^ k else mk1 mb bits v k
def mk2 (mb : Nat → Int64) (B : Nat → Nat) (bits : Int64) (v m0 : Nat) : Nat → Nat
  | 0 => m0
  | p + 1 => if lg_cmp (mb (20 * v + (16 + p)) &&& (bits ^^^ -1)) 0 = 0 then mk2 mb B bits v m0 p ||| B p else mk2 mb B bits v m0 p
theorem mk1_s (mb : Nat → Int64) (bits : Int64) (v k : Nat) : mk1 mb bits v (k + 1) = if lg_cmp (mb (20 * v + k) &&& (bits ^^^ -1)) 0 = 0 then mk1 mb bits v k ||| 2 ^ k else mk1 mb bits v k := rfl
theorem mk2_s (mb : Nat → Int64) (B : Nat → Nat) (bits : Int64) (v m0 p : Nat) : mk2 mb B bits v m0 (p + 1) = if lg_cmp (mb (20 * v + (16 + p)) &&& (bits ^^^ -1)) 0 = 0 then mk2 mb B bits v m0 p ||| B p else mk2 mb B bits v m0 p := rfl
theorem mk1_lt (mb : Nat → Int64) (bits : Int64) (v : Nat) : ∀ k, mk1 mb bits v k < 2 ^ k
  | 0 => by show 0 < 2 ^ 0; decide
  | k + 1 => by
    have h := mk1_lt mb bits v k
    have h2 : 2 ^ k < 2 ^ (k + 1) := Nat.pow_lt_pow_right (by omega) (by omega)
    rw [mk1_s]
    split
    · exact Nat.or_lt_two_pow (by omega) h2
    · omega
theorem mk1_bit (mb : Nat → Int64) (bits : Int64) (v : Nat) : ∀ k j, j < k → (mk1 mb bits v k).testBit j = decide (lg_cmp (mb (20 * v + j) &&& (bits ^^^ -1)) 0 = 0)
  | 0, j, h => absurd h (Nat.not_lt_zero j)
  | k + 1, j, h => by
    rw [mk1_s]
    by_cases e : j = k
    · subst e
      have h0 : (mk1 mb bits v j).testBit j = false := Nat.testBit_lt_two_pow (mk1_lt mb bits v j)
      split
      · rename_i c; rw [Nat.testBit_or, h0, Nat.testBit_two_pow_self, Bool.false_or, decide_eq_true c]
      · rename_i c; rw [h0, decide_eq_false c]
    · have ih := mk1_bit mb bits v k j (by omega)
      split
      · rw [Nat.testBit_or, ih, Nat.testBit_two_pow, decide_eq_false (show ¬ k = j from fun q => e q.symm), Bool.or_false]
      · exact ih
theorem mk2_lt {mb : Nat → Int64} {B : Nat → Nat} {bits : Int64} {v m0 K : Nat} (h0 : m0 < 2 ^ K) (hB : ∀ p, p < 4 → B p < 2 ^ K) : ∀ p, p ≤ 4 → mk2 mb B bits v m0 p < 2 ^ K
  | 0, _ => h0
  | p + 1, hp => by
    have h := mk2_lt (mb := mb) (bits := bits) (v := v) h0 hB p (by omega)
    rw [mk2_s]
    split
    · exact Nat.or_lt_two_pow h (hB p (by omega))
    · exact h
theorem mt6 {xb mb : Nat → Int64} {bits : Int64} {v K : Nat} (hv : v < 3) (hK : K ≤ 16) (hx : ∀ k, k < K → xb (20 * v + k) = mb (20 * v + k)) : f_X5_matchingLinks_L6 (nI K) xb bits (nI v) 100 0 0 = some (nI (mk1 mb bits v K)) := by
  have h := lup (f := fun n s y => f_X5_matchingLinks_L6 (nI K) xb bits (nI v) n s y) (acc := fun k => nI (mk1 mb bits v k)) (K := K) (out := nI (mk1 mb bits v K))
    (fun n => by
      show f_X5_matchingLinks_L6 _ _ _ _ _ _ _ = _
      rw [f_X5_matchingLinks_L6_s, if_pos (show f_X2_linkCount (nI K) ≤ nI K from nI_le (Nat.le_refl K) (by omega))])
    (fun n k hk => by
      show f_X5_matchingLinks_L6 _ _ _ _ _ _ _ = f_X5_matchingLinks_L6 _ _ _ _ _ _ _
      rw [f_X5_matchingLinks_L6_s, if_neg (show ¬ f_X2_linkCount (nI K) ≤ nI k from nI_ge hk (by omega)), mk1_s, of_link hv (by omega)]
      simp only [Option.bind_some, nI_1, hx k hk, shl1 (show k < 31 by omega), fa_or]
      by_cases c : lg_cmp (mb (20 * v + k) &&& (bits ^^^ -1)) 0 = 0
      · simp only [if_pos c]
      · simp only [if_neg c]) 100 0 (by omega) (by omega)
  exact h
theorem mt57 {xb mb : Nat → Int64} {bn : Nat → Int32} {B : Nat → Nat} {bits : Int64} {v m0 : Nat} (hv : v < 3) (hx : ∀ p, p < 4 → xb (20 * v + (16 + p)) = mb (20 * v + (16 + p))) (hb : ∀ p, p < 4 → bn p = nI (B p)) : f_X5_matchingLinks_L57 xb bn bits (nI v) 100 (nI m0) 0 = some (nI (mk2 mb B bits v m0 4)) := by
  have h := lup (f := fun n s y => f_X5_matchingLinks_L57 xb bn bits (nI v) n s y) (acc := fun p => nI (mk2 mb B bits v m0 p)) (K := 4) (out := nI (mk2 mb B bits v m0 4))
    (fun n => by
      show f_X5_matchingLinks_L57 _ _ _ _ _ _ _ = _
      rw [f_X5_matchingLinks_L57_s, if_pos (by decide)])
    (fun n p hp => by
      show f_X5_matchingLinks_L57 _ _ _ _ _ _ _ = f_X5_matchingLinks_L57 _ _ _ _ _ _ _
      rw [f_X5_matchingLinks_L57_s, if_neg (show ¬ (4 : Int32) ≤ nI p from nI_ge (b := 4) hp (by decide)), mk2_s, of_bund hv hp, links_at hp]
      simp only [Option.bind_some, nI_1, hx p hp, hb p hp]
      by_cases c : lg_cmp (mb (20 * v + (16 + p)) &&& (bits ^^^ -1)) 0 = 0
      · simp only [if_pos c, Option.bind_some, fa_or]
      · simp only [if_neg c, Option.bind_some]) 100 0 (by omega) (by omega)
  exact h
/-- the reference's answer for one link -/
theorem mt33 {mb : Nat → Int64} {bn : Nat → Int32} {B : Nat → Nat} {bits : Int64} {v m0 K k : Nat} (hv : v < 3) (hk : k < K) (hK : K ≤ 16) (hb : ∀ p, p < 4 → bn p = nI (B p)) (hB : ∀ p, p < 4 → B p < 2 ^ K) : f_X6_matches_L33 bn mb (nI k) bits (nI v) 100 (if m0.testBit k then 1 else 0) 0 = some (if (mk2 mb B bits v m0 4).testBit k then 1 else 0) := by
  have h := lup (f := fun n s y => f_X6_matches_L33 bn mb (nI k) bits (nI v) n s y) (acc := fun p => if (mk2 mb B bits v m0 p).testBit k then 1 else 0) (K := 4) (out := if (mk2 mb B bits v m0 4).testBit k then 1 else 0)
    (fun n => by
      show f_X6_matches_L33 _ _ _ _ _ _ _ _ = _
      rw [f_X6_matches_L33_s, if_pos (by decide)])
    (fun n p hp => by
      show f_X6_matches_L33 _ _ _ _ _ _ _ _ = f_X6_matches_L33 _ _ _ _ _ _ _ _
      have hBp := hB p hp
      have hp16 : 2 ^ K ≤ 2 ^ 16 := Nat.pow_le_pow_right (by omega) hK
      rw [f_X6_matches_L33_s, if_neg (show ¬ (4 : Int32) ≤ nI p from nI_ge (b := 4) hp (by decide)), if_neg (ix_ok hp (by decide)), cl_nI (by omega), hb p hp, has_nI' (by omega) (by omega), bb_at, if_neg (ix_ok (n := 60) (by omega) (by omega)), cl_nI (by omega), nI_1, mk2_s]
      generalize lg_cmp (mb (20 * v + (16 + p)) &&& (bits ^^^ -1)) 0 = g
      by_cases c : g = 0
      · cases h1 : (mk2 mb B bits v m0 p).testBit k <;> cases h2 : (B p).testBit k <;> simp [c, h1, h2, Nat.testBit_or]
      · cases h1 : (mk2 mb B bits v m0 p).testBit k <;> cases h2 : (B p).testBit k <;> simp [c, h1, h2]) 100 0 (by omega) (by omega)
  exact h
theorem match_ok {K W Dn S : Nat} {width drawn seed : Int32} {xb mb : Nat → Int64} {bn : Nat → Int32} (hM : MkOK K W Dn S width drawn seed xb mb) (hB : BnOK K bn) (hK : K ≤ 16) (bits : Int64) {v : Nat} (hv : v < 3) : ∃ mm, mm < 2 ^ K ∧ f_X5_matchingLinks (nI K) xb bn bits (nI v) = some (nI mm) ∧ ∀ k, k < K → f_X6_matches bn mb (nI k) bits (nI v) = some (if mm.testBit k then 1 else 0) := by
  obtain ⟨-, -, -, -, -, -, -, -, hmk⟩ := hM
  have hx1 : ∀ p, p < 4 → xb (20 * v + (16 + p)) = mb (20 * v + (16 + p)) := fun p hp => (hmk v (16 + p) hv (Or.inr ⟨by omega, by omega⟩)).1
  have hx2 : ∀ k, k < K → xb (20 * v + k) = mb (20 * v + k) := fun k hk => (hmk v k hv (Or.inl hk)).1
  obtain ⟨B, hb⟩ : ∃ B : Nat → Nat, ∀ p, p < 4 → B p < 2 ^ K ∧ bn p = nI (B p) := by
    refine ⟨fun p => if h : p < 4 then (hB p h).choose else 0, fun p hp => ?_⟩
    simp only [dif_pos hp]
    exact (hB p hp).choose_spec
  have hb1 : ∀ p, p < 4 → bn p = nI (B p) := fun p hp => (hb p hp).2
  have hb2 : ∀ p, p < 4 → B p < 2 ^ K := fun p hp => (hb p hp).1
  refine ⟨mk2 mb B bits v (mk1 mb bits v K) 4, mk2_lt (mk1_lt mb bits v K) hb2 4 (by omega), ?_, fun k hk => ?_⟩
  · unfold f_X5_matchingLinks
    rw [mt6 hv hK hx2]
    simp only [Option.bind_some]
    rw [mt57 hv hx1 hb1]; rfl
  · unfold f_X6_matches
    rw [bi_at, if_neg (ix_ok (n := 60) (by omega) (by omega)), cl_nI (by omega)]
    have e : (if lg_cmp (mb (20 * v + k) &&& (bits ^^^ -1)) 0 = 0 then (1 : Int32) else 0) = if (mk1 mb bits v K).testBit k then 1 else 0 := by
      rw [mk1_bit mb bits v K k hk]
      by_cases c : lg_cmp (mb (20 * v + k) &&& (bits ^^^ -1)) 0 = 0
      · simp [c]
      · simp [c]
    rw [e, mt33 hv hk hK hb1 hb2]
    simp only [Option.bind_some]
    cases (mk2 mb B bits v (mk1 mb bits v K) 4).testBit k
    · rfl
    · rfl
