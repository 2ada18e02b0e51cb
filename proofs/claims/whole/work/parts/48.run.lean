/-! what is sent: a step, and all steps -/
def sa (fr to : Nat → Nat) (tm mm ft R : Nat) (p0 : Int32) (a0 : Nat) (l0 : Int32) : Nat → Int32 × Nat × Int32 × Nat
  | 0 => (p0, a0, l0, 0)
  | k + 1 => if mm.testBit k = true ∧ ft.testBit (fr k) = true then ((sa fr to tm mm ft R p0 a0 l0 k).1 + 1, (sa fr to tm mm ft R p0 a0 l0 k).2.1 + (if tm.testBit k = true then 0 else 1), (sa fr to tm mm ft R p0 a0 l0 k).2.2.1 + (if (R ||| (sa fr to tm mm ft R p0 a0 l0 k).2.2.2).testBit (to k) = true then 1 else 0), if (R ||| (sa fr to tm mm ft R p0 a0 l0 k).2.2.2).testBit (to k) = true then (sa fr to tm mm ft R p0 a0 l0 k).2.2.2 else (sa fr to tm mm ft R p0 a0 l0 k).2.2.2 ||| 2 ^ to k) else sa fr to tm mm ft R p0 a0 l0 k
theorem sa_s (fr to : Nat → Nat) (tm mm ft R : Nat) (p0 : Int32) (a0 : Nat) (l0 : Int32) (k : Nat) : sa fr to tm mm ft R p0 a0 l0 (k + 1) = if mm.testBit k = true ∧ ft.testBit (fr k) = true then ((sa fr to tm mm ft R p0 a0 l0 k).1 + 1, (sa fr to tm mm ft R p0 a0 l0 k).2.1 + (if tm.testBit k = true then 0 else 1), (sa fr to tm mm ft R p0 a0 l0 k).2.2.1 + (if (R ||| (sa fr to tm mm ft R p0 a0 l0 k).2.2.2).testBit (to k) = true then 1 else 0), if (R ||| (sa fr to tm mm ft R p0 a0 l0 k).2.2.2).testBit (to k) = true then (sa fr to tm mm ft R p0 a0 l0 k).2.2.2 else (sa fr to tm mm ft R p0 a0 l0 k).2.2.2 ||| 2 ^ to k) else sa fr to tm mm ft R p0 a0 l0 k := rfl
theorem sa_in {fr to : Nat → Nat} {tm mm ft R : Nat} {p0 : Int32} {a0 : Nat} {l0 : Int32} {K : Nat} (hto : ∀ k, k < K → to k < 6) : ∀ k, k ≤ K → (sa fr to tm mm ft R p0 a0 l0 k).2.1 ≤ a0 + k ∧ (sa fr to tm mm ft R p0 a0 l0 k).2.2.2 < 2 ^ 6 ∧ ∀ i, (sa fr to tm mm ft R p0 a0 l0 k).2.2.2.testBit i = true → R.testBit i = false
  | 0, _ => ⟨Nat.le_refl _, by show 0 < 2 ^ 6; decide, fun i h => by rw [show (sa fr to tm mm ft R p0 a0 l0 0).2.2.2 = 0 from rfl, Nat.zero_testBit] at h; cases h⟩
  | k + 1, hk => by
    obtain ⟨h1, h2, h3⟩ := sa_in (fr := fr) (tm := tm) (mm := mm) (ft := ft) (R := R) (p0 := p0) (a0 := a0) (l0 := l0) hto k (by omega)
    rw [sa_s]
    generalize sa fr to tm mm ft R p0 a0 l0 k = s at h1 h2 h3 ⊢
    by_cases c : mm.testBit k = true ∧ ft.testBit (fr k) = true
    · rw [if_pos c]
      refine ⟨?_, ?_, ?_⟩
      · show s.2.1 + (if tm.testBit k = true then 0 else 1) ≤ a0 + (k + 1)
        split <;> omega
      · show (if (R ||| s.2.2.2).testBit (to k) = true then s.2.2.2 else s.2.2.2 ||| 2 ^ to k) < 2 ^ 6
        split
        · exact h2
        · exact Nat.or_lt_two_pow h2 (Nat.pow_lt_pow_right (by omega) (hto k (by omega)))
      · intro i hi
        have hi : (if (R ||| s.2.2.2).testBit (to k) = true then s.2.2.2 else s.2.2.2 ||| 2 ^ to k).testBit i = true := hi
        by_cases d : (R ||| s.2.2.2).testBit (to k) = true
        · rw [if_pos d] at hi; exact h3 i hi
        · rw [if_neg d, Nat.testBit_or, Nat.testBit_two_pow] at hi
          by_cases e : to k = i
          · subst e
            rw [Nat.testBit_or] at d
            cases q : R.testBit (to k)
            · rfl
            · rw [q] at d; exact absurd rfl d
          · rw [decide_eq_false e, Bool.or_false] at hi; exact h3 i hi
    · rw [if_neg c]; exact ⟨by omega, h2, h3⟩
theorem or_in {x j : Nat} (h : x.testBit j = true) : x ||| 2 ^ j = x := by
  apply Nat.eq_of_testBit_eq
  intro i
  rw [Nat.testBit_or, Nat.testBit_two_pow]
  by_cases e : j = i
  · subst e; rw [h]; rfl
  · rw [decide_eq_false e, Bool.or_false]
theorem or_lt6 {a b : Nat} (ha : a < 2 ^ 6) (hb : b < 2 ^ 6) : a ||| b < 2 ^ 6 := Nat.or_lt_two_pow ha hb
theorem sub_bit {b : Bool} : (1 : Int32) - (if b = true then 1 else 0) = nI (if b = true then 0 else 1) := by cases b <;> decide
section STEP
variable {K N : Nat} {fr to : Nat → Nat} {st en : Nat → Int32} {tm mm ft R : Nat}
theorem send9 (hK : K ≤ 16) (hN : N ≤ 6) (hf : ∀ k, k < K → fr k < N ∧ to k < N) (hse : ∀ k, k < K → st k = nI (fr k) ∧ en k = nI (to k)) (htm : tm < 2 ^ K) (hmm : mm < 2 ^ K) (hft : ft < 2 ^ 6) (hR : R < 2 ^ 6) (p0 : Int32) (a0 : Nat) (l0 : Int32) :
    f_X1_sendOn_L9 (nI K) st en (nI ft) (nI tm) (nI mm) 100 p0 (nI a0) l0 (nI R) 0 = some ((sa fr to tm mm ft R p0 a0 l0 K).1, nI (sa fr to tm mm ft R p0 a0 l0 K).2.1, (sa fr to tm mm ft R p0 a0 l0 K).2.2.1, nI (R ||| (sa fr to tm mm ft R p0 a0 l0 K).2.2.2)) := by
  have h16 : 2 ^ K ≤ 2 ^ 16 := Nat.pow_le_pow_right (by omega) hK
  have h := lup (f := fun n s y => f_X1_sendOn_L9 (nI K) st en (nI ft) (nI tm) (nI mm) n s.1 s.2.1 s.2.2.1 s.2.2.2 y) (acc := fun k => ((sa fr to tm mm ft R p0 a0 l0 k).1, nI (sa fr to tm mm ft R p0 a0 l0 k).2.1, (sa fr to tm mm ft R p0 a0 l0 k).2.2.1, nI (R ||| (sa fr to tm mm ft R p0 a0 l0 k).2.2.2))) (K := K) (out := ((sa fr to tm mm ft R p0 a0 l0 K).1, nI (sa fr to tm mm ft R p0 a0 l0 K).2.1, (sa fr to tm mm ft R p0 a0 l0 K).2.2.1, nI (R ||| (sa fr to tm mm ft R p0 a0 l0 K).2.2.2)))
    (fun n => by
      show f_X1_sendOn_L9 _ _ _ _ _ _ _ _ _ _ _ _ = _
      rw [f_X1_sendOn_L9_s, if_pos (show f_X2_linkCount (nI K) ≤ nI K from nI_le (Nat.le_refl K) (by omega))])
    (fun n k hk => by
      show f_X1_sendOn_L9 _ _ _ _ _ _ _ _ _ _ _ _ = f_X1_sendOn_L9 _ _ _ _ _ _ _ _ _ _ _ _
      obtain ⟨hfk, htk⟩ := hf k hk
      rw [f_X1_sendOn_L9_s, if_neg (show ¬ f_X2_linkCount (nI K) ≤ nI k from nI_ge hk (by omega)), start_of (by omega), end_of (by omega), (hse k hk).1, (hse k hk).2, sa_s, has_nI (m := mm) (by omega) (by omega), has_nI (m := tm) (by omega) (by omega), nI_1]
      simp only [Option.bind_some]
      rw [has_nI (m := ft) (by omega) (by omega), sub_bit, shl1 (by omega)]
      have hin := sa_in (fr := fr) (to := to) (tm := tm) (mm := mm) (ft := ft) (R := R) (p0 := p0) (a0 := a0) (l0 := l0) (K := K) (fun k hk => by have := (hf k hk).2; omega) k (by omega)
      generalize sa fr to tm mm ft R p0 a0 l0 k = s at hin ⊢
      have hb := fa_bit (n := R ||| s.2.2.2) (j := to k) (by omega)
      cases h1 : mm.testBit k
      · simp only [Bool.false_eq_true, eq_self, if_false, if_true, false_and, and_false, and_self, and_true, true_and, Option.bind_some, if_neg ne10]
      · cases h2 : ft.testBit (fr k)
        · simp only [Bool.false_eq_true, eq_self, if_false, if_true, false_and, and_false, and_self, and_true, true_and, Option.bind_some, if_neg ne10]
        · cases h3 : (R ||| s.2.2.2).testBit (to k)
          · simp only [Bool.false_eq_true, eq_self, if_false, if_true, false_and, and_false, and_self, and_true, true_and, Option.bind_some, if_neg ne10, if_pos (hb.mpr h3), fa_or, nI_add, Nat.or_assoc]
          · have hb2 : ¬ (nI (R ||| s.2.2.2) &&& nI (2 ^ to k) = 0) := fun q => by rw [hb.mp q] at h3; cases h3
            simp only [Bool.false_eq_true, eq_self, if_false, if_true, false_and, and_false, and_self, and_true, true_and, Option.bind_some, if_neg ne10, if_neg hb2, fa_or, nI_add, or_in h3]) 100 0 (by omega) (by omega)
  have h : f_X1_sendOn_L9 (nI K) st en (nI ft) (nI tm) (nI mm) 100 p0 (nI a0) l0 (nI (R ||| 0)) 0 = _ := h
  rw [Nat.or_zero] at h
  exact h
theorem step6 {bn : Nat → Int32} {mb : Nat → Int64} {bits : Int64} {v : Nat} (hK : K ≤ 16) (hN : N ≤ 6) (hf : ∀ k, k < K → fr k < N ∧ to k < N) (hse : ∀ k, k < K → st k = nI (fr k) ∧ en k = nI (to k)) (htm : tm < 2 ^ K) (hft : ft < 2 ^ 6) (hR : R < 2 ^ 6) (hmt : ∀ k, k < K → f_X6_matches bn mb (nI k) bits (nI v) = some (if mm.testBit k then 1 else 0)) (p0 : Int32) (a0 : Nat) (l0 : Int32) :
    f_X6_goStep_L6 (nI K) st en bn mb bits (nI R) (nI ft) (nI tm) (nI v) 100 p0 (nI a0) l0 0 0 = some ((sa fr to tm mm ft R p0 a0 l0 K).1, nI (sa fr to tm mm ft R p0 a0 l0 K).2.1, (sa fr to tm mm ft R p0 a0 l0 K).2.2.1, nI (sa fr to tm mm ft R p0 a0 l0 K).2.2.2) := by
  have h16 : 2 ^ K ≤ 2 ^ 16 := Nat.pow_le_pow_right (by omega) hK
  have h := lup (f := fun n s y => f_X6_goStep_L6 (nI K) st en bn mb bits (nI R) (nI ft) (nI tm) (nI v) n s.1 s.2.1 s.2.2.1 s.2.2.2 y) (acc := fun k => ((sa fr to tm mm ft R p0 a0 l0 k).1, nI (sa fr to tm mm ft R p0 a0 l0 k).2.1, (sa fr to tm mm ft R p0 a0 l0 k).2.2.1, nI (sa fr to tm mm ft R p0 a0 l0 k).2.2.2)) (K := K) (out := ((sa fr to tm mm ft R p0 a0 l0 K).1, nI (sa fr to tm mm ft R p0 a0 l0 K).2.1, (sa fr to tm mm ft R p0 a0 l0 K).2.2.1, nI (sa fr to tm mm ft R p0 a0 l0 K).2.2.2))
    (fun n => by
      show f_X6_goStep_L6 _ _ _ _ _ _ _ _ _ _ _ _ _ _ _ _ = _
      rw [f_X6_goStep_L6_s, if_pos (nI_le (Nat.le_refl K) (by omega))])
    (fun n k hk => by
      show f_X6_goStep_L6 _ _ _ _ _ _ _ _ _ _ _ _ _ _ _ _ = f_X6_goStep_L6 _ _ _ _ _ _ _ _ _ _ _ _ _ _ _ _
      obtain ⟨hfk, htk⟩ := hf k hk
      have hin := sa_in (fr := fr) (to := to) (tm := tm) (mm := mm) (ft := ft) (R := R) (p0 := p0) (a0 := a0) (l0 := l0) (K := K) (fun k hk => by have := (hf k hk).2; omega) k (by omega)
      rw [f_X6_goStep_L6_s, if_neg (nI_ge hk (by omega)), if_neg (ix_ok (n := 16) (by omega) (by decide)), cl_nI (by omega), (hse k hk).1, (hse k hk).2, sa_s, hmt k hk, has_nI' (m := ft) (by omega) (by omega), has_nI' (m := tm) (by omega) (by omega), nI_1]
      generalize sa fr to tm mm ft R p0 a0 l0 k = s at hin ⊢
      have hor := or_lt6 hR hin.2.1
      rw [fa_or, has_nI' (m := R ||| s.2.2.2) (by omega) (by omega), shl1 (by omega)]
      have n0 : ∀ x : Nat, nI x + 0 = nI x := fun x => nI_add x 0
      have o0 : ∀ x : Nat, nI x ||| 0 = nI x := fun x => by rw [show (0 : Int32) = nI 0 from rfl, fa_or, Nat.or_zero]
      cases h2 : ft.testBit (fr k)
      · simp only [Bool.false_eq_true, eq_self, if_false, if_true, false_and, and_false, and_self, and_true, true_and, Option.bind_some, if_neg ne10]
      · cases h1 : mm.testBit k
        · simp only [Bool.false_eq_true, eq_self, if_false, if_true, false_and, and_false, and_self, and_true, true_and, Option.bind_some, if_neg ne10]
        · cases h3 : (R ||| s.2.2.2).testBit (to k)
          · cases h4 : tm.testBit k
            · simp only [Bool.false_eq_true, eq_self, if_false, if_true, false_and, and_false, and_self, and_true, true_and, Option.bind_some, if_neg ne10, fa_or, nI_1]
            · simp only [Bool.false_eq_true, eq_self, if_false, if_true, false_and, and_false, and_self, and_true, true_and, Option.bind_some, if_neg ne10, fa_or, n0, Nat.add_zero]
          · cases h4 : tm.testBit k
            · simp only [Bool.false_eq_true, eq_self, if_false, if_true, false_and, and_false, and_self, and_true, true_and, Option.bind_some, if_neg ne10, o0, nI_1]
            · simp only [Bool.false_eq_true, eq_self, if_false, if_true, false_and, and_false, and_self, and_true, true_and, Option.bind_some, if_neg ne10, o0, n0, Nat.add_zero]) 100 0 (by omega) (by omega)
  exact h
end STEP
