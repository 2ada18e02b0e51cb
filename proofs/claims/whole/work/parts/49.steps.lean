/-! all steps, and what comes of a spreading -/
theorem ct_lt {p q : Nat → Bool} : ∀ n, (∀ k, k < n → p k = true → q k = true) → (∃ i, i < n ∧ q i = true ∧ p i = false) → fb_ct p n < fb_ct q n
  | 0, _, ⟨i, h, _⟩ => absurd h (Nat.not_lt_zero i)
  | n + 1, hs, ⟨i, hi, h1, h2⟩ => by
    have hle : fb_ct p n ≤ fb_ct q n := fb_ct_sub (fun k hk => hs k (by omega))
    rw [fb_ct_succ, fb_ct_succ]
    by_cases e : i = n
    · subst e; rw [h1, h2]; simp only [Bool.false_eq_true, if_false, if_true]; omega
    · have ih := ct_lt n (fun k hk => hs k (by omega)) ⟨i, by omega, h1, h2⟩
      have h3 := hs n (by omega)
      cases hp : p n
      · simp only [Bool.false_eq_true, if_false]; omega
      · rw [h3 hp]; omega
def muR (R : Nat) : Nat := fb_ct (fun i => !R.testBit i) 6
theorem muR_lt {R an : Nat} (han : an < 2 ^ 6) (h0 : an ≠ 0) (hd : ∀ i, an.testBit i = true → R.testBit i = false) : muR (R ||| an) < muR R := by
  obtain ⟨i, hi⟩ := Nat.exists_testBit_of_ne_zero h0
  have h6 : i < 6 := by
    rcases Nat.lt_or_ge i 6 with q | q
    · exact q
    · have : an.testBit i = false := Nat.testBit_lt_two_pow (Nat.lt_of_lt_of_le han (Nat.pow_le_pow_right (by omega) q))
      rw [this] at hi; cases hi
  refine ct_lt 6 (fun k _ hk => ?_) ⟨i, h6, ?_, ?_⟩
  · rw [Nat.testBit_or] at hk
    cases q : R.testBit k
    · rfl
    · rw [q] at hk; cases hk
  · rw [hd i hi]; rfl
  · rw [Nat.testBit_or, hi, Bool.or_true]; rfl
theorem muR_1 {f : Nat} (hf : f < 6) : muR (2 ^ f) ≤ 5 := by
  rcases (show f = 0 ∨ f = 1 ∨ f = 2 ∨ f = 3 ∨ f = 4 ∨ f = 5 by omega) with rfl | rfl | rfl | rfl | rfl | rfl <;> decide
theorem new_bits {R an : Nat} (hR : R < 2 ^ 6) (han : an < 2 ^ 6) (hd : ∀ i, an.testBit i = true → R.testBit i = false) : nI (R ||| an) &&& (nI R ^^^ -1) = nI an := by
  rw [show (-1 : Int32) = nI (2 ^ 32 - 1) from rfl, fb_xorI, fa_and]
  congr 1
  apply Nat.eq_of_testBit_eq
  intro i
  rw [Nat.testBit_and, Nat.testBit_or, Nat.testBit_xor, Nat.testBit_two_pow_sub_one]
  cases h1 : an.testBit i
  · cases h2 : R.testBit i
    · rfl
    · have h6 : i < 32 := by
        rcases Nat.lt_or_ge i 32 with q | q
        · exact q
        · have : R.testBit i = false := Nat.testBit_lt_two_pow (Nat.lt_of_lt_of_le hR (Nat.pow_le_pow_right (by omega) (by omega)))
          rw [this] at h2; cases h2
      rw [decide_eq_true h6]; rfl
  · have h6 : i < 32 := by
      rcases Nat.lt_or_ge i 32 with q | q
      · exact q
      · have : an.testBit i = false := Nat.testBit_lt_two_pow (Nat.lt_of_lt_of_le han (Nat.pow_le_pow_right (by omega) (by omega)))
        rw [this] at h1; cases h1
    rw [hd i h1, decide_eq_true h6]; rfl
theorem run_eq {K N : Nat} {fr to : Nat → Nat} {st en : Nat → Int32} {tm mm : Nat} {bn : Nat → Int32} {mb : Nat → Int64} {bits : Int64} {v : Nat} (hK : K ≤ 16) (hN : N ≤ 6) (hf : ∀ k, k < K → fr k < N ∧ to k < N) (hse : ∀ k, k < K → st k = nI (fr k) ∧ en k = nI (to k)) (htm : tm < 2 ^ K) (hmm : mm < 2 ^ K) (hmt : ∀ k, k < K → f_X6_matches bn mb (nI k) bits (nI v) = some (if mm.testBit k then 1 else 0)) :
    ∀ j s, s + j = 6 → ∀ (p l sp : Int32) (a R ft : Nat), a ≤ 16 * s → R < 2 ^ 6 → ft < 2 ^ 6 → (ft ≠ 0 → muR R + s ≤ 5) → ∀ n n', j < n → j < n' → ∃ (p' l' sp' : Int32) (a' R' : Nat), a' ≤ 96 ∧ R' < 2 ^ 6 ∧ f_X1_run_L49 (nI K) st en (nI tm) (nI mm) n p (nI a) l sp (nI R) (nI ft) (nI s) = some (p', nI a', l', sp', nI R') ∧ f_X6_laySpread_L105 (nI K) st en bn mb bits (nI tm) (nI v) n' p (nI a) l sp (nI R) (nI ft) = some (p', nI a', l', sp', nI R') := by
  intro j
  induction j with
  | zero =>
    intro s hs p l sp a R ft ha hR hft hmu n n' hn hn'
    have h0 : ft = 0 := by
      rcases Nat.eq_zero_or_pos ft with q | q
      · exact q
      · have := hmu (by omega); omega
    subst h0
    obtain ⟨n, rfl⟩ : ∃ z, n = z + 1 := ⟨n - 1, by omega⟩
    obtain ⟨n', rfl⟩ : ∃ z, n' = z + 1 := ⟨n' - 1, by omega⟩
    refine ⟨p, l, sp, a, R, by omega, hR, ?_, ?_⟩
    · rw [f_X1_run_L49_s, if_pos (show (6 : Int32) ≤ nI s from nI_le (a := 6) (by omega) (by omega))]
    · rw [f_X6_laySpread_L105_s, if_pos nI_0]
  | succ j ih =>
    intro s hs p l sp a R ft ha hR hft hmu n n' hn hn'
    obtain ⟨n, rfl⟩ : ∃ z, n = z + 1 := ⟨n - 1, by omega⟩
    obtain ⟨n', rfl⟩ : ∃ z, n' = z + 1 := ⟨n' - 1, by omega⟩
    rw [f_X1_run_L49_s, if_neg (show ¬ (6 : Int32) ≤ nI s from nI_ge (b := 6) (by omega) (by decide)), f_X6_laySpread_L105_s]
    by_cases h0 : ft = 0
    · subst h0
      rw [if_pos nI_0, if_pos nI_0]
      exact ⟨p, l, sp, a, R, by omega, hR, rfl, rfl⟩
    · have hne : ¬ nI ft = 0 := nI_ne0 (by omega) (by omega)
      rw [if_neg hne, if_neg hne]
      unfold f_X1_sendOn f_X6_goStep
      rw [send9 hK hN hf hse htm hmm hft hR p a l, step6 hK hN hf hse htm hft hR hmt p a l]
      have hin := sa_in (fr := fr) (to := to) (tm := tm) (mm := mm) (ft := ft) (R := R) (p0 := p) (a0 := a) (l0 := l) (K := K) (fun k hk => by have := (hf k hk).2; omega) K (Nat.le_refl K)
      generalize sa fr to tm mm ft R p a l K = q at hin ⊢
      obtain ⟨h1, h2, h3⟩ := hin
      simp only [Option.bind_some]
      rw [new_bits hR h2 h3, fa_or, nI_1]
      exact ih (s + 1) (by omega) q.1 q.2.2.1 (sp + 1) q.2.1 (R ||| q.2.2.2) q.2.2.2 (by omega) (or_lt6 hR h2) h2 (fun z => by have := muR_lt h2 z h3; have := hmu h0; omega) n n' (by omega) (by omega)
theorem aside_eq {K tm mm : Nat} (hK : K ≤ 16) (hmm : mm < 2 ^ K) : f_J6_bitCount_0f7a4 (nI mm &&& (nI tm ^^^ -1)) = nI (fb_ct (fun j => !tm.testBit j && mm.testBit j) K) := by
  have h16 : 2 ^ K ≤ 2 ^ 16 := Nat.pow_le_pow_right (by omega) hK
  rw [show (-1 : Int32) = nI (2 ^ 32 - 1) from rfl, fb_xorI, fa_and]
  have hl : mm &&& (tm ^^^ (2 ^ 32 - 1)) < 2 ^ 16 := Nat.lt_of_le_of_lt Nat.and_le_left (by omega)
  rw [int_bits hl]
  congr 1
  obtain ⟨i, hi⟩ : ∃ i, 16 = K + i := ⟨16 - K, by omega⟩
  rw [hi, fb_ct_split]
  have e1 : fb_ct (mm &&& (tm ^^^ (2 ^ 32 - 1))).testBit K = fb_ct (fun j => !tm.testBit j && mm.testBit j) K := fb_ct_cong (fun k hk => by
    rw [Nat.testBit_and, Nat.testBit_xor, Nat.testBit_two_pow_sub_one, decide_eq_true (show k < 32 by omega)]
    cases mm.testBit k <;> cases tm.testBit k <;> rfl)
  have e2 : fb_ct (fun k => (mm &&& (tm ^^^ (2 ^ 32 - 1))).testBit (K + k)) i = 0 := fb_ct_zero.mpr (fun k _ => by
    rw [Nat.testBit_and, Nat.testBit_lt_two_pow (Nat.lt_of_lt_of_le hmm (Nat.pow_le_pow_right (by omega) (by omega))), Bool.false_and])
  rw [e1, e2, Nat.add_zero]
theorem others_eq {K tm mm : Nat} {bn : Nat → Int32} {mb : Nat → Int64} {bits : Int64} {v : Nat} (hK : K ≤ 16) (htm : tm < 2 ^ K) (hmt : ∀ k, k < K → f_X6_matches bn mb (nI k) bits (nI v) = some (if mm.testBit k then 1 else 0)) : f_X6_laySpread_L40 (nI K) bn mb bits (nI tm) (nI v) 100 0 0 = some (nI (fb_ct (fun j => !tm.testBit j && mm.testBit j) K)) := by
  have h16 : 2 ^ K ≤ 2 ^ 16 := Nat.pow_le_pow_right (by omega) hK
  have h := lup (f := fun n s y => f_X6_laySpread_L40 (nI K) bn mb bits (nI tm) (nI v) n s y) (acc := fun k => nI (fb_ct (fun j => !tm.testBit j && mm.testBit j) k)) (K := K) (out := nI (fb_ct (fun j => !tm.testBit j && mm.testBit j) K))
    (fun n => by
      show f_X6_laySpread_L40 _ _ _ _ _ _ _ _ _ = _
      rw [f_X6_laySpread_L40_s, if_pos (nI_le (Nat.le_refl K) (by omega))])
    (fun n k hk => by
      show f_X6_laySpread_L40 _ _ _ _ _ _ _ _ _ = f_X6_laySpread_L40 _ _ _ _ _ _ _ _ _
      rw [f_X6_laySpread_L40_s, if_neg (nI_ge hk (by omega)), has_nI' (by omega) (by omega), hmt k hk, nI_1, fb_ct_succ]
      have n0 : ∀ x : Nat, nI x + 0 = nI x := fun x => nI_add x 0
      cases h1 : tm.testBit k
      · cases h2 : mm.testBit k
        · simp only [Bool.false_eq_true, eq_self, if_false, if_true, Option.bind_some, if_neg ne10, Bool.not_false, Bool.not_true, Bool.true_and, Bool.false_and, Nat.add_zero, n0]
        · simp only [Bool.false_eq_true, eq_self, if_false, if_true, Option.bind_some, if_neg ne10, Bool.not_false, Bool.not_true, Bool.true_and, Bool.false_and, Nat.add_zero, nI_1]
      · simp only [Bool.false_eq_true, eq_self, if_false, if_true, Option.bind_some, if_neg ne10, Bool.not_false, Bool.not_true, Bool.true_and, Bool.false_and, Nat.add_zero, n0]) 100 0 (by omega) (by omega)
  exact h
/-- one spreading, told by both -/
theorem spr_ok {N K W Dn S : Nat} {fr to : Nat → Nat} {width drawn seed : Int32} {xb mb : Nat → Int64} {bn st en : Nat → Int32} (hwf : WfG N K fr to) (hse : ∀ k, k < K → st k = nI (fr k) ∧ en k = nI (to k)) (hM : MkOK K W Dn S width drawn seed xb mb) (hB : BnOK K bn) {f tm v : Nat} (hfn : f < N) (htm : tm < 2 ^ K) (hv : v < 3) {z : Int32} (hz : z = 0 ∨ z = 1) :
    ∃ (M : Nat) (p l sp : Int32) (a R oth : Nat) (mm : Int32), M < 2 ^ 40 ∧ a ≤ 96 ∧ f_X5_foldedBits (nI K) xb bn (nI tm) (nI v) z = some (lN M) ∧ f_X5_matchingLinks (nI K) xb bn (lN M) (nI v) = some mm ∧ f_X1_run (nI K) st en (nI f) (nI tm) mm = some (p, nI a, l, sp, nI R, nI oth) ∧ f_X6_laySpread (nI K) st en bn mb (nI f) (nI tm) (nI v) z = some (lN M, p, nI a, l, sp, nI R, nI oth) := by
  obtain ⟨hN, hK, hlt, hinj⟩ := hwf
  obtain ⟨M, hMl, hM1, hM2⟩ := fold_ok hM hK bn (nI tm) hv hz
  obtain ⟨mm, hml, hm1, hm2⟩ := match_ok hM hB hK (lN M) hv
  have h26 : 2 ^ f < 2 ^ 6 := Nat.pow_lt_pow_right (by omega) (by omega)
  obtain ⟨p, l, sp, a, R, ha, hR, hr1, hr2⟩ := run_eq hK hN hlt hse htm hml hm2 6 0 rfl 0 0 0 0 (2 ^ f) (2 ^ f) (by omega) h26 h26 (fun _ => muR_1 (by omega)) 100 100 (by omega) (by omega)
  refine ⟨M, p, l, sp, a, R, fb_ct (fun j => !tm.testBit j && mm.testBit j) K, nI mm, hMl, ha, hM1, hm1, ?_, ?_⟩
  · unfold f_X1_run
    rw [shl1 (by omega), aside_eq hK hml]
    have hr1 : f_X1_run_L49 (nI K) st en (nI tm) (nI mm) 100 0 0 0 0 (nI (2 ^ f)) (nI (2 ^ f)) 0 = _ := hr1
    rw [hr1]; rfl
  · unfold f_X6_laySpread
    rw [hM2]
    simp only [Option.bind_some]
    rw [others_eq hK htm hm2, shl1 (by omega)]
    have hr2 : f_X6_laySpread_L105 (nI K) st en bn mb (lN M) (nI tm) (nI v) 100 0 0 0 0 (nI (2 ^ f)) (nI (2 ^ f)) = _ := hr2
    simp only [Option.bind_some]
    rw [hr2]; rfl
