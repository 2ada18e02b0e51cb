/-! the page: letter by letter, by both -/
def Dg (c : Nat → Int32) (i : Nat) : Int32 := c i - 48
def Nd (c : Nat → Int32) (i : Nat) : Prop := ¬ Dg c i < 0 ∧ ¬ Dg c 0 ≤ Dg c i
def Cf (c : Nat → Int32) (p : Nat) (a b : Int32) : Prop := (Dg c (3 * p + 2) = a ∧ Dg c (3 * p + 3) = b) ∨ (Dg c (3 * p + 2) = b ∧ Dg c (3 * p + 3) = a)
def Fit (c : Nat → Int32) (i : Nat) : Prop := (i = 0 → ¬ Dg c 0 < 2 ∧ ¬ (6 : Int32) < Dg c 0) ∧ (i % 3 = 1 → c i = 44) ∧ (i % 3 = 2 → Nd c i) ∧ (i ≠ 0 → i % 3 = 0 → Nd c i ∧ ¬ Dg c (i - 1) = Dg c i ∧ ∀ p, p < i / 3 - 1 → ¬ Cf c p (Dg c (i - 1)) (Dg c i))
theorem code_at {c : Nat → Int32} {n i : Nat} (hn : n ≤ 25) (hi : i < n) : f_X4_codeAt c (nI n) (nI i) = some (c i) := by
  unfold f_X4_codeAt
  rw [if_neg (nI_pos (by omega)), if_neg (nI_ge hi (by omega)), if_neg (ix_ok (n := 25) (by omega) (by decide)), cl_nI (by omega)]
theorem digit_at {c : Nat → Int32} {n i : Nat} (hn : n ≤ 25) (hi : i < n) : f_X4_digitAt c (nI n) (nI i) = some (Dg c i) := by
  unfold f_X4_digitAt
  rw [code_at hn hi]; rfl
theorem pair_1 {c : Nat → Int32} {n p : Nat} (hn : n ≤ 25) (hi : 3 * p + 2 < n) : f_X4_firstOfPair c (nI n) (nI p) = some (Dg c (3 * p + 2)) := by
  unfold f_X4_firstOfPair
  rw [show (3 : Int32) * nI p + 2 = nI (3 * p + 2) from by rw [show (3 : Int32) = nI 3 from rfl, show (2 : Int32) = nI 2 from rfl, pk_mul, nI_add], digit_at hn hi]; rfl
theorem pair_2 {c : Nat → Int32} {n p : Nat} (hn : n ≤ 25) (hi : 3 * p + 3 < n) : f_X4_secondOfPair c (nI n) (nI p) = some (Dg c (3 * p + 3)) := by
  unfold f_X4_secondOfPair
  rw [show (3 : Int32) * nI p + 3 = nI (3 * p + 3) from by rw [show (3 : Int32) = nI 3 from rfl, pk_mul, nI_add], digit_at hn hi]; rfl
theorem node_yes {c : Nat → Int32} {n i : Nat} (hn : n ≤ 25) (hi : i < n) (h : Nd c i) : f_X4_isNodeAt c (nI n) (nI i) = some 1 := by
  unfold f_X4_isNodeAt
  have h0 : f_X4_digitAt c (nI n) 0 = some (Dg c 0) := digit_at (i := 0) hn (by omega)
  rw [digit_at hn hi, h0]
  simp only [Option.bind_some]
  rw [if_neg h.1, if_neg h.2]
theorem node_no {c : Nat → Int32} {n i : Nat} (hn : n ≤ 25) (hi : i < n) (h : ¬ Nd c i) : f_X4_isNodeAt c (nI n) (nI i) = some 0 := by
  unfold f_X4_isNodeAt
  have h0 : f_X4_digitAt c (nI n) 0 = some (Dg c 0) := digit_at (i := 0) hn (by omega)
  rw [digit_at hn hi, h0]
  simp only [Option.bind_some]
  by_cases h1 : Dg c i < 0
  · rw [if_pos h1]
  · rw [if_neg h1]
    by_cases h2 : Dg c 0 ≤ Dg c i
    · rw [if_pos h2]
    · exact absurd ⟨h1, h2⟩ h
theorem enp_L {c : Nat → Int32} {n m : Nat} {a b : Int32} (hn : n ≤ 25) (hm : ∀ p, p < m → 3 * p + 3 < n) : ∀ j k, k + j = m → ∀ fu, j < fu → ((∀ p, k ≤ p → p < m → ¬ Cf c p a b) → f_X4_endsNewPair_L31 c (nI n) a b (nI m) fu (nI k) = some (.inr ())) ∧ ((∃ p, k ≤ p ∧ p < m ∧ Cf c p a b) → f_X4_endsNewPair_L31 c (nI n) a b (nI m) fu (nI k) = some (.inl 0)) := by
  intro j
  induction j with
  | zero =>
    intro k hk fu hfu
    obtain ⟨fu, rfl⟩ : ∃ z, fu = z + 1 := ⟨fu - 1, by omega⟩
    refine ⟨fun _ => ?_, fun ⟨p, h1, h2, _⟩ => by omega⟩
    have hm8 : m < 2 ^ 31 := by
      rcases Nat.eq_zero_or_pos m with q | q
      · omega
      · have := hm (m - 1) (by omega); omega
    rw [f_X4_endsNewPair_L31_s, if_pos (nI_le (by omega) (by omega))]
  | succ j ih =>
    intro k hk fu hfu
    obtain ⟨fu, rfl⟩ : ∃ z, fu = z + 1 := ⟨fu - 1, by omega⟩
    have hk3 := hm k (by omega)
    have hm8 : m < 2 ^ 31 := by have := hm (m - 1) (by omega); omega
    obtain ⟨i1, i2⟩ := ih (k + 1) (by omega) fu (by omega)
    rw [f_X4_endsNewPair_L31_s, if_neg (nI_ge (by omega) hm8), pair_1 hn (by omega), pair_2 hn hk3, nI_1]
    simp only [Option.bind_some]
    have stepC : Cf c k a b → (if Dg c (3 * k + 2) = a then (if Dg c (3 * k + 3) = b then (some (.inl 0) : Option (Int32 ⊕ Unit)) else (if Dg c (3 * k + 2) = b then (if Dg c (3 * k + 3) = a then some (.inl 0) else f_X4_endsNewPair_L31 c (nI n) a b (nI m) fu (nI (k + 1))) else f_X4_endsNewPair_L31 c (nI n) a b (nI m) fu (nI (k + 1)))) else (if Dg c (3 * k + 2) = b then (if Dg c (3 * k + 3) = a then some (.inl 0) else f_X4_endsNewPair_L31 c (nI n) a b (nI m) fu (nI (k + 1))) else f_X4_endsNewPair_L31 c (nI n) a b (nI m) fu (nI (k + 1)))) = some (.inl 0) := by
      intro h
      rcases h with ⟨h1, h2⟩ | ⟨h1, h2⟩
      · rw [if_pos h1, if_pos h2]
      · by_cases q1 : Dg c (3 * k + 2) = a
        · rw [if_pos q1]
          by_cases q2 : Dg c (3 * k + 3) = b
          · rw [if_pos q2]
          · rw [if_neg q2, if_pos h1, if_pos h2]
        · rw [if_neg q1, if_pos h1, if_pos h2]
    have stepN : ¬ Cf c k a b → (if Dg c (3 * k + 2) = a then (if Dg c (3 * k + 3) = b then (some (.inl 0) : Option (Int32 ⊕ Unit)) else (if Dg c (3 * k + 2) = b then (if Dg c (3 * k + 3) = a then some (.inl 0) else f_X4_endsNewPair_L31 c (nI n) a b (nI m) fu (nI (k + 1))) else f_X4_endsNewPair_L31 c (nI n) a b (nI m) fu (nI (k + 1)))) else (if Dg c (3 * k + 2) = b then (if Dg c (3 * k + 3) = a then some (.inl 0) else f_X4_endsNewPair_L31 c (nI n) a b (nI m) fu (nI (k + 1))) else f_X4_endsNewPair_L31 c (nI n) a b (nI m) fu (nI (k + 1)))) = f_X4_endsNewPair_L31 c (nI n) a b (nI m) fu (nI (k + 1)) := by
      intro h
      have r2 : (if Dg c (3 * k + 2) = b then (if Dg c (3 * k + 3) = a then (some (.inl 0) : Option (Int32 ⊕ Unit)) else f_X4_endsNewPair_L31 c (nI n) a b (nI m) fu (nI (k + 1))) else f_X4_endsNewPair_L31 c (nI n) a b (nI m) fu (nI (k + 1))) = f_X4_endsNewPair_L31 c (nI n) a b (nI m) fu (nI (k + 1)) := by
        by_cases q1 : Dg c (3 * k + 2) = b
        · rw [if_pos q1, if_neg (fun q2 => h (Or.inr ⟨q1, q2⟩))]
        · rw [if_neg q1]
      rw [r2]
      by_cases q1 : Dg c (3 * k + 2) = a
      · rw [if_pos q1, if_neg (fun q2 => h (Or.inl ⟨q1, q2⟩))]
      · rw [if_neg q1]
    refine ⟨fun h => ?_, fun ⟨p, p1, p2, p3⟩ => ?_⟩
    · rw [stepN (h k (Nat.le_refl k) (by omega))]
      exact i1 (fun p q1 q2 => h p (by omega) q2)
    · by_cases q : Cf c k a b
      · exact stepC q
      · rw [stepN q]
        have hne : p ≠ k := fun e => by subst e; exact q p3
        exact i2 ⟨p, by omega, p2, p3⟩
theorem new_yes {c : Nat → Int32} {n i : Nat} (hn : n ≤ 25) (hi : i < n) (h3 : i % 3 = 0) (h0 : i ≠ 0) (h1 : ¬ Dg c (i - 1) = Dg c i) (h2 : ∀ p, p < i / 3 - 1 → ¬ Cf c p (Dg c (i - 1)) (Dg c i)) : f_X4_endsNewPair c (nI n) (nI i) = some 1 := by
  unfold f_X4_endsNewPair
  have e1 : nI i - 1 = nI (i - 1) := pk_sub (b := 1) (by omega)
  have e2 : nI i / 3 - 1 = nI (i / 3 - 1) := by
    rw [show (3 : Int32) = nI 3 from rfl, pk_div (by omega) (by omega) (by omega)]
    exact pk_sub (b := 1) (by omega)
  rw [e1, digit_at hn (by omega), digit_at hn hi, e2]
  simp only [Option.bind_some]
  rw [if_neg h1]
  have := (enp_L (c := c) (n := n) (m := i / 3 - 1) (a := Dg c (i - 1)) (b := Dg c i) hn (fun p hp => by omega) (i / 3 - 1) 0 (by omega) 100 (by omega)).1 (fun p _ hp => h2 p hp)
  rw [nI_0] at this
  rw [this]; rfl
theorem new_no {c : Nat → Int32} {n i : Nat} (hn : n ≤ 25) (hi : i < n) (h3 : i % 3 = 0) (h0 : i ≠ 0) (h : Dg c (i - 1) = Dg c i ∨ ∃ p, p < i / 3 - 1 ∧ Cf c p (Dg c (i - 1)) (Dg c i)) : f_X4_endsNewPair c (nI n) (nI i) = some 0 := by
  unfold f_X4_endsNewPair
  have e1 : nI i - 1 = nI (i - 1) := pk_sub (b := 1) (by omega)
  have e2 : nI i / 3 - 1 = nI (i / 3 - 1) := by
    rw [show (3 : Int32) = nI 3 from rfl, pk_div (by omega) (by omega) (by omega)]
    exact pk_sub (b := 1) (by omega)
  rw [e1, digit_at hn (by omega), digit_at hn hi, e2]
  simp only [Option.bind_some]
  by_cases h1 : Dg c (i - 1) = Dg c i
  · rw [if_pos h1]
  · rw [if_neg h1]
    rcases h with h | ⟨p, p1, p2⟩
    · exact absurd h h1
    · have := (enp_L (c := c) (n := n) (m := i / 3 - 1) (a := Dg c (i - 1)) (b := Dg c i) hn (fun p hp => by omega) (i / 3 - 1) 0 (by omega) 100 (by omega)).2 ⟨p, Nat.zero_le p, p1, p2⟩
      rw [nI_0] at this
      rw [this]; rfl
theorem rem3 {i : Nat} (hi : i < 2 ^ 31) : nI i - nI i / 3 * 3 = nI (i % 3) := pk_rem (d := 3) hi (by omega) (by omega)
theorem fits_yes {c : Nat → Int32} {n i : Nat} (hn : n ≤ 25) (hi : i < n) (h : Fit c i) : f_X4_fits c (nI n) (nI i) = some 1 := by
  obtain ⟨f0, f1, f2, f3⟩ := h
  unfold f_X4_fits
  by_cases h0 : i = 0
  · subst h0
    have hd : f_X4_digitAt c (nI n) 0 = some (Dg c 0) := digit_at (i := 0) hn hi
    rw [if_pos nI_0, hd]
    simp only [Option.bind_some]
    rw [if_neg (f0 rfl).1, if_neg (f0 rfl).2]
  · rw [if_neg (nI_ne0 (by omega) (by omega)), rem3 (by omega)]
    rcases (show i % 3 = 0 ∨ i % 3 = 1 ∨ i % 3 = 2 by omega) with q | q | q
    · obtain ⟨g1, g2, g3⟩ := f3 h0 q
      rw [q, if_neg (by decide), if_neg (by decide), node_yes hn hi g1]
      simp only [Option.bind_some, if_neg ne10]
      rw [new_yes hn hi q h0 g2 g3]
      simp only [Option.bind_some, if_neg ne10]
    · rw [q, if_pos (by decide), code_at hn hi]
      simp only [Option.bind_some]
      rw [if_pos (f1 q)]
    · rw [q, if_neg (by decide), if_pos (by decide), node_yes hn hi (f2 q)]; rfl
theorem fits_no {c : Nat → Int32} {n i : Nat} (hn : n ≤ 25) (hi : i < n) (h : ¬ Fit c i) : f_X4_fits c (nI n) (nI i) = some 0 := by
  unfold f_X4_fits
  by_cases h0 : i = 0
  · subst h0
    have hd : f_X4_digitAt c (nI n) 0 = some (Dg c 0) := digit_at (i := 0) hn hi
    rw [if_pos nI_0, hd]
    simp only [Option.bind_some]
    by_cases g1 : Dg c 0 < 2
    · rw [if_pos g1]
    · rw [if_neg g1]
      by_cases g2 : (6 : Int32) < Dg c 0
      · rw [if_pos g2]
      · exact absurd ⟨fun _ => ⟨g1, g2⟩, fun q => by omega, fun q => by omega, fun q => absurd rfl q⟩ h
  · rw [if_neg (nI_ne0 (by omega) (by omega)), rem3 (by omega)]
    rcases (show i % 3 = 0 ∨ i % 3 = 1 ∨ i % 3 = 2 by omega) with q | q | q
    · rw [q, if_neg (by decide), if_neg (by decide)]
      by_cases g1 : Nd c i
      · rw [node_yes hn hi g1]
        simp only [Option.bind_some, if_neg ne10]
        have hor : Dg c (i - 1) = Dg c i ∨ ∃ p, p < i / 3 - 1 ∧ Cf c p (Dg c (i - 1)) (Dg c i) := by
          rcases Classical.em (Dg c (i - 1) = Dg c i) with g2 | g2
          · exact Or.inl g2
          · rcases Classical.em (∃ p, p < i / 3 - 1 ∧ Cf c p (Dg c (i - 1)) (Dg c i)) with g3 | g3
            · exact Or.inr g3
            · exact absurd ⟨fun z => absurd z h0, fun z => by omega, fun z => by omega, fun _ _ => ⟨g1, g2, fun p hp z => g3 ⟨p, hp, z⟩⟩⟩ h
        rw [new_no hn hi q h0 hor]
        simp only [Option.bind_some, if_true]
      · rw [node_no hn hi g1]
        simp only [Option.bind_some, if_true]
    · rw [q, if_pos (by decide), code_at hn hi]
      simp only [Option.bind_some]
      rw [if_neg]
      intro g
      exact h ⟨fun z => absurd z h0, fun _ => g, fun z => by omega, fun _ z => by omega⟩
    · rw [q, if_neg (by decide), if_pos (by decide), node_no hn hi]
      · rfl
      · intro g
        exact h ⟨fun z => absurd z h0, fun z => by omega, fun _ => g, fun _ z => by omega⟩
theorem first_ex (c : Nat → Int32) (n : Nat) : ∃ e, e ≤ n ∧ (∀ j, j < e → Fit c j) ∧ (e < n → ¬ Fit c e) := by
  obtain ⟨e, h1, h2⟩ := pk_least (fun e => e = n ∨ ¬ Fit c e) ⟨n, Or.inl rfl⟩
  have hle : e ≤ n := by
    rcases Nat.lt_or_ge n e with q | q
    · exact absurd (Or.inl rfl) (h2 n q)
    · exact q
  refine ⟨e, hle, fun j hj => ?_, fun he => ?_⟩
  · rcases Classical.em (Fit c j) with q | q
    · exact q
    · exact absurd (Or.inr q) (h2 j hj)
  · rcases h1 with h1 | h1
    · omega
    · exact h1
theorem first_eq {c : Nat → Int32} {n e : Nat} (hn : n ≤ 25) (he : e ≤ n) (hf : ∀ j, j < e → Fit c j) (hw : e < n → ¬ Fit c e) : f_X4_firstWrong c (nI n) = some (nI e) := by
  unfold f_X4_firstWrong
  have h := lup (f := fun fu (_ : Unit) y => f_X4_firstWrong_L2 c (nI n) fu y) (acc := fun _ => ()) (K := e) (out := if e = n then .inr () else .inl (nI e))
    (fun fu => by
      show f_X4_firstWrong_L2 _ _ _ _ = _
      rw [f_X4_firstWrong_L2_s]
      by_cases q : e = n
      · subst q; rw [if_pos (nI_le (Nat.le_refl _) (by omega)), if_pos rfl]
      · rw [if_neg (nI_ge (by omega) (by omega)), fits_no hn (by omega) (hw (by omega)), if_neg q]
        simp only [Option.bind_some, if_true])
    (fun fu k hk => by
      show f_X4_firstWrong_L2 _ _ _ _ = f_X4_firstWrong_L2 _ _ _ _
      rw [f_X4_firstWrong_L2_s, if_neg (nI_ge (by omega) (by omega)), fits_yes hn (by omega) (hf k hk), nI_1]
      simp only [Option.bind_some, if_neg ne10]) 100 0 (by omega) (by omega)
  have h : f_X4_firstWrong_L2 c (nI n) 100 0 = _ := h
  rw [h]
  by_cases q : e = n
  · subst q; rw [if_pos rfl]; rfl
  · rw [if_neg q]; rfl
