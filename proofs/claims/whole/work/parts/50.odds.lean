/-! odds, facts of a spreading, the best variant -/
theorem red_L {W x c g : Nat} (hW : 0 < W) (hW2 : W ≤ 40) (hx : x ≤ 40) (hc : c ≤ 40) (hg : g = Nat.gcd c W) : ∀ n d, g ≤ d → d ≤ W → d ≤ n → f_X3_reduced_L5 (nI W) (nI x) (nI c) n (nI d) = some (if g = 1 then .inr () else .inl (nI (x / g))) := by
  have hg0 : 0 < g := by rw [hg]; exact Nat.gcd_pos_of_pos_right c hW
  intro n
  induction n with
  | zero => intro d h1 h2 h3; omega
  | succ n ih =>
    intro d h1 h2 h3
    rw [f_X3_reduced_L5_s]
    by_cases hd : d ≤ 1
    · rw [if_pos (show nI d ≤ 1 from nI_le (b := 1) hd (by decide)), if_pos (by omega)]
    · rw [if_neg (show ¬ nI d ≤ 1 from fun q => hd ((nI_leI (a := d) (b := 1) (by omega) (by decide)).mp q)), if_neg (nI_ne0 (by omega) (by omega)), pk_rem (by omega) (by omega) (by omega), pk_rem (by omega) (by omega) (by omega)]
      have hm : nI d + (-1) = nI (d - 1) := sb_m1 (by omega)
      have hgc : g ∣ c := by rw [hg]; exact Nat.gcd_dvd_left c W
      have hgw : g ∣ W := by rw [hg]; exact Nat.gcd_dvd_right c W
      have hlc := Nat.mod_lt c (show 0 < d by omega)
      have hlw := Nat.mod_lt W (show 0 < d by omega)
      by_cases k1 : c % d = 0
      · rw [if_pos (by rw [k1]; rfl)]
        by_cases k2 : W % d = 0
        · rw [if_pos (by rw [k2]; rfl)]
          have e : d = g := by
            have q : d ∣ g := by rw [hg]; exact Nat.dvd_gcd (Nat.dvd_of_mod_eq_zero k1) (Nat.dvd_of_mod_eq_zero k2)
            have := Nat.le_of_dvd hg0 q
            omega
          subst e
          rw [if_neg (by omega), pk_div (by omega) (by omega) (by omega)]
        · rw [if_neg (nI_ne0 (by omega) (by omega)), hm]
          refine ih (d - 1) ?_ (by omega) (by omega)
          rcases Nat.lt_or_ge g d with q | q
          · omega
          · have e : g = d := by omega
            subst e
            exact absurd (Nat.mod_eq_zero_of_dvd hgw) k2
      · rw [if_neg (nI_ne0 (by omega) (by omega)), hm]
        refine ih (d - 1) ?_ (by omega) (by omega)
        rcases Nat.lt_or_ge g d with q | q
        · omega
        · have e : g = d := by omega
          subst e
          exact absurd (Nat.mod_eq_zero_of_dvd hgc) k1
theorem red_eq {W x c : Nat} (hW : 0 < W) (hW2 : W ≤ 40) (hx : x ≤ 40) (hc : c ≤ 40) : f_X3_reduced (nI W) (nI x) (nI c) = some (nI (x / Nat.gcd c W)) := by
  unfold f_X3_reduced
  rw [red_L hW hW2 hx hc rfl 100 W (Nat.le_of_dvd hW (Nat.gcd_dvd_right c W)) (Nat.le_refl W) (by omega)]
  by_cases h : Nat.gcd c W = 1
  · rw [if_pos h, h, Nat.div_one]; rfl
  · rw [if_neg h]; rfl
theorem pow_eq {Dn b : Nat} (hD : Dn ≤ 4) : f_X3_power (nI Dn) (nI b) = some (nI (b ^ Dn)) := by
  unfold f_X3_power
  have h := lup (f := fun n s y => f_X3_power_L4 (nI Dn) (nI b) n s y) (acc := fun k => nI (b ^ k)) (K := Dn) (out := nI (b ^ Dn))
    (fun n => by
      show f_X3_power_L4 _ _ _ _ _ = _
      rw [f_X3_power_L4_s, if_pos (nI_le (Nat.le_refl Dn) (by omega))])
    (fun n k hk => by
      show f_X3_power_L4 _ _ _ _ _ = f_X3_power_L4 _ _ _ _ _
      rw [f_X3_power_L4_s, if_neg (nI_ge hk (by omega)), nI_1, pk_mul, Nat.pow_succ]) 100 0 (by omega) (by omega)
  have h : f_X3_power_L4 (nI Dn) (nI b) 100 1 0 = _ := h
  rw [h]; rfl
theorem com_L : ∀ j x y n, x < 2 ^ 31 → y < 2 ^ 31 → y < 2 ^ j → 2 * j < n → f_X6_common_L4 n (nI x) (nI y) = some (nI (Nat.gcd x y)) := by
  intro j
  induction j with
  | zero =>
    intro x y n hx hy hj hn
    have h0 : y = 0 := by have : (2 : Nat) ^ 0 = 1 := rfl; omega
    subst h0
    obtain ⟨n, rfl⟩ : ∃ z, n = z + 1 := ⟨n - 1, by omega⟩
    rw [f_X6_common_L4_s, if_pos nI_0, Nat.gcd_zero_right]
  | succ j ih =>
    intro x y n hx hy hj hn
    obtain ⟨n, rfl⟩ : ∃ z, n = z + 1 + 1 := ⟨n - 2, by omega⟩
    rw [f_X6_common_L4_s]
    by_cases h0 : y = 0
    · subst h0; rw [if_pos nI_0, Nat.gcd_zero_right]
    · rw [if_neg (nI_ne0 (by omega) hy), if_neg (nI_ne0 (by omega) hy), pk_rem hx (by omega) hy, f_X6_common_L4_s]
      have hr := Nat.mod_lt x (show 0 < y by omega)
      have e : Nat.gcd x y = Nat.gcd y (x % y) := by rw [Nat.gcd_comm x y, Nat.gcd_rec y x, Nat.gcd_comm]
      rw [e]
      generalize x % y = r at hr ⊢
      by_cases h1 : r = 0
      · subst h1; rw [if_pos nI_0, Nat.gcd_zero_right]
      · rw [if_neg (nI_ne0 (by omega) (by omega)), if_neg (nI_ne0 (by omega) (by omega)), pk_rem hy (by omega) (by omega)]
        have hq := Nat.mod_lt y (show 0 < r by omega)
        have e2 : Nat.gcd y r = Nat.gcd r (y % r) := by rw [Nat.gcd_comm y r, Nat.gcd_rec r y, Nat.gcd_comm]
        rw [e2]
        refine ih r (y % r) n (by omega) (by omega) ?_ (by omega)
        have h3 : r + y % r ≤ y := by
          have h4 := Nat.div_add_mod y r
          have h5 : 1 ≤ y / r := Nat.div_pos (by omega) (by omega)
          have h6 : r * 1 ≤ r * (y / r) := Nat.mul_le_mul_left r h5
          omega
        rw [Nat.pow_succ] at hj
        omega
theorem odds_eq {W Dn c : Nat} {bits : Int64} (hW : 8 ≤ W) (hW2 : W ≤ 40) (hD1 : 1 ≤ Dn) (hD : Dn ≤ 4) (hc : c ≤ 40) (ho : f_X6_ones bits = some (nI c)) : f_X6_odds (nI W) (nI Dn) bits 0 = some (nI ((c / Nat.gcd c W) ^ Dn)) ∧ f_X6_odds (nI W) (nI Dn) bits 1 = some (nI ((W / Nat.gcd c W) ^ Dn)) := by
  have h := lup (f := fun n s y => f_X6_odds_L7 (nI W) (nI Dn) bits n s.1 s.2 y) (acc := fun k => (nI (c ^ k), nI (W ^ k))) (K := Dn) (out := (nI (c ^ Dn), nI (W ^ Dn)))
    (fun n => by
      show f_X6_odds_L7 _ _ _ _ _ _ _ = _
      rw [f_X6_odds_L7_s, if_pos (nI_le (Nat.le_refl Dn) (by omega))])
    (fun n k hk => by
      show f_X6_odds_L7 _ _ _ _ _ _ _ = f_X6_odds_L7 _ _ _ _ _ _ _
      rw [f_X6_odds_L7_s, if_neg (nI_ge hk (by omega)), nI_1, ho]
      simp only [Option.bind_some]
      rw [pk_mul, pk_mul, Nat.pow_succ, Nat.pow_succ]) 100 0 (by omega) (by omega)
  have h : f_X6_odds_L7 (nI W) (nI Dn) bits 100 1 1 0 = some (nI (c ^ Dn), nI (W ^ Dn)) := h
  have b1 : c ^ Dn ≤ 2560000 := Nat.le_trans (Nat.pow_le_pow_left hc Dn) (Nat.le_trans (Nat.pow_le_pow_right (by omega) hD) (by decide))
  have b2 : W ^ Dn ≤ 2560000 := Nat.le_trans (Nat.pow_le_pow_left hW2 Dn) (Nat.le_trans (Nat.pow_le_pow_right (by omega) hD) (by decide))
  have hg : 0 < Nat.gcd c W := Nat.gcd_pos_of_pos_right c (by omega)
  have hG : 0 < Nat.gcd c W ^ Dn := Nat.pow_pos hg
  have hcom : f_X6_common (nI (c ^ Dn)) (nI (W ^ Dn)) = some (nI (Nat.gcd c W ^ Dn)) := by
    unfold f_X6_common
    rw [com_L 22 (c ^ Dn) (W ^ Dn) 100 (by omega) (by omega) (by omega) (by omega), Nat.pow_gcd_pow]; rfl
  have b3 : Nat.gcd c W ^ Dn ≤ 2560000 := by
    refine Nat.le_trans (Nat.pow_le_pow_left ?_ Dn) b2
    exact Nat.le_of_dvd (by omega) (Nat.gcd_dvd_right c W)
  have hne : ¬ nI (Nat.gcd c W ^ Dn) = 0 := nI_ne0 hG (by omega)
  unfold f_X6_odds
  rw [h]
  simp only [Option.bind_some]
  rw [hcom]
  simp only [Option.bind_some, if_neg hne, if_neg ne10, if_true]
  rw [pk_div (by omega) hG (by omega), pk_div (by omega) hG (by omega), Nat.div_pow (Nat.gcd_dvd_left c W), Nat.div_pow (Nat.gcd_dvd_right c W)]
  exact ⟨rfl, rfl⟩
/-- what is told of a spreading -/
theorem fact_eq {W Dn c : Nat} {bits : Int64} (hW : 8 ≤ W) (hW2 : W ≤ 40) (hD1 : 1 ≤ Dn) (hD : Dn ≤ 4) (hc : c ≤ 40) (ho : f_X6_ones bits = some (nI c)) (p a l s r o : Int32) (w : Nat) (hw : w < 9) : ∃ z, f_X5_spreadFact (nI W) (nI Dn) (nI c) p a l s r o (nI w) = some z ∧ f_X6_spreadNow (nI W) (nI Dn) bits p a l s r o (nI w) = some z := by
  obtain ⟨o1, o2⟩ := odds_eq hW hW2 hD1 hD hc ho
  have x1 : f_X3_oddsAbove (nI W) (nI Dn) (nI c) = some (nI ((c / Nat.gcd c W) ^ Dn)) := by
    unfold f_X3_oddsAbove
    rw [red_eq (by omega) hW2 hc hc]
    simp only [Option.bind_some]
    rw [pow_eq hD]; rfl
  have x2 : f_X3_oddsBelow (nI W) (nI Dn) (nI c) = some (nI ((W / Nat.gcd c W) ^ Dn)) := by
    unfold f_X3_oddsBelow
    rw [red_eq (by omega) hW2 hW2 hc]
    simp only [Option.bind_some]
    rw [pow_eq hD]; rfl
  unfold f_X5_spreadFact f_X6_spreadNow
  rcases (show w = 0 ∨ w = 1 ∨ w = 2 ∨ w = 3 ∨ w = 4 ∨ w = 5 ∨ w = 6 ∨ w = 7 ∨ w = 8 by omega) with rfl | rfl | rfl | rfl | rfl | rfl | rfl | rfl | rfl
  · exact ⟨_, rfl, by rw [if_pos nI_0, ho]; rfl⟩
  · exact ⟨_, rfl, rfl⟩
  · exact ⟨_, rfl, rfl⟩
  · exact ⟨_, rfl, rfl⟩
  · exact ⟨_, rfl, rfl⟩
  · exact ⟨_, rfl, rfl⟩
  · refine ⟨nI ((c / Nat.gcd c W) ^ Dn), ?_, ?_⟩
    · rw [x1]; rfl
    · rw [show (nI 6 - 6 : Int32) = 0 from rfl, o1]; rfl
  · refine ⟨nI ((W / Nat.gcd c W) ^ Dn), ?_, ?_⟩
    · rw [x2]; rfl
    · rw [show (nI 7 - 6 : Int32) = 1 from rfl, o2]; rfl
  · exact ⟨_, rfl, rfl⟩
