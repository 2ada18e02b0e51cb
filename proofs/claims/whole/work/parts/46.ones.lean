/-! how many bits: the reference's loop, the JDK's two methods -/
theorem bit_div (m k : Nat) : m / 2 ^ k % 2 = if m.testBit k then 1 else 0 := by
  rw [Nat.testBit_eq_decide_div_mod_eq]
  rcases Nat.mod_two_eq_zero_or_one (m / 2 ^ k) with h | h <;> simp [h]
theorem ones_eq {m : Nat} (hm : m < 2 ^ 40) : f_X6_ones (lN m) = some (nI (fb_ct m.testBit 40)) := by
  unfold f_X6_ones
  have h := lup (f := fun n s y => f_X6_ones_L4 (lN m) n s y) (acc := fun k => nI (fb_ct m.testBit k)) (K := 40) (out := nI (fb_ct m.testBit 40))
    (fun n => by
      show f_X6_ones_L4 _ _ _ _ = _
      rw [f_X6_ones_L4_s, if_pos (by decide)])
    (fun n k hk => by
      show f_X6_ones_L4 _ _ _ _ = f_X6_ones_L4 _ _ _ _
      have hs : (((nI k).toInt64 &&& 63).toBitVec.smod 64).toNat = k := by
        rw [wb_c k (by omega), wb_tb, wb_sm k (by omega), BitVec.toNat_ofNat, Nat.mod_eq_of_lt (by omega)]
      have hl := Nat.div_le_self m (2 ^ k)
      rw [f_X6_ones_L4_s, if_neg (show ¬ (40 : Int32) ≤ nI k from nI_ge (b := 40) hk (by decide)), pf_shr hs (by omega), wb_a1 (by omega), lN_i, nI_add, nI_1, bit_div, fb_ct_succ]) 100 0 (by omega) (by omega)
  have h : f_X6_ones_L4 (lN m) 100 0 0 = _ := h
  rw [h]; rfl
def rmk (c : Nat) : Nat → Nat
  | 0 => 0
  | n + 1 => 256 * rmk c n + c
def bc_a1 (n x : Nat) : Nat := x - ((x / 2) &&& rmk 85 n)
def bc_a2 (n x : Nat) : Nat := (bc_a1 n x &&& rmk 51 n) + ((bc_a1 n x / 4) &&& rmk 51 n)
def bc_a3 (n x : Nat) : Nat := (bc_a2 n x + bc_a2 n x / 16) &&& rmk 15 n
theorem and256 (y m : Nat) {d c : Nat} (hd : d < 256) (hc : c < 256) : (256 * y + d) &&& (256 * m + c) = 256 * (y &&& m) + (d &&& c) := by
  apply Nat.eq_of_testBit_eq
  intro i
  have h1 : d < 2 ^ 8 := hd
  have h2 : c < 2 ^ 8 := hc
  have h3 : d &&& c < 2 ^ 8 := Nat.lt_of_le_of_lt Nat.and_le_left hd
  rw [show (256 : Nat) = 2 ^ 8 from rfl, Nat.testBit_and, Nat.testBit_two_pow_mul_add y h1, Nat.testBit_two_pow_mul_add m h2, Nat.testBit_two_pow_mul_add _ h3]
  by_cases hi : i < 8
  · simp only [if_pos hi, Nat.testBit_and]
  · simp only [if_neg hi, Nat.testBit_and]
def bc_e1 (d : Nat) : Nat := d - ((d / 2) &&& 85)
def bc_e2 (d : Nat) : Nat := (bc_e1 d &&& 51) + ((bc_e1 d / 4) &&& 51)
theorem bc_t1 : ∀ b, b < 2 → ∀ d, d < 256 → (128 * b + d / 2) &&& 85 = (d / 2) &&& 85 := by decide +kernel
theorem bc_t2 : ∀ b, b < 4 → ∀ d, d < 256 → (64 * b + d / 4) &&& 51 = (d / 4) &&& 51 := by decide +kernel
theorem bc_t3 : ∀ d, d < 256 → bc_e2 d ≤ 68 ∧ bc_e2 d % 16 ≤ 4 := by decide +kernel
theorem bc_t4 : ∀ q, q < 5 → ∀ d, d < 256 → (bc_e2 d + bc_e2 d / 16 + 16 * q) &&& 15 = fb_ct d.testBit 8 := by decide +kernel
theorem bc_t5 : ∀ d, d < 256 → fb_ct d.testBit 8 ≤ 8 := fun d _ => fb_ct_le _ 8
theorem bc_1 (n y : Nat) {d : Nat} (hd : d < 256) : bc_a1 (n + 1) (256 * y + d) = 256 * bc_a1 n y + bc_e1 d := by
  unfold bc_a1 bc_e1
  have e : (256 * y + d) / 2 = 256 * (y / 2) + (128 * (y % 2) + d / 2) := by omega
  have h1 := bc_t1 (y % 2) (Nat.mod_lt _ (by omega)) d hd
  rw [e, show rmk 85 (n + 1) = 256 * rmk 85 n + 85 from rfl, and256 _ _ (by omega) (by omega), h1]
  have h2 : (y / 2) &&& rmk 85 n ≤ y := Nat.le_trans Nat.and_le_left (Nat.div_le_self y 2)
  have h3 : (d / 2) &&& 85 ≤ d := Nat.le_trans Nat.and_le_left (Nat.div_le_self d 2)
  omega
theorem bc_e1_lt {d : Nat} (hd : d < 256) : bc_e1 d < 256 := by unfold bc_e1; omega
theorem bc_2 (n y : Nat) {d : Nat} (hd : d < 256) : bc_a2 (n + 1) (256 * y + d) = 256 * bc_a2 n y + bc_e2 d := by
  unfold bc_a2 bc_e2
  have hl := bc_e1_lt hd
  rw [bc_1 n y hd, show rmk 51 (n + 1) = 256 * rmk 51 n + 51 from rfl]
  generalize bc_a1 n y = Y
  have h1 := bc_t2 (Y % 4) (Nat.mod_lt _ (by omega)) (bc_e1 d) hl
  have e : (256 * Y + bc_e1 d) / 4 = 256 * (Y / 4) + (64 * (Y % 4) + bc_e1 d / 4) := by omega
  rw [e, and256 _ _ hl (by omega), and256 _ _ (by omega) (by omega), h1]
  omega
theorem bc_n : ∀ n y, bc_a2 n y % 16 ≤ 4
  | 0, y => by
    unfold bc_a2
    rw [show rmk 51 0 = 0 from rfl, Nat.and_zero, Nat.and_zero]
    decide
  | n + 1, y => by
    have hd : y % 256 < 256 := Nat.mod_lt _ (by omega)
    have e : y = 256 * (y / 256) + y % 256 := by omega
    rw [e, bc_2 n _ hd]
    have := (bc_t3 _ hd).2
    omega
theorem bc_3 (n y : Nat) {d : Nat} (hd : d < 256) : bc_a3 (n + 1) (256 * y + d) = 256 * bc_a3 n y + fb_ct d.testBit 8 := by
  unfold bc_a3
  have hn := bc_n n y
  have h3 := (bc_t3 d hd).1
  rw [bc_2 n y hd, show rmk 15 (n + 1) = 256 * rmk 15 n + 15 from rfl]
  generalize bc_a2 n y = Y at hn
  have h4 := bc_t4 (Y % 16) (by omega) d hd
  have e : 256 * Y + bc_e2 d + (256 * Y + bc_e2 d) / 16 = 256 * (Y + Y / 16) + (bc_e2 d + bc_e2 d / 16 + 16 * (Y % 16)) := by omega
  rw [e, and256 _ _ (by omega) (by omega), h4]
theorem bc_0 (n : Nat) : bc_a3 n 0 = 0 := by
  simp [bc_a3, bc_a2, bc_a1]
theorem ct_split8 (y n : Nat) {d : Nat} (hd : d < 256) : fb_ct (256 * y + d).testBit (8 + n) = fb_ct d.testBit 8 + fb_ct y.testBit n := by
  have hd8 : d < 2 ^ 8 := hd
  rw [fb_ct_split]
  have e1 : fb_ct (256 * y + d).testBit 8 = fb_ct d.testBit 8 := fb_ct_cong (fun k hk => by
    rw [show (256 : Nat) = 2 ^ 8 from rfl, Nat.testBit_two_pow_mul_add y hd8, if_pos hk])
  have e2 : fb_ct (fun k => (256 * y + d).testBit (8 + k)) n = fb_ct y.testBit n := fb_ct_cong (fun k hk => by
    rw [show (256 : Nat) = 2 ^ 8 from rfl, Nat.testBit_two_pow_mul_add y hd8, if_neg (by omega), Nat.add_sub_cancel_left])
  rw [e1, e2]
theorem ct_0 (n : Nat) : fb_ct (0 : Nat).testBit n = 0 := fb_ct_zero.mpr (fun k _ => Nat.zero_testBit k)
theorem bc_40 {m : Nat} (hm : m < 2 ^ 40) : ∃ c0 c1 c2 c3 c4, c0 ≤ 8 ∧ c1 ≤ 8 ∧ c2 ≤ 8 ∧ c3 ≤ 8 ∧ c4 ≤ 8 ∧ bc_a3 8 m = c0 + 256 * (c1 + 256 * (c2 + 256 * (c3 + 256 * c4))) ∧ fb_ct m.testBit 40 = c0 + c1 + c2 + c3 + c4 := by
  obtain ⟨d0, y0, hd0, e0⟩ : ∃ d y, d < 256 ∧ m = 256 * y + d := ⟨m % 256, m / 256, Nat.mod_lt _ (by omega), by omega⟩
  obtain ⟨d1, y1, hd1, e1⟩ : ∃ d y, d < 256 ∧ y0 = 256 * y + d := ⟨y0 % 256, y0 / 256, Nat.mod_lt _ (by omega), by omega⟩
  obtain ⟨d2, y2, hd2, e2⟩ : ∃ d y, d < 256 ∧ y1 = 256 * y + d := ⟨y1 % 256, y1 / 256, Nat.mod_lt _ (by omega), by omega⟩
  obtain ⟨d3, y3, hd3, e3⟩ : ∃ d y, d < 256 ∧ y2 = 256 * y + d := ⟨y2 % 256, y2 / 256, Nat.mod_lt _ (by omega), by omega⟩
  obtain ⟨d4, y4, hd4, e4⟩ : ∃ d y, d < 256 ∧ y3 = 256 * y + d := ⟨y3 % 256, y3 / 256, Nat.mod_lt _ (by omega), by omega⟩
  have h4 : y4 = 0 := by omega
  subst h4 e4 e3 e2 e1 e0
  refine ⟨_, _, _, _, _, bc_t5 d0 hd0, bc_t5 d1 hd1, bc_t5 d2 hd2, bc_t5 d3 hd3, bc_t5 d4 hd4, ?_, ?_⟩
  · rw [bc_3 7 _ hd0, bc_3 6 _ hd1, bc_3 5 _ hd2, bc_3 4 _ hd3, bc_3 3 _ hd4, bc_0]
    omega
  · rw [show (40 : Nat) = 8 + 32 from rfl, ct_split8 _ _ hd0, show (32 : Nat) = 8 + 24 from rfl, ct_split8 _ _ hd1, show (24 : Nat) = 8 + 16 from rfl, ct_split8 _ _ hd2, show (16 : Nat) = 8 + 8 from rfl, ct_split8 _ _ hd3, show (fb_ct (256 * 0 + d4).testBit 8) = fb_ct (256 * 0 + d4).testBit (8 + 0) from rfl, ct_split8 _ _ hd4, ct_0]
    omega
theorem bc_16 {m : Nat} (hm : m < 2 ^ 16) : ∃ c0 c1, c0 ≤ 8 ∧ c1 ≤ 8 ∧ bc_a3 4 m = c0 + 256 * c1 ∧ fb_ct m.testBit 16 = c0 + c1 := by
  obtain ⟨d0, y0, hd0, e0⟩ : ∃ d y, d < 256 ∧ m = 256 * y + d := ⟨m % 256, m / 256, Nat.mod_lt _ (by omega), by omega⟩
  obtain ⟨d1, y1, hd1, e1⟩ : ∃ d y, d < 256 ∧ y0 = 256 * y + d := ⟨y0 % 256, y0 / 256, Nat.mod_lt _ (by omega), by omega⟩
  have h4 : y1 = 0 := by omega
  subst h4 e1 e0
  refine ⟨_, _, bc_t5 d0 hd0, bc_t5 d1 hd1, ?_, ?_⟩
  · rw [bc_3 3 _ hd0, bc_3 2 _ hd1, bc_0]
    omega
  · rw [show (16 : Nat) = 8 + 8 from rfl, ct_split8 _ _ hd0, show (fb_ct (256 * 0 + d1).testBit 8) = fb_ct (256 * 0 + d1).testBit (8 + 0) from rfl, ct_split8 _ _ hd1, ct_0]
    omega
theorem long_bits {m : Nat} (hm : m < 2 ^ 40) : f_J13_bitCount_95d88 (lN m) = nI (fb_ct m.testBit 40) := by
  obtain ⟨c0, c1, c2, c3, c4, h0, h1, h2, h3, h4, ea, ec⟩ := bc_40 hm
  have M1 : (6148914691236517205 : Int64) = lN (rmk 85 8) := rfl
  have M2 : (3689348814741910323 : Int64) = lN (rmk 51 8) := rfl
  have M3 : (1085102592571150095 : Int64) = lN (rmk 15 8) := rfl
  have s1 : ((lN m).toUInt64 >>> (((1 : Int32)).toInt64.toUInt64 &&& Int64.toUInt64 63)).toInt64 = lN (m / 2) := wb_shr (k := 1) (by omega) (by omega)
  have l1 : (m / 2) &&& rmk 85 8 ≤ m := Nat.le_trans Nat.and_le_left (Nat.div_le_self m 2)
  have a1l : bc_a1 8 m ≤ m := Nat.sub_le _ _
  have v0 : f_J13_bitCount_95d88_v0 (lN m) = lN (bc_a2 8 m) := by
    unfold f_J13_bitCount_95d88_v0
    rw [s1, M1, M2, fb_andL, lN_sub l1]
    show (lN (bc_a1 8 m) &&& _) + _ = _
    have s2 : ((lN (bc_a1 8 m)).toUInt64 >>> (((2 : Int32)).toInt64.toUInt64 &&& Int64.toUInt64 63)).toInt64 = lN (bc_a1 8 m / 4) := wb_shr (k := 2) (by omega) (by omega)
    rw [show m - (m / 2 &&& rmk 85 8) = bc_a1 8 m from rfl, s2, fb_andL, fb_andL, lN_add]
    rfl
  have l2 : bc_a2 8 m ≤ m + m := by
    have q1 : bc_a1 8 m &&& rmk 51 8 ≤ bc_a1 8 m := Nat.and_le_left
    have q2 : bc_a1 8 m / 4 &&& rmk 51 8 ≤ bc_a1 8 m := Nat.le_trans Nat.and_le_left (Nat.div_le_self _ _)
    show (bc_a1 8 m &&& rmk 51 8) + (bc_a1 8 m / 4 &&& rmk 51 8) ≤ m + m
    omega
  have v1 : f_J13_bitCount_95d88_v1 (lN m) = lN (bc_a3 8 m + bc_a3 8 m / 256) := by
    unfold f_J13_bitCount_95d88_v1
    have s3 : ((lN (bc_a2 8 m)).toUInt64 >>> (((4 : Int32)).toInt64.toUInt64 &&& Int64.toUInt64 63)).toInt64 = lN (bc_a2 8 m / 16) := wb_shr (k := 4) (by omega) (by omega)
    have s4 : ((lN (bc_a3 8 m)).toUInt64 >>> (((8 : Int32)).toInt64.toUInt64 &&& Int64.toUInt64 63)).toInt64 = lN (bc_a3 8 m / 256) := wb_shr (k := 8) (by omega) (by omega)
    rw [v0, s3, lN_add, M3, fb_andL, show (bc_a2 8 m + bc_a2 8 m / 16) &&& rmk 15 8 = bc_a3 8 m from rfl, s4, lN_add]
  unfold f_J13_bitCount_95d88
  generalize hv : bc_a3 8 m + bc_a3 8 m / 256 = V at v1
  have s5 : ((lN V).toUInt64 >>> (((16 : Int32)).toInt64.toUInt64 &&& Int64.toUInt64 63)).toInt64 = lN (V / 65536) := wb_shr (k := 16) (by omega) (by omega)
  have s6 : ((lN (V + V / 65536)).toUInt64 >>> (((32 : Int32)).toInt64.toUInt64 &&& Int64.toUInt64 63)).toInt64 = lN ((V + V / 65536) / 4294967296) := wb_shr (k := 32) (by omega) (by omega)
  rw [v1, s5, lN_add, s6, lN_add, lN_i, show (127 : Int32) = nI (2 ^ 7 - 1) from rfl, fa_mask, ec]
  congr 1
  rw [ea] at hv
  have q1 : (c0 + 256 * (c1 + 256 * (c2 + 256 * (c3 + 256 * c4)))) / 256 = c1 + 256 * (c2 + 256 * (c3 + 256 * c4)) := by omega
  rw [q1] at hv
  have q2 : V / 65536 = (c2 + c3) + 256 * (c3 + c4) + 65536 * c4 := by omega
  rw [q2]
  have q3 : (V + ((c2 + c3) + 256 * (c3 + c4) + 65536 * c4)) / 4294967296 = c4 := by omega
  rw [q3]
  omega
theorem int_bits {m : Nat} (hm : m < 2 ^ 16) : f_J6_bitCount_0f7a4 (nI m) = nI (fb_ct m.testBit 16) := by
  obtain ⟨c0, c1, h0, h1, ea, ec⟩ := bc_16 hm
  have M1 : (1431655765 : Int32) = nI (rmk 85 4) := rfl
  have M2 : (858993459 : Int32) = nI (rmk 51 4) := rfl
  have M3 : (252645135 : Int32) = nI (rmk 15 4) := rfl
  have s1 : ((nI m).toUInt32 >>> (((1 : Int32)).toUInt32 &&& Int32.toUInt32 31)).toInt32 = nI (m / 2) := pk_ushrN (by omega) 1 1 (by decide)
  have l1 : (m / 2) &&& rmk 85 4 ≤ m := Nat.le_trans Nat.and_le_left (Nat.div_le_self m 2)
  have a1l : bc_a1 4 m ≤ m := Nat.sub_le _ _
  have s2 : ((nI (bc_a1 4 m)).toUInt32 >>> (((2 : Int32)).toUInt32 &&& Int32.toUInt32 31)).toInt32 = nI (bc_a1 4 m / 4) := pk_ushrN (by omega) 2 2 (by decide)
  have l2 : bc_a2 4 m ≤ m + m := by
    have q1 : bc_a1 4 m &&& rmk 51 4 ≤ bc_a1 4 m := Nat.and_le_left
    have q2 : bc_a1 4 m / 4 &&& rmk 51 4 ≤ bc_a1 4 m := Nat.le_trans Nat.and_le_left (Nat.div_le_self _ _)
    show (bc_a1 4 m &&& rmk 51 4) + (bc_a1 4 m / 4 &&& rmk 51 4) ≤ m + m
    omega
  have s3 : ((nI (bc_a2 4 m)).toUInt32 >>> (((4 : Int32)).toUInt32 &&& Int32.toUInt32 31)).toInt32 = nI (bc_a2 4 m / 16) := pk_ushrN (by omega) 4 4 (by decide)
  have v0 : f_J6_bitCount_0f7a4_v0 (nI m) = nI (bc_a3 4 m) := by
    unfold f_J6_bitCount_0f7a4_v0
    rw [s1, M1, fa_and, pk_sub l1, show m - (m / 2 &&& rmk 85 4) = bc_a1 4 m from rfl, s2, M2, fa_and, fa_and, nI_add, show (bc_a1 4 m &&& rmk 51 4) + (bc_a1 4 m / 4 &&& rmk 51 4) = bc_a2 4 m from rfl, s3, nI_add, M3, fa_and]
    rfl
  unfold f_J6_bitCount_0f7a4
  have s4 : ((nI (bc_a3 4 m)).toUInt32 >>> (((8 : Int32)).toUInt32 &&& Int32.toUInt32 31)).toInt32 = nI (bc_a3 4 m / 256) := pk_ushrN (by omega) 8 8 (by decide)
  have s5 : ((nI (bc_a3 4 m + bc_a3 4 m / 256)).toUInt32 >>> (((16 : Int32)).toUInt32 &&& Int32.toUInt32 31)).toInt32 = nI ((bc_a3 4 m + bc_a3 4 m / 256) / 65536) := pk_ushrN (by omega) 16 16 (by decide)
  rw [v0, s4, nI_add, s5, nI_add, show (63 : Int32) = nI (2 ^ 6 - 1) from rfl, fa_mask, ec]
  congr 1
  rw [ea]
  have q1 : (c0 + 256 * c1) / 256 = c1 := by omega
  rw [q1]
  have q2 : (c0 + 256 * c1 + c1) / 65536 = 0 := by omega
  rw [q2]
  omega
