/-! the best variant -/
theorem better_iff {a la c lb : Nat} (h1 : a ≤ 96) (h2 : la ≤ 96) (h3 : c ≤ 40) (h4 : lb ≤ 40) : ((if nI a < nI la then (1 : Int32) else (if nI a = nI la then (if nI lb ≤ nI c then (0 : Int32) else 1) else 0)) = 0) ↔ 64 * la + lb ≤ 64 * a + c := by
  have e1 := nI_ltI (a := a) (b := la) (by omega) (by omega)
  have e2 := nI_eq (a := a) (b := la) (by omega) (by omega)
  have e3 := nI_leI (a := lb) (b := c) (by omega) (by omega)
  by_cases k1 : a < la
  · rw [if_pos (e1.mpr k1)]; exact ⟨fun q => absurd q ne10, fun q => by omega⟩
  · rw [if_neg (fun q => k1 (e1.mp q))]
    by_cases k2 : a = la
    · rw [if_pos (e2.mpr k2)]
      by_cases k3 : lb ≤ c
      · rw [if_pos (e3.mpr k3)]; exact ⟨fun _ => by omega, fun _ => rfl⟩
      · rw [if_neg (fun q => k3 (e3.mp q))]; exact ⟨fun q => absurd q ne10, fun q => by omega⟩
    · rw [if_neg (fun q => k2 (e2.mp q))]; exact ⟨fun _ => by omega, fun _ => rfl⟩
theorem val_eq (a c : Nat) : (64 : Int32) * nI a + nI c = nI (64 * a + c) := by
  rw [show (64 : Int32) = nI 64 from rfl, pk_mul, nI_add]
section BEST
variable {N K : Nat} {st en wk bn : Nat → Int32} {xb mb : Nat → Int64} {f : Nat} {x2 T z : Int32} {ct a R o M : Nat → Nat} {p l s : Nat → Int32}
theorem bv_step (hC : ∀ v, v < 3 → f_X5_spreadOut (nI N) (nI K) st en wk xb bn (nI f) x2 (nI v) z = some (nI (ct v), p v, nI (a v), l v, s v, nI (R v), nI (o v))) (ha : ∀ v, v < 3 → a v ≤ 96) (hct : ∀ v, v < 3 → ct v ≤ 40) {n v b la lb : Nat} (hv0 : 0 < v) (hv : v < 3) (hla : la ≤ 96) (hlb : lb ≤ 40) (g1 g2 g3 g4 g5 g6 g7 : Int32) :
    f_X5_bestVariant_L12 (nI N) (nI K) st en wk xb bn (nI f) x2 z (n + 1) g1 g2 g3 g4 g5 g6 g7 (nI b) (nI la) (nI lb) (nI v) = if 64 * la + lb ≤ 64 * a v + ct v then f_X5_bestVariant_L12 (nI N) (nI K) st en wk xb bn (nI f) x2 z n (nI (ct v)) (p v) (nI (a v)) (l v) (s v) (nI (R v)) (nI (o v)) (nI b) (nI la) (nI lb) (nI (v + 1)) else f_X5_bestVariant_L12 (nI N) (nI K) st en wk xb bn (nI f) x2 z n (nI (ct v)) (p v) (nI (a v)) (l v) (s v) (nI (R v)) (nI (o v)) (nI v) (nI (a v)) (nI (ct v)) (nI (v + 1)) := by
  rw [f_X5_bestVariant_L12_s, if_neg (show ¬ (3 : Int32) ≤ nI v from nI_ge (b := 3) hv (by decide)), hC v hv, nI_1]
  simp only [Option.bind_some]
  rw [if_neg (nI_ne0 hv0 (by omega))]
  have hb := better_iff (ha v hv) hla (hct v hv) hlb
  by_cases q : 64 * la + lb ≤ 64 * a v + ct v
  · rw [if_pos (hb.mpr q), if_pos q]; rfl
  · rw [if_neg (fun w => q (hb.mp w)), if_neg q]; rfl
theorem bo_step (hM : ∀ v, v < 3 → f_X6_laySpread (nI K) st en bn mb (nI f) T (nI v) z = some (lN (M v), p v, nI (a v), l v, s v, nI (R v), nI (o v))) (ho : ∀ v, v < 3 → f_X6_ones (lN (M v)) = some (nI (ct v))) (ha : ∀ v, v < 3 → a v ≤ 96) (hct : ∀ v, v < 3 → ct v ≤ 40) {n v b la lb : Nat} (hbv : b < v) (hv : v < 3) (hla : la ≤ 96) (hlb : lb ≤ 40) (g1 : Int64) (g2 g3 g4 g5 g6 g7 : Int32) :
    f_X6_bestOf_L9 (nI K) st en bn mb (nI f) T z (n + 1) g1 g2 g3 g4 g5 g6 g7 (nI b) (nI (64 * la + lb)) (nI v) = if 64 * la + lb ≤ 64 * a v + ct v then f_X6_bestOf_L9 (nI K) st en bn mb (nI f) T z n (lN (M v)) (p v) (nI (a v)) (l v) (s v) (nI (R v)) (nI (o v)) (nI b) (nI (64 * la + lb)) (nI (v + 1)) else f_X6_bestOf_L9 (nI K) st en bn mb (nI f) T z n (lN (M v)) (p v) (nI (a v)) (l v) (s v) (nI (R v)) (nI (o v)) (nI v) (nI (64 * a v + ct v)) (nI (v + 1)) := by
  have h1 := ha v hv
  have h2 := hct v hv
  have hm1 : ¬ nI b = -1 := fun q => by
    have := congrArg Int32.toInt q
    rw [nI_toInt (by omega)] at this
    have e : (-1 : Int32).toInt = -1 := rfl
    omega
  have hne : ¬ nI b = nI v := fun q => by
    have := (nI_eq (by omega) (by omega)).mp q
    omega
  rw [f_X6_bestOf_L9_s, if_neg (show ¬ (3 : Int32) ≤ nI v from nI_ge (b := 3) hv (by decide)), hM v hv, nI_1]
  simp only [Option.bind_some]
  rw [ho v hv]
  simp only [Option.bind_some, val_eq, if_neg hm1]
  have e := nI_leI (a := 64 * la + lb) (b := 64 * a v + ct v) (by omega) (by omega)
  by_cases q : 64 * la + lb ≤ 64 * a v + ct v
  · simp only [if_pos q, if_pos (e.mpr q), if_neg hne, Option.bind_some]
  · simp only [if_neg q, if_neg (fun w => q (e.mp w)), if_true, Option.bind_some]
theorem bv_0 (hC : ∀ v, v < 3 → f_X5_spreadOut (nI N) (nI K) st en wk xb bn (nI f) x2 (nI v) z = some (nI (ct v), p v, nI (a v), l v, s v, nI (R v), nI (o v))) (n : Nat) (g1 g2 g3 g4 g5 g6 g7 : Int32) : f_X5_bestVariant_L12 (nI N) (nI K) st en wk xb bn (nI f) x2 z (n + 1) g1 g2 g3 g4 g5 g6 g7 0 0 0 0 = f_X5_bestVariant_L12 (nI N) (nI K) st en wk xb bn (nI f) x2 z n (nI (ct 0)) (p 0) (nI (a 0)) (l 0) (s 0) (nI (R 0)) (nI (o 0)) (nI 0) (nI (a 0)) (nI (ct 0)) (nI (0 + 1)) := by
  have h0 := hC 0 (by omega)
  rw [nI_0] at h0
  rw [f_X5_bestVariant_L12_s, if_neg (by decide), h0]
  simp only [Option.bind_some, if_true]
  rw [nI_0, show (0 : Int32) + 1 = nI (0 + 1) from rfl]
theorem bo_0 (hM : ∀ v, v < 3 → f_X6_laySpread (nI K) st en bn mb (nI f) T (nI v) z = some (lN (M v), p v, nI (a v), l v, s v, nI (R v), nI (o v))) (ho : ∀ v, v < 3 → f_X6_ones (lN (M v)) = some (nI (ct v))) (n : Nat) (k1 : Int64) (k2 k3 k4 k5 k6 k7 m1 : Int32) (hm : m1 = -1) : f_X6_bestOf_L9 (nI K) st en bn mb (nI f) T z (n + 1) k1 k2 k3 k4 k5 k6 k7 m1 0 0 = f_X6_bestOf_L9 (nI K) st en bn mb (nI f) T z n (lN (M 0)) (p 0) (nI (a 0)) (l 0) (s 0) (nI (R 0)) (nI (o 0)) (nI 0) (nI (64 * a 0 + ct 0)) (nI (0 + 1)) := by
  have h0 := hM 0 (by omega)
  rw [nI_0] at h0
  rw [f_X6_bestOf_L9_s, if_neg (by decide), h0]
  simp only [Option.bind_some]
  rw [ho 0 (by omega)]
  simp only [Option.bind_some, val_eq, if_pos hm, if_true]
  rw [nI_0, show (0 : Int32) + 1 = nI (0 + 1) from rfl]
theorem bv_3 (n b la lb : Nat) (q1 q2 q3 q4 q5 q6 q7 : Int32) : f_X5_bestVariant_L12 (nI N) (nI K) st en wk xb bn (nI f) x2 z (n + 1) q1 q2 q3 q4 q5 q6 q7 (nI b) (nI la) (nI lb) (nI (2 + 1)) = some (q1, q2, q3, q4, q5, q6, q7, nI b) := by
  rw [f_X5_bestVariant_L12_s, if_pos (by decide)]
theorem bo_3 (n b : Nat) (x5 : Int32) (q1 : Int64) (q2 q3 q4 q5 q6 q7 : Int32) : f_X6_bestOf_L9 (nI K) st en bn mb (nI f) T z (n + 1) q1 q2 q3 q4 q5 q6 q7 (nI b) x5 (nI (2 + 1)) = some (q1, q2, q3, q4, q5, q6, q7, nI b) := by
  rw [f_X6_bestOf_L9_s, if_pos (by decide)]
theorem b_2 (hC : ∀ v, v < 3 → f_X5_spreadOut (nI N) (nI K) st en wk xb bn (nI f) x2 (nI v) z = some (nI (ct v), p v, nI (a v), l v, s v, nI (R v), nI (o v))) (hM : ∀ v, v < 3 → f_X6_laySpread (nI K) st en bn mb (nI f) T (nI v) z = some (lN (M v), p v, nI (a v), l v, s v, nI (R v), nI (o v))) (ho : ∀ v, v < 3 → f_X6_ones (lN (M v)) = some (nI (ct v))) (ha : ∀ v, v < 3 → a v ≤ 96) (hct : ∀ v, v < 3 → ct v ≤ 40) (n b la lb : Nat) (hb : b < 2) (hla : la ≤ 96) (hlb : lb ≤ 40) (q1 q2 q3 q4 q5 q6 q7 : Int32) (r1 : Int64) (r2 r3 r4 r5 r6 r7 : Int32) : ∃ b', b' < 3 ∧ (∃ t1 t2 t3 t4 t5 t6 t7, f_X5_bestVariant_L12 (nI N) (nI K) st en wk xb bn (nI f) x2 z (n + 1 + 1) q1 q2 q3 q4 q5 q6 q7 (nI b) (nI la) (nI lb) (nI (1 + 1)) = some (t1, t2, t3, t4, t5, t6, t7, nI b')) ∧ ∃ u1 u2 u3 u4 u5 u6 u7, f_X6_bestOf_L9 (nI K) st en bn mb (nI f) T z (n + 1 + 1) r1 r2 r3 r4 r5 r6 r7 (nI b) (nI (64 * la + lb)) (nI (1 + 1)) = some (u1, u2, u3, u4, u5, u6, u7, nI b') := by
  have X := bv_step hC ha hct (n := n + 1) (v := 1 + 1) (b := b) (la := la) (lb := lb) (by omega) (by omega) hla hlb q1 q2 q3 q4 q5 q6 q7
  have Y := bo_step hM ho ha hct (n := n + 1) (v := 1 + 1) (b := b) (la := la) (lb := lb) (by omega) (by omega) hla hlb r1 r2 r3 r4 r5 r6 r7
  by_cases q : 64 * la + lb ≤ 64 * a (1 + 1) + ct (1 + 1)
  · rw [if_pos q] at X Y
    exact ⟨b, by omega, ⟨_, _, _, _, _, _, _, X.trans (bv_3 n b la lb _ _ _ _ _ _ _)⟩, _, _, _, _, _, _, _, Y.trans (bo_3 n b _ _ _ _ _ _ _ _)⟩
  · rw [if_neg q] at X Y
    exact ⟨2, by omega, ⟨_, _, _, _, _, _, _, X.trans (bv_3 n 2 _ _ _ _ _ _ _ _ _)⟩, _, _, _, _, _, _, _, Y.trans (bo_3 n 2 _ _ _ _ _ _ _ _)⟩
theorem b_all (hC : ∀ v, v < 3 → f_X5_spreadOut (nI N) (nI K) st en wk xb bn (nI f) x2 (nI v) z = some (nI (ct v), p v, nI (a v), l v, s v, nI (R v), nI (o v))) (hM : ∀ v, v < 3 → f_X6_laySpread (nI K) st en bn mb (nI f) T (nI v) z = some (lN (M v), p v, nI (a v), l v, s v, nI (R v), nI (o v))) (ho : ∀ v, v < 3 → f_X6_ones (lN (M v)) = some (nI (ct v))) (ha : ∀ v, v < 3 → a v ≤ 96) (hct : ∀ v, v < 3 → ct v ≤ 40) (n : Nat) (g1 g2 g3 g4 g5 g6 g7 : Int32) (k1 : Int64) (k2 k3 k4 k5 k6 k7 : Int32) : ∃ b', b' < 3 ∧ (∃ t1 t2 t3 t4 t5 t6 t7, f_X5_bestVariant_L12 (nI N) (nI K) st en wk xb bn (nI f) x2 z (n + 1 + 1 + 1 + 1) g1 g2 g3 g4 g5 g6 g7 0 0 0 0 = some (t1, t2, t3, t4, t5, t6, t7, nI b')) ∧ ∃ u1 u2 u3 u4 u5 u6 u7, f_X6_bestOf_L9 (nI K) st en bn mb (nI f) T z (n + 1 + 1 + 1 + 1) k1 k2 k3 k4 k5 k6 k7 (-1) 0 0 = some (u1, u2, u3, u4, u5, u6, u7, nI b') := by
  have a0 := ha 0 (by omega)
  have a1 := ha (0 + 1) (by omega)
  have c0 := hct 0 (by omega)
  have c1 := hct (0 + 1) (by omega)
  rw [bv_0 hC (n + 1 + 1 + 1), bo_0 hM ho (n + 1 + 1 + 1) k1 k2 k3 k4 k5 k6 k7 (-1) rfl]
  have X := bv_step hC ha hct (n := n + 1 + 1) (v := 0 + 1) (b := 0) (la := a 0) (lb := ct 0) (by omega) (by omega) a0 c0 (nI (ct 0)) (p 0) (nI (a 0)) (l 0) (s 0) (nI (R 0)) (nI (o 0))
  have Y := bo_step hM ho ha hct (n := n + 1 + 1) (v := 0 + 1) (b := 0) (la := a 0) (lb := ct 0) (by omega) (by omega) a0 c0 (lN (M 0)) (p 0) (nI (a 0)) (l 0) (s 0) (nI (R 0)) (nI (o 0))
  by_cases q : 64 * a 0 + ct 0 ≤ 64 * a (0 + 1) + ct (0 + 1)
  · rw [if_pos q] at X Y
    rw [X, Y]
    exact b_2 hC hM ho ha hct n 0 (a 0) (ct 0) (by omega) a0 c0 _ _ _ _ _ _ _ _ _ _ _ _ _ _
  · rw [if_neg q] at X Y
    rw [X, Y]
    exact b_2 hC hM ho ha hct n (0 + 1) (a (0 + 1)) (ct (0 + 1)) (by omega) a1 c1 _ _ _ _ _ _ _ _ _ _ _ _ _ _
theorem best_ok (hC : ∀ v, v < 3 → f_X5_spreadOut (nI N) (nI K) st en wk xb bn (nI f) x2 (nI v) z = some (nI (ct v), p v, nI (a v), l v, s v, nI (R v), nI (o v))) (hM : ∀ v, v < 3 → f_X6_laySpread (nI K) st en bn mb (nI f) T (nI v) z = some (lN (M v), p v, nI (a v), l v, s v, nI (R v), nI (o v))) (ho : ∀ v, v < 3 → f_X6_ones (lN (M v)) = some (nI (ct v))) (ha : ∀ v, v < 3 → a v ≤ 96) (hct : ∀ v, v < 3 → ct v ≤ 40) (g1 g2 g3 g4 g5 g6 g7 : Int32) (k1 : Int64) (k2 k3 k4 k5 k6 k7 : Int32) :
    ∃ b, b < 3 ∧ (∃ t1 t2 t3 t4 t5 t6 t7, f_X5_bestVariant (nI N) (nI K) st en wk xb bn g1 g2 g3 g4 g5 g6 g7 (nI f) x2 z = some (nI b, t1, t2, t3, t4, t5, t6, t7)) ∧ ∃ u1 u2 u3 u4 u5 u6 u7, f_X6_bestOf (nI K) st en bn mb k1 k2 k3 k4 k5 k6 k7 (nI f) T z = some (nI b, u1, u2, u3, u4, u5, u6, u7) := by
  obtain ⟨b, hb, ⟨t1, t2, t3, t4, t5, t6, t7, ht⟩, u1, u2, u3, u4, u5, u6, u7, hu⟩ := b_all hC hM ho ha hct 96 g1 g2 g3 g4 g5 g6 g7 k1 k2 k3 k4 k5 k6 k7
  refine ⟨b, hb, ⟨t1, t2, t3, t4, t5, t6, t7, ?_⟩, u1, u2, u3, u4, u5, u6, u7, ?_⟩
  · unfold f_X5_bestVariant
    rw [show (100 : Nat) = 96 + 1 + 1 + 1 + 1 from rfl, ht]; rfl
  · unfold f_X6_bestOf
    rw [show (100 : Nat) = 96 + 1 + 1 + 1 + 1 from rfl, hu]; rfl
end BEST
