/-! all marks, slot by slot: t = 20 * variant + slot -/
def sdq (W Dn K S : Nat) : Nat → Nat
  | 0 => S
  | t + 1 => if t % 20 < K ∨ 16 ≤ t % 20 then (dm W (sdq W Dn K S t) Dn).1 else sdq W Dn K S t
def mkv (W Dn K S t : Nat) : Nat := if t % 20 < K ∨ 16 ≤ t % 20 then (dm W (sdq W Dn K S t) Dn).2 else 0
theorem sdq_s (W Dn K S t : Nat) : sdq W Dn K S (t + 1) = if t % 20 < K ∨ 16 ≤ t % 20 then (dm W (sdq W Dn K S t) Dn).1 else sdq W Dn K S t := rfl
theorem sdq_lt {W Dn K S : Nat} (hS : S < 2147483648) (hW : 0 < W) (hW2 : W ≤ 40) : ∀ t, sdq W Dn K S t < 2147483648
  | 0 => hS
  | t + 1 => by
    unfold sdq
    by_cases h : t % 20 < K ∨ 16 ≤ t % 20
    · rw [if_pos h]; exact (dm_lt (sdq_lt hS hW hW2 t) hW hW2 Dn).1
    · rw [if_neg h]; exact sdq_lt hS hW hW2 t
theorem mkv_lt {W Dn K S : Nat} (hS : S < 2147483648) (hW : 0 < W) (hW2 : W ≤ 40) (t : Nat) : mkv W Dn K S t < 2 ^ 40 := by
  unfold mkv
  by_cases h : t % 20 < K ∨ 16 ≤ t % 20
  · rw [if_pos h]; exact (dm_lt (sdq_lt hS hW hW2 t) hW hW2 Dn).2
  · rw [if_neg h]; exact Nat.two_pow_pos 40
def fillM (W Dn K S : Nat) (f : Nat → Int64) (t : Nat) : Nat → Int64 := fun i => if i < t then lN (mkv W Dn K S i) else f i
def fillC (W Dn K S : Nat) (f : Nat → Int64) (t : Nat) : Nat → Int64 := fun i => if i < t ∧ (i % 20 < K ∨ 16 ≤ i % 20) then lN (mkv W Dn K S i) else f i
theorem fillM_s (W Dn K S : Nat) (f : Nat → Int64) (t : Nat) : vp_updL (fillM W Dn K S f t) t (lN (mkv W Dn K S t)) = fillM W Dn K S f (t + 1) := by
  funext i
  by_cases e : i = t
  · subst e; rw [pk_uLs]; unfold fillM; rw [if_pos (by omega)]
  · rw [pk_uLn e]; unfold fillM
    by_cases h : i < t
    · rw [if_pos h, if_pos (by omega)]
    · rw [if_neg h, if_neg (by omega)]
theorem fillC_s (W Dn K S : Nat) (f : Nat → Int64) (t : Nat) (ha : t % 20 < K ∨ 16 ≤ t % 20) : vp_updL (fillC W Dn K S f t) t (lN (mkv W Dn K S t)) = fillC W Dn K S f (t + 1) := by
  funext i
  by_cases e : i = t
  · subst e; rw [pk_uLs]; unfold fillC; rw [if_pos ⟨by omega, ha⟩]
  · rw [pk_uLn e]; unfold fillC
    by_cases h : i < t ∧ (i % 20 < K ∨ 16 ≤ i % 20)
    · rw [if_pos h, if_pos ⟨by omega, h.2⟩]
    · rw [if_neg h, if_neg (fun q => h ⟨by omega, q.2⟩)]
theorem skip_s (W Dn K S v : Nat) : ∀ i, K + i ≤ 16 → sdq W Dn K S (20 * v + (K + i)) = sdq W Dn K S (20 * v + K)
  | 0, _ => rfl
  | i + 1, h => by
    rw [show 20 * v + (K + (i + 1)) = (20 * v + (K + i)) + 1 by omega, sdq_s, if_neg (by omega)]
    exact skip_s W Dn K S v i (by omega)
theorem skip_f (W Dn K S v : Nat) (f : Nat → Int64) (hK : K ≤ 16) : fillC W Dn K S f (20 * v + 16) = fillC W Dn K S f (20 * v + K) := by
  funext i
  unfold fillC
  by_cases h : i < 20 * v + K ∧ (i % 20 < K ∨ 16 ≤ i % 20)
  · rw [if_pos ⟨by omega, h.2⟩, if_pos h]
  · rw [if_neg h, if_neg]
    intro q
    exact h ⟨by omega, q.2⟩
theorem lay18 {W Dn K S : Nat} (hS : S < 2147483648) (hW : 0 < W) (hW2 : W ≤ 40) (hD1 : 1 ≤ Dn) (hD : Dn ≤ 4) (hK : K ≤ 16) (f : Nat → Int64) (v : Nat) (hv : v < 3) : f_X6_layMarks_L18 (nI K) (nI W) (nI Dn) (nI v) 100 (fillM W Dn K S f (20 * v)) (lN (sdq W Dn K S (20 * v))) 0 = some (fillM W Dn K S f (20 * (v + 1)), lN (sdq W Dn K S (20 * (v + 1)))) := by
  have h := lup (f := fun n s y => f_X6_layMarks_L18 (nI K) (nI W) (nI Dn) (nI v) n s.1 s.2 y) (acc := fun k => (fillM W Dn K S f (20 * v + k), lN (sdq W Dn K S (20 * v + k)))) (K := 20) (out := (fillM W Dn K S f (20 * (v + 1)), lN (sdq W Dn K S (20 * (v + 1)))))
    (fun n => by
      show f_X6_layMarks_L18 _ _ _ _ _ _ _ _ = _
      rw [f_X6_layMarks_L18_s]; exact if_pos (by decide))
    (fun n k hk => by
      show f_X6_layMarks_L18 _ _ _ _ _ _ _ _ = f_X6_layMarks_L18 _ _ _ _ _ _ _ _
      rw [f_X6_layMarks_L18_s, if_neg (show ¬ (20 : Int32) ≤ nI k from nI_ge (b := 20) hk (by decide)), nI_1]
      have em : (20 * v + k) % 20 = k := by omega
      by_cases ha : k < K ∨ 16 ≤ k
      · rw [lay29_act (sdq_lt hS hW hW2 _) hW hW2 hD hK hk ha]
        simp only [Option.bind_some]
        rw [bi_at, if_neg (ix_ok (by omega) (by omega)), cl_nI (by omega)]
        have e1 : (dm W (sdq W Dn K S (20 * v + k)) Dn).2 = mkv W Dn K S (20 * v + k) := by unfold mkv; rw [em, if_pos ha]
        have e2 : (dm W (sdq W Dn K S (20 * v + k)) Dn).1 = sdq W Dn K S (20 * v + (k + 1)) := by
          rw [show 20 * v + (k + 1) = (20 * v + k) + 1 from rfl]; conv => rhs; unfold sdq
          rw [em, if_pos ha]
        rw [e1, e2, fillM_s]
        rfl
      · rw [lay29_no hD1 hD (by omega) (by omega)]
        simp only [Option.bind_some]
        rw [bi_at, if_neg (ix_ok (by omega) (by omega)), cl_nI (by omega)]
        have e1 : (0 : Int64) = lN (mkv W Dn K S (20 * v + k)) := by unfold mkv; rw [em, if_neg ha]; rfl
        have e2 : sdq W Dn K S (20 * v + k) = sdq W Dn K S (20 * v + (k + 1)) := by
          rw [show 20 * v + (k + 1) = (20 * v + k) + 1 from rfl]; conv => rhs; unfold sdq
          rw [em, if_neg ha]
        rw [e1, fillM_s, e2]
        rfl) 100 0 (by omega) (by omega)
  exact h
theorem lay_all {W Dn K S : Nat} (hS : S < 2147483648) (hW : 0 < W) (hW2 : W ≤ 40) (hD1 : 1 ≤ Dn) (hD : Dn ≤ 4) (hK : K ≤ 16) (f : Nat → Int64) : f_X6_layMarks (nI K) (nI W) (nI Dn) (nI S) f = some (fillM W Dn K S f 60, lN (sdq W Dn K S 60)) := by
  unfold f_X6_layMarks
  have h := lup (f := fun n s y => f_X6_layMarks_L11 (nI K) (nI W) (nI Dn) n s.1 s.2 y) (acc := fun v => (fillM W Dn K S f (20 * v), lN (sdq W Dn K S (20 * v)))) (K := 3) (out := (fillM W Dn K S f 60, lN (sdq W Dn K S 60)))
    (fun n => by
      show f_X6_layMarks_L11 _ _ _ _ _ _ _ = _
      rw [f_X6_layMarks_L11_s]; exact if_pos (by decide))
    (fun n v hv => by
      show f_X6_layMarks_L11 _ _ _ _ _ _ _ = f_X6_layMarks_L11 _ _ _ _ _ _ _
      rw [f_X6_layMarks_L11_s, if_neg (show ¬ (3 : Int32) ≤ nI v from nI_ge (b := 3) hv (by decide)), nI_1, lay18 hS hW hW2 hD1 hD hK f v hv]
      rfl) 100 0 (by omega) (by omega)
  have e0 : fillM W Dn K S f 0 = f := by funext i; unfold fillM; rw [if_neg (by omega)]
  have h : f_X6_layMarks_L11 (nI K) (nI W) (nI Dn) 100 (fillM W Dn K S f 0) (lN S) 0 = _ := h
  rw [e0] at h
  rw [nI_l (by omega), h]; rfl
theorem draw18 {W Dn K S : Nat} (hS : S < 2147483648) (hW : 0 < W) (hW2 : W ≤ 40) (hD1 : 1 ≤ Dn) (hD : Dn ≤ 4) (hK : K ≤ 16) (f : Nat → Int64) (v : Nat) (hv : v < 3) : f_X3_drawAll_L18 (nI W) (nI Dn) (nI K) (nI v) 100 (lN (sdq W Dn K S (20 * v))) (fillC W Dn K S f (20 * v)) 0 = some (lN (sdq W Dn K S (20 * v + 16)), fillC W Dn K S f (20 * v + 16)) := by
  have h := lup (f := fun n s y => f_X3_drawAll_L18 (nI W) (nI Dn) (nI K) (nI v) n s.1 s.2 y) (acc := fun k => (lN (sdq W Dn K S (20 * v + k)), fillC W Dn K S f (20 * v + k))) (K := K) (out := (lN (sdq W Dn K S (20 * v + 16)), fillC W Dn K S f (20 * v + 16)))
    (fun n => by
      show f_X3_drawAll_L18 _ _ _ _ _ _ _ _ = _
      rw [f_X3_drawAll_L18_s, if_pos (nI_le (Nat.le_refl K) (by omega)), skip_f W Dn K S v f hK]
      have := skip_s W Dn K S v (16 - K) (by omega)
      rw [show K + (16 - K) = 16 by omega] at this
      rw [this])
    (fun n k hk => by
      show f_X3_drawAll_L18 _ _ _ _ _ _ _ _ = f_X3_drawAll_L18 _ _ _ _ _ _ _ _
      have em : (20 * v + k) % 20 = k := by omega
      rw [f_X3_drawAll_L18_s, if_neg (nI_ge hk (by omega)), if_neg (show ¬ (16 : Int32) ≤ nI k from nI_ge (b := 16) (by omega) (by decide)), nI_1, drawMark_eq (sdq_lt hS hW hW2 _) hW hW2 hD]
      simp only [Option.bind_some]
      rw [bi_at, if_neg (ix_ok (by omega) (by omega)), cl_nI (by omega)]
      have e1 : (dm W (sdq W Dn K S (20 * v + k)) Dn).2 = mkv W Dn K S (20 * v + k) := by unfold mkv; rw [em, if_pos (Or.inl hk)]
      have e2 : (dm W (sdq W Dn K S (20 * v + k)) Dn).1 = sdq W Dn K S (20 * v + (k + 1)) := by
        rw [show 20 * v + (k + 1) = (20 * v + k) + 1 from rfl]; conv => rhs; unfold sdq
        rw [em, if_pos (Or.inl hk)]
      rw [e1, e2, fillC_s W Dn K S f _ (by rw [em]; exact Or.inl hk)]
      rfl) 100 0 (by omega) (by omega)
  exact h
theorem draw52 {W Dn K S : Nat} (hS : S < 2147483648) (hW : 0 < W) (hW2 : W ≤ 40) (hD1 : 1 ≤ Dn) (hD : Dn ≤ 4) (hK : K ≤ 16) (f : Nat → Int64) (v : Nat) (hv : v < 3) : f_X3_drawAll_L52 (nI W) (nI Dn) (nI v) 100 (lN (sdq W Dn K S (20 * v + 16))) (fillC W Dn K S f (20 * v + 16)) 0 = some (lN (sdq W Dn K S (20 * (v + 1))), fillC W Dn K S f (20 * (v + 1))) := by
  have h := lup (f := fun n s y => f_X3_drawAll_L52 (nI W) (nI Dn) (nI v) n s.1 s.2 y) (acc := fun j => (lN (sdq W Dn K S (20 * v + 16 + j)), fillC W Dn K S f (20 * v + 16 + j))) (K := 4) (out := (lN (sdq W Dn K S (20 * (v + 1))), fillC W Dn K S f (20 * (v + 1))))
    (fun n => by
      show f_X3_drawAll_L52 _ _ _ _ _ _ _ = _
      rw [f_X3_drawAll_L52_s]; exact if_pos (by decide))
    (fun n j hj => by
      show f_X3_drawAll_L52 _ _ _ _ _ _ _ = f_X3_drawAll_L52 _ _ _ _ _ _ _
      have em : (20 * v + 16 + j) % 20 = 16 + j := by omega
      have hact : (20 * v + 16 + j) % 20 < K ∨ 16 ≤ (20 * v + 16 + j) % 20 := by omega
      rw [f_X3_drawAll_L52_s, if_neg (show ¬ (4 : Int32) ≤ nI j from nI_ge (b := 4) hj (by decide)), nI_1, drawMark_eq (sdq_lt hS hW hW2 _) hW hW2 hD]
      simp only [Option.bind_some]
      rw [bb_at, show 20 * v + (16 + j) = 20 * v + 16 + j by omega, if_neg (ix_ok (by omega) (by omega)), cl_nI (by omega)]
      have e1 : (dm W (sdq W Dn K S (20 * v + 16 + j)) Dn).2 = mkv W Dn K S (20 * v + 16 + j) := by unfold mkv; rw [if_pos hact]
      have e2 : (dm W (sdq W Dn K S (20 * v + 16 + j)) Dn).1 = sdq W Dn K S (20 * v + 16 + (j + 1)) := by
        rw [show 20 * v + 16 + (j + 1) = (20 * v + 16 + j) + 1 from rfl]; conv => rhs; unfold sdq
        rw [if_pos hact]
      rw [e1, e2, fillC_s W Dn K S f _ hact]
      rfl) 100 0 (by omega) (by omega)
  exact h
theorem draw_all {W Dn K S : Nat} (hS : S < 2147483648) (hW : 0 < W) (hW2 : W ≤ 40) (hD1 : 1 ≤ Dn) (hD : Dn ≤ 4) (hK : K ≤ 16) (f : Nat → Int64) : f_X3_drawAll (nI W) (nI Dn) (nI S) f (nI K) = some (lN (sdq W Dn K S 60), fillC W Dn K S f 60) := by
  unfold f_X3_drawAll
  have h := lup (f := fun n s y => f_X3_drawAll_L11 (nI W) (nI Dn) (nI K) n s.1 s.2 y) (acc := fun v => (lN (sdq W Dn K S (20 * v)), fillC W Dn K S f (20 * v))) (K := 3) (out := (lN (sdq W Dn K S 60), fillC W Dn K S f 60))
    (fun n => by
      show f_X3_drawAll_L11 _ _ _ _ _ _ _ = _
      rw [f_X3_drawAll_L11_s]; exact if_pos (by decide))
    (fun n v hv => by
      show f_X3_drawAll_L11 _ _ _ _ _ _ _ = f_X3_drawAll_L11 _ _ _ _ _ _ _
      rw [f_X3_drawAll_L11_s, if_neg (show ¬ (3 : Int32) ≤ nI v from nI_ge (b := 3) hv (by decide)), nI_1, draw18 hS hW hW2 hD1 hD hK f v hv]
      simp only [Option.bind_some]
      rw [draw52 hS hW hW2 hD1 hD hK f v hv]
      rfl) 100 0 (by omega) (by omega)
  have e0 : fillC W Dn K S f 0 = f := by funext i; unfold fillC; rw [if_neg (by omega)]
  have h : f_X3_drawAll_L11 (nI W) (nI Dn) (nI K) 100 (lN S) (fillC W Dn K S f 0) 0 = _ := h
  rw [e0] at h
  rw [nI_l (by omega), h]; rfl
theorem mk_new {W Dn K S : Nat} (hS : S < 2147483648) (hW : 0 < W) (hW2 : W ≤ 40) (hD1 : 1 ≤ Dn) (hD : Dn ≤ 4) (hK : K ≤ 16) (f g : Nat → Int64) (hW8 : 8 ≤ W) : MkOK K W Dn S (nI W) (nI Dn) (nI S) (fillC W Dn K S f 60) (fillM W Dn K S g 60) := by
  refine ⟨hW8, hW2, hD1, hD, by omega, rfl, rfl, rfl, fun v k hv hk => ?_⟩
  have em : (20 * v + k) % 20 = k := by omega
  have e2 : fillM W Dn K S g 60 (20 * v + k) = lN (mkv W Dn K S (20 * v + k)) := if_pos (by omega)
  have e1 : fillC W Dn K S f 60 (20 * v + k) = lN (mkv W Dn K S (20 * v + k)) := if_pos ⟨by omega, by rw [em]; omega⟩
  exact ⟨e1.trans e2.symm, _, mkv_lt hS hW hW2 _, e2⟩
