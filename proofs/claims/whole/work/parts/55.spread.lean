/-! all three variants of a spreading -/
theorem spo_ok {N K W Dn S : Nat} {fr to : Nat → Nat} {width drawn seed : Int32} {xb mb : Nat → Int64} {bn st en wk : Nat → Int32} (hwf : WfG N K fr to) (hse : ∀ k, k < K → st k = nI (fr k) ∧ en k = nI (to k)) (hM : MkOK K W Dn S width drawn seed xb mb) (hB : BnOK K bn) {f tm : Nat} (hfn : f < N) (htm : tm < 2 ^ K) {x2 z : Int32} (hz : z = 0 ∨ z = 1) (ht : f_X2_treeLinks (nI N) wk (nI f) x2 = some (nI tm)) :
    ∃ (ct a R o M : Nat → Nat) (p l s : Nat → Int32), (∀ v, v < 3 → f_X5_spreadOut (nI N) (nI K) st en wk xb bn (nI f) x2 (nI v) z = some (nI (ct v), p v, nI (a v), l v, s v, nI (R v), nI (o v))) ∧ (∀ v, v < 3 → f_X6_laySpread (nI K) st en bn mb (nI f) (nI tm) (nI v) z = some (lN (M v), p v, nI (a v), l v, s v, nI (R v), nI (o v))) ∧ (∀ v, v < 3 → f_X6_ones (lN (M v)) = some (nI (ct v))) ∧ (∀ v, v < 3 → a v ≤ 96) ∧ ∀ v, v < 3 → ct v ≤ 40 := by
  have H : ∀ v, ∃ q : Nat × Nat × Nat × Nat × Nat × Int32 × Int32 × Int32, v < 3 → f_X5_spreadOut (nI N) (nI K) st en wk xb bn (nI f) x2 (nI v) z = some (nI q.1, q.2.2.2.2.2.1, nI q.2.1, q.2.2.2.2.2.2.1, q.2.2.2.2.2.2.2, nI q.2.2.1, nI q.2.2.2.1) ∧ f_X6_laySpread (nI K) st en bn mb (nI f) (nI tm) (nI v) z = some (lN q.2.2.2.2.1, q.2.2.2.2.2.1, nI q.2.1, q.2.2.2.2.2.2.1, q.2.2.2.2.2.2.2, nI q.2.2.1, nI q.2.2.2.1) ∧ f_X6_ones (lN q.2.2.2.2.1) = some (nI q.1) ∧ q.2.1 ≤ 96 ∧ q.1 ≤ 40 := by
    intro v
    by_cases hv : v < 3
    · obtain ⟨M, p, l, sp, a, R, oth, mm, hMl, ha, k1, k2, k3, k4⟩ := spr_ok hwf hse hM hB hfn htm hv hz
      refine ⟨(fb_ct M.testBit 40, a, R, oth, M, p, l, sp), fun _ => ⟨?_, k4, ones_eq hMl, ha, fb_ct_le _ 40⟩⟩
      unfold f_X5_spreadOut
      rw [ht]
      simp only [Option.bind_some]
      rw [k1]
      simp only [Option.bind_some]
      rw [k2]
      simp only [Option.bind_some]
      rw [k3]
      simp only [Option.bind_some]
      rw [long_bits hMl]
    · exact ⟨(0, 0, 0, 0, 0, 0, 0, 0), fun h => absurd h hv⟩
  obtain ⟨F, hF⟩ := Classical.axiomOfChoice H
  exact ⟨fun v => (F v).1, fun v => (F v).2.1, fun v => (F v).2.2.1, fun v => (F v).2.2.2.1, fun v => (F v).2.2.2.2.1, fun v => (F v).2.2.2.2.2.1, fun v => (F v).2.2.2.2.2.2.1, fun v => (F v).2.2.2.2.2.2.2, fun v hv => (hF v hv).1, fun v hv => (hF v hv).2.1, fun v hv => (hF v hv).2.2.1, fun v hv => (hF v hv).2.2.2.1, fun v hv => (hF v hv).2.2.2.2⟩
