/-! the page is whole or not; the digest of both, loop by loop -/
theorem whole_yes {c : Nat → Int32} {n : Nat} (hn : n ≤ 25) (hf : ∀ j, j < n → Fit c j) (h4 : 4 ≤ n) (h3 : n % 3 = 1) : f_X4_isWhole c (nI n) = some 1 := by
  unfold f_X4_isWhole
  rw [if_neg (show ¬ nI n ≤ 3 from nI_ge (a := 3) (b := n) (by omega) (by omega)), rem3 (by omega), h3, if_pos (show nI 1 = 1 from rfl), first_eq hn (Nat.le_refl n) hf (fun q => absurd q (Nat.lt_irrefl n))]
  exact if_pos rfl
theorem whole_no {c : Nat → Int32} {n e : Nat} (hn : n ≤ 25) (he : e ≤ n) (hf : ∀ j, j < e → Fit c j) (hw : e < n → ¬ Fit c e) (h : ¬ (e = n ∧ 4 ≤ n ∧ n % 3 = 1)) : f_X4_isWhole c (nI n) = some 0 := by
  unfold f_X4_isWhole
  by_cases h4 : n ≤ 3
  · rw [if_pos (show nI n ≤ 3 from nI_le (b := 3) h4 (by omega))]
  · rw [if_neg (show ¬ nI n ≤ 3 from nI_ge (a := 3) (b := n) (by omega) (by omega)), rem3 (by omega)]
    by_cases h3 : n % 3 = 1
    · rw [h3, if_pos (show nI 1 = 1 from rfl), first_eq hn he hf hw]
      have hne : ¬ nI e = nI n := fun q => h ⟨(nI_eq (by omega) (by omega)).mp q, by omega, h3⟩
      simp only [Option.bind_some]
      rw [if_neg hne]
    · rw [if_neg (show ¬ nI (n % 3) = 1 from fun q => h3 ((nI_eq (a := n % 3) (b := 1) (by omega) (by omega)).mp q))]
theorem lup2 {σ τ ρ π : Type} {f : Nat → σ → Int32 → Option ρ} {g : Nat → τ → Int32 → Option π} {I : Nat → σ → τ → Prop} {K : Nat} {P : ρ → π → Prop} (hx : ∀ n s t, I K s t → ∃ o p, f (n + 1) s (nI K) = some o ∧ g (n + 1) t (nI K) = some p ∧ P o p) (hs : ∀ n k s t, k < K → I k s t → ∃ s' t', I (k + 1) s' t' ∧ f (n + 1) s (nI k) = f n s' (nI (k + 1)) ∧ g (n + 1) t (nI k) = g n t' (nI (k + 1))) : ∀ n k s t, k ≤ K → K - k < n → I k s t → ∃ o p, f n s (nI k) = some o ∧ g n t (nI k) = some p ∧ P o p := by
  intro n
  induction n with
  | zero => intro k s t _ h; omega
  | succ n ih =>
    intro k s t hk hn hI
    by_cases e : k = K
    · subst e; exact hx n s t hI
    · obtain ⟨s', t', h1, h2, h3⟩ := hs n k s t (by omega) hI
      rw [h2, h3]
      exact ih (k + 1) s' t' (by omega) (by omega) h1
/-- two loops that carry the same number -/
theorem lupE {f g : Nat → Int64 → Int32 → Option Int64} {K : Nat} (hx : ∀ n h, f (n + 1) h (nI K) = some h ∧ g (n + 1) h (nI K) = some h) (hs : ∀ n k h, k < K → ∃ h', f (n + 1) h (nI k) = f n h' (nI (k + 1)) ∧ g (n + 1) h (nI k) = g n h' (nI (k + 1))) (n : Nat) (hn : K < n) (h : Int64) : ∃ z, f n h 0 = some z ∧ g n h 0 = some z := by
  obtain ⟨o, p, h1, h2, h3⟩ := lup2 (f := f) (g := g) (I := fun _ s t => s = t) (K := K) (P := fun o p => o = p)
    (fun n s t e => by subst e; exact ⟨s, s, (hx n s).1, (hx n s).2, rfl⟩)
    (fun n k s t hk e => by
      subst e
      obtain ⟨h', q1, q2⟩ := hs n k s hk
      exact ⟨h', h', rfl, q1, q2⟩) n 0 h h (by omega) (by omega) rfl
  subst h3
  rw [nI_0] at h1 h2
  exact ⟨o, h1, h2⟩
theorem dg_65 {K : Nat} {xb mb : Nat → Int64} (hK : K ≤ 16) (hmk : ∀ v k, v < 3 → (k < K ∨ 16 ≤ k ∧ k < 20) → xb (20 * v + k) = mb (20 * v + k) ∧ ∃ m, m < 2 ^ 40 ∧ mb (20 * v + k) = lN m) {k : Nat} (hk : k < K) (h : Int64) : ∃ z, f_X5_withLinks_L65 xb (nI k) 100 h 0 = some z ∧ f_X6_digest_L43 mb (nI k) 100 h 0 = some z := by
  refine lupE (f := fun n s y => f_X5_withLinks_L65 xb (nI k) n s y) (g := fun n s y => f_X6_digest_L43 mb (nI k) n s y) (K := 3) (fun n h => ⟨?_, ?_⟩) (fun n v h hv => ⟨(31 : Int64) * h + mb (20 * v + k), ?_, ?_⟩) 100 (by omega) h
  · show f_X5_withLinks_L65 _ _ _ _ _ = _
    rw [f_X5_withLinks_L65_s, if_pos (by decide)]
  · show f_X6_digest_L43 _ _ _ _ _ = _
    rw [f_X6_digest_L43_s, if_pos (by decide)]
  · show f_X5_withLinks_L65 _ _ _ _ _ = f_X5_withLinks_L65 _ _ _ _ _
    rw [f_X5_withLinks_L65_s, if_neg (show ¬ (3 : Int32) ≤ nI v from nI_ge (b := 3) hv (by decide)), of_link hv (by omega), nI_1, (hmk v k hv (Or.inl hk)).1]
    rfl
  · show f_X6_digest_L43 _ _ _ _ _ = f_X6_digest_L43 _ _ _ _ _
    rw [f_X6_digest_L43_s, if_neg (show ¬ (3 : Int32) ≤ nI v from nI_ge (b := 3) hv (by decide)), bi_at, if_neg (ix_ok (by omega) (by omega)), cl_nI (by omega), nI_1]
    rfl
theorem dg_19 {st en bn : Nat → Int32} {k : Nat} (hk : k < 16) (h : Int64) : f_X6_digest_L19 st en bn (nI k) 100 h 0 = some (f_X6_mix (f_X6_mix (f_X6_mix h (st k).toInt64) (en k).toInt64) (pw4 bn (nI k) 4).toInt64) := by
  have hh := lup (f := fun n s x => f_X6_digest_L19 st en bn (nI k) n s x) (acc := fun j => match j with | 0 => h | 1 => f_X6_mix h (st k).toInt64 | 2 => f_X6_mix (f_X6_mix h (st k).toInt64) (en k).toInt64 | _ => f_X6_mix (f_X6_mix (f_X6_mix h (st k).toInt64) (en k).toInt64) (pw4 bn (nI k) 4).toInt64) (K := 3) (out := f_X6_mix (f_X6_mix (f_X6_mix h (st k).toInt64) (en k).toInt64) (pw4 bn (nI k) 4).toInt64)
    (fun n => by
      show f_X6_digest_L19 _ _ _ _ _ _ _ = _
      rw [f_X6_digest_L19_s]; exact if_pos (by decide))
    (fun n j hj => by
      show f_X6_digest_L19 _ _ _ _ _ _ _ = f_X6_digest_L19 _ _ _ _ _ _ _
      rw [f_X6_digest_L19_s, if_neg (show ¬ (3 : Int32) ≤ nI j from nI_ge (b := 3) hj (by decide)), link_now hk j hj, nI_1]
      rcases (show j = 0 ∨ j = 1 ∨ j = 2 by omega) with rfl | rfl | rfl <;> rfl) 100 0 (by omega) (by omega)
  have hh : f_X6_digest_L19 st en bn (nI k) 100 h (nI 0) = _ := hh
  rw [nI_0] at hh
  exact hh
theorem dg_links {K : Nat} {xb mb : Nat → Int64} {st en bn : Nat → Int32} (hK : K ≤ 16) (hmk : ∀ v k, v < 3 → (k < K ∨ 16 ≤ k ∧ k < 20) → xb (20 * v + k) = mb (20 * v + k) ∧ ∃ m, m < 2 ^ 40 ∧ mb (20 * v + k) = lN m) (h : Int64) : ∃ z, f_X5_withLinks (nI K) st en xb bn h = some z ∧ f_X6_digest_L9 (nI K) st en bn mb 100 h 0 = some z := by
  have key : ∃ z, f_X5_withLinks_L5 (nI K) st en xb bn 100 h 0 = some z ∧ f_X6_digest_L9 (nI K) st en bn mb 100 h 0 = some z := by
    refine lupE (f := fun n s y => f_X5_withLinks_L5 (nI K) st en xb bn n s y) (g := fun n s y => f_X6_digest_L9 (nI K) st en bn mb n s y) (K := K) (fun n h => ⟨?_, ?_⟩) (fun n k h hk => ?_) 100 (by omega) h
    · show f_X5_withLinks_L5 _ _ _ _ _ _ _ _ = _
      rw [f_X5_withLinks_L5_s]
      exact if_pos (nI_le (Nat.le_refl K) (by omega))
    · show f_X6_digest_L9 _ _ _ _ _ _ _ _ = _
      rw [f_X6_digest_L9_s, if_pos (nI_le (Nat.le_refl K) (by omega))]
    · show ∃ h', f_X5_withLinks_L5 _ _ _ _ _ _ _ _ = f_X5_withLinks_L5 _ _ _ _ _ _ _ _ ∧ f_X6_digest_L9 _ _ _ _ _ _ _ _ = f_X6_digest_L9 _ _ _ _ _ _ _ _
      obtain ⟨z, z1, z2⟩ := dg_65 hK hmk hk (f_X6_mix (f_X6_mix (f_X6_mix h (st k).toInt64) (en k).toInt64) (pw4 bn (nI k) 4).toInt64)
      refine ⟨z, ?_, ?_⟩
      · rw [f_X5_withLinks_L5_s, if_neg (show ¬ f_X2_linkCount (nI K) ≤ nI k from nI_ge hk (by omega)), start_of (by omega), end_of (by omega), places_eq, nI_1]
        simp only [Option.bind_some]
        have z1 : f_X5_withLinks_L65 xb (nI k) 100 (f_X5_with (f_X5_with (f_X5_with h (st k).toInt64) (en k).toInt64) (pw4 bn (nI k) 4).toInt64) 0 = some z := z1
        rw [z1]; rfl
      · rw [f_X6_digest_L9_s, if_neg (nI_ge hk (by omega)), dg_19 (by omega), nI_1]
        simp only [Option.bind_some]
        rw [z2]; rfl
  obtain ⟨z, z1, z2⟩ := key
  refine ⟨z, ?_, z2⟩
  unfold f_X5_withLinks
  rw [z1]; rfl
theorem dg_34 {K : Nat} {xb mb : Nat → Int64} (hmk : ∀ v k, v < 3 → (k < K ∨ 16 ≤ k ∧ k < 20) → xb (20 * v + k) = mb (20 * v + k) ∧ ∃ m, m < 2 ^ 40 ∧ mb (20 * v + k) = lN m) {p : Nat} (hp : p < 4) (h : Int64) : ∃ z, f_X5_withBundles_L34 xb (nI p) 100 h 0 = some z ∧ f_X6_digest_L99 mb (nI p) 100 h 0 = some z := by
  refine lupE (f := fun n s y => f_X5_withBundles_L34 xb (nI p) n s y) (g := fun n s y => f_X6_digest_L99 mb (nI p) n s y) (K := 3) (fun n h => ⟨?_, ?_⟩) (fun n v h hv => ⟨(31 : Int64) * h + mb (20 * v + (16 + p)), ?_, ?_⟩) 100 (by omega) h
  · show f_X5_withBundles_L34 _ _ _ _ _ = _
    rw [f_X5_withBundles_L34_s, if_pos (by decide)]
  · show f_X6_digest_L99 _ _ _ _ _ = _
    rw [f_X6_digest_L99_s, if_pos (by decide)]
  · show f_X5_withBundles_L34 _ _ _ _ _ = f_X5_withBundles_L34 _ _ _ _ _
    rw [f_X5_withBundles_L34_s, if_neg (show ¬ (3 : Int32) ≤ nI v from nI_ge (b := 3) hv (by decide)), of_bund hv hp, nI_1, (hmk v (16 + p) hv (Or.inr ⟨by omega, by omega⟩)).1]
    rfl
  · show f_X6_digest_L99 _ _ _ _ _ = f_X6_digest_L99 _ _ _ _ _
    rw [f_X6_digest_L99_s, if_neg (show ¬ (3 : Int32) ≤ nI v from nI_ge (b := 3) hv (by decide)), bb_at, if_neg (ix_ok (by omega) (by omega)), cl_nI (by omega), nI_1]
    rfl
theorem dg_bund {K : Nat} {xb mb : Nat → Int64} {bn : Nat → Int32} (hmk : ∀ v k, v < 3 → (k < K ∨ 16 ≤ k ∧ k < 20) → xb (20 * v + k) = mb (20 * v + k) ∧ ∃ m, m < 2 ^ 40 ∧ mb (20 * v + k) = lN m) (h : Int64) : ∃ z, f_X5_withBundles xb bn h = some z ∧ f_X6_digest_L77 bn mb 100 h 0 = some z := by
  have key : ∃ z, f_X5_withBundles_L5 xb bn 100 h 0 = some z ∧ f_X6_digest_L77 bn mb 100 h 0 = some z := by
    refine lupE (f := fun n s y => f_X5_withBundles_L5 xb bn n s y) (g := fun n s y => f_X6_digest_L77 bn mb n s y) (K := 4) (fun n h => ⟨?_, ?_⟩) (fun n p h hp => ?_) 100 (by omega) h
    · show f_X5_withBundles_L5 _ _ _ _ _ = _
      rw [f_X5_withBundles_L5_s, if_pos (by decide)]
    · show f_X6_digest_L77 _ _ _ _ _ = _
      rw [f_X6_digest_L77_s, if_pos (by decide)]
    · show ∃ h', f_X5_withBundles_L5 _ _ _ _ _ = f_X5_withBundles_L5 _ _ _ _ _ ∧ f_X6_digest_L77 _ _ _ _ _ = f_X6_digest_L77 _ _ _ _ _
      obtain ⟨z, z1, z2⟩ := dg_34 hmk hp (f_X6_mix h (nI p).toInt64)
      have z1 : f_X5_withBundles_L34 xb (nI p) 100 (f_X5_with h (nI p).toInt64) 0 = some z := z1
      rw [f_X5_withBundles_L5_s, if_neg (show ¬ (4 : Int32) ≤ nI p from nI_ge (b := 4) hp (by decide)), is_there hp, f_X6_digest_L77_s, if_neg (show ¬ (4 : Int32) ≤ nI p from nI_ge (b := 4) hp (by decide)), if_neg (ix_ok hp (by decide)), cl_nI (by omega), nI_1, z1, z2]
      by_cases h0 : bn p = 0
      · refine ⟨h, ?_, ?_⟩
        · rw [if_pos h0]; rfl
        · rw [if_pos h0]; rfl
      · refine ⟨z, ?_, ?_⟩
        · rw [if_neg h0]; rfl
        · rw [if_neg h0]; rfl
  obtain ⟨z, z1, z2⟩ := key
  refine ⟨z, ?_, z2⟩
  unfold f_X5_withBundles
  rw [z1]; rfl
theorem dg_66 {W Dn c : Nat} {bits : Int64} (hW : 8 ≤ W) (hW2 : W ≤ 40) (hD1 : 1 ≤ Dn) (hD : Dn ≤ 4) (hc : c ≤ 40) (ho : f_X6_ones bits = some (nI c)) (p a l s r o : Int32) (h : Int64) : ∃ z, f_X5_withNodes_L66 (nI W) (nI Dn) (nI c) p a l s r o 100 h 0 = some z ∧ f_X6_mixNode_L38 (nI W) (nI Dn) bits p a l s r o 100 h 0 = some z := by
  refine lupE (f := fun n x y => f_X5_withNodes_L66 (nI W) (nI Dn) (nI c) p a l s r o n x y) (g := fun n x y => f_X6_mixNode_L38 (nI W) (nI Dn) bits p a l s r o n x y) (K := 9) (fun n h => ⟨?_, ?_⟩) (fun n w h hw => ?_) 100 (by omega) h
  · show f_X5_withNodes_L66 _ _ _ _ _ _ _ _ _ _ _ _ = _
    rw [f_X5_withNodes_L66_s, if_pos (by decide)]
  · show f_X6_mixNode_L38 _ _ _ _ _ _ _ _ _ _ _ _ = _
    rw [f_X6_mixNode_L38_s, if_pos (by decide)]
  · show ∃ h', f_X5_withNodes_L66 _ _ _ _ _ _ _ _ _ _ _ _ = f_X5_withNodes_L66 _ _ _ _ _ _ _ _ _ _ _ _ ∧ f_X6_mixNode_L38 _ _ _ _ _ _ _ _ _ _ _ _ = f_X6_mixNode_L38 _ _ _ _ _ _ _ _ _ _ _ _
    obtain ⟨z, z1, z2⟩ := fact_eq hW hW2 hD1 hD hc ho p a l s r o w hw
    refine ⟨f_X6_mix h z.toInt64, ?_, ?_⟩
    · rw [f_X5_withNodes_L66_s, if_neg (show ¬ (9 : Int32) ≤ nI w from nI_ge (b := 9) hw (by decide)), z1, nI_1]; rfl
    · rw [f_X6_mixNode_L38_s, if_neg (show ¬ (9 : Int32) ≤ nI w from nI_ge (b := 9) hw (by decide)), z2, nI_1]; rfl
theorem dg_46 {N K W Dn f : Nat} {st en wk bn : Nat → Int32} {xb mb : Nat → Int64} {x2 T : Int32} {ct a R o M : Nat → Nat} {p l s : Nat → Int32} (hW : 8 ≤ W) (hW2 : W ≤ 40) (hD1 : 1 ≤ Dn) (hD : Dn ≤ 4) (hC : ∀ v, v < 3 → f_X5_spreadOut (nI N) (nI K) st en wk xb bn (nI f) x2 (nI v) 0 = some (nI (ct v), p v, nI (a v), l v, s v, nI (R v), nI (o v))) (hM : ∀ v, v < 3 → f_X6_laySpread (nI K) st en bn mb (nI f) T (nI v) 0 = some (lN (M v), p v, nI (a v), l v, s v, nI (R v), nI (o v))) (ho : ∀ v, v < 3 → f_X6_ones (lN (M v)) = some (nI (ct v))) (hct : ∀ v, v < 3 → ct v ≤ 40) (s0 : Int32 × Int32 × Int32 × Int32 × Int32 × Int32 × Int32 × Int64) (t0 : Int64 × Int32 × Int32 × Int32 × Int32 × Int32 × Int32 × Int64) (e : s0.2.2.2.2.2.2.2 = t0.2.2.2.2.2.2.2) : ∃ (o : Int32 × Int32 × Int32 × Int32 × Int32 × Int32 × Int32 × Int64) (p : Int64 × Int32 × Int32 × Int32 × Int32 × Int32 × Int32 × Int64), f_X5_withNodes_L46 (nI N) (nI K) st en wk (nI W) (nI Dn) xb bn x2 (nI f) 100 s0.1 s0.2.1 s0.2.2.1 s0.2.2.2.1 s0.2.2.2.2.1 s0.2.2.2.2.2.1 s0.2.2.2.2.2.2.1 s0.2.2.2.2.2.2.2 0 = some o ∧ f_X6_mixNode_L22 (nI K) st en (nI W) (nI Dn) bn mb (nI f) T 100 t0.1 t0.2.1 t0.2.2.1 t0.2.2.2.1 t0.2.2.2.2.1 t0.2.2.2.2.2.1 t0.2.2.2.2.2.2.1 t0.2.2.2.2.2.2.2 0 = some p ∧ o.2.2.2.2.2.2.2 = p.2.2.2.2.2.2.2 := by
  have h := lup2 (f := fun n (s : Int32 × Int32 × Int32 × Int32 × Int32 × Int32 × Int32 × Int64) y => f_X5_withNodes_L46 (nI N) (nI K) st en wk (nI W) (nI Dn) xb bn x2 (nI f) n s.1 s.2.1 s.2.2.1 s.2.2.2.1 s.2.2.2.2.1 s.2.2.2.2.2.1 s.2.2.2.2.2.2.1 s.2.2.2.2.2.2.2 y) (g := fun n (t : Int64 × Int32 × Int32 × Int32 × Int32 × Int32 × Int32 × Int64) y => f_X6_mixNode_L22 (nI K) st en (nI W) (nI Dn) bn mb (nI f) T n t.1 t.2.1 t.2.2.1 t.2.2.2.1 t.2.2.2.2.1 t.2.2.2.2.2.1 t.2.2.2.2.2.2.1 t.2.2.2.2.2.2.2 y) (I := fun _ s t => s.2.2.2.2.2.2.2 = t.2.2.2.2.2.2.2) (K := 3) (P := fun o p => o.2.2.2.2.2.2.2 = p.2.2.2.2.2.2.2)
    (fun n s t e => by
      refine ⟨s, t, ?_, ?_, e⟩
      · show f_X5_withNodes_L46 _ _ _ _ _ _ _ _ _ _ _ _ _ _ _ _ _ _ _ _ _ = _
        rw [f_X5_withNodes_L46_s, if_pos (by decide)]
      · show f_X6_mixNode_L22 _ _ _ _ _ _ _ _ _ _ _ _ _ _ _ _ _ _ _ = _
        rw [f_X6_mixNode_L22_s, if_pos (by decide)])
    (fun n v q t hv e => by
      obtain ⟨z, z1, z2⟩ := dg_66 hW hW2 hD1 hD (hct v hv) (ho v hv) (p v) (nI (a v)) (l v) (s v) (nI (R v)) (nI (o v)) (q.2.2.2.2.2.2.2)
      refine ⟨(nI (ct v), p v, nI (a v), l v, s v, nI (R v), nI (o v), z), (lN (M v), p v, nI (a v), l v, s v, nI (R v), nI (o v), z), rfl, ?_, ?_⟩
      · show f_X5_withNodes_L46 _ _ _ _ _ _ _ _ _ _ _ _ _ _ _ _ _ _ _ _ _ = f_X5_withNodes_L46 _ _ _ _ _ _ _ _ _ _ _ _ _ _ _ _ _ _ _ _ _
        rw [f_X5_withNodes_L46_s, if_neg (show ¬ (3 : Int32) ≤ nI v from nI_ge (b := 3) hv (by decide)), hC v hv, nI_1]
        simp only [Option.bind_some]
        rw [z1]; rfl
      · show f_X6_mixNode_L22 _ _ _ _ _ _ _ _ _ _ _ _ _ _ _ _ _ _ _ = f_X6_mixNode_L22 _ _ _ _ _ _ _ _ _ _ _ _ _ _ _ _ _ _ _
        rw [f_X6_mixNode_L22_s, if_neg (show ¬ (3 : Int32) ≤ nI v from nI_ge (b := 3) hv (by decide)), hM v hv, nI_1]
        simp only [Option.bind_some]
        rw [← e, z2]; rfl) 100 0 s0 t0 (by omega) (by omega) e
  exact h
theorem dg_nodes {N K W Dn S : Nat} {fr to : Nat → Nat} {st en wl wn wk bn : Nat → Int32} {xb mb : Nat → Int64} (hwf : WfG N K fr to) (hse : ∀ k, k < K → st k = nI (fr k) ∧ en k = nI (to k)) (hways : WaysOK N K fr to wl wn wk) (hM : MkOK K W Dn S (nI W) (nI Dn) (nI S) xb mb) (hB : BnOK K bn) (s0 : Int32 × Int32 × Int32 × Int32 × Int32 × Int32 × Int32 × Int64) (t0 : (Nat → Int32) × Int32 × (Nat → Int32) × Int64 × Int32 × Int32 × Int32 × Int32 × Int32 × Int32 × Int64) (e : s0.2.2.2.2.2.2.2 = t0.2.2.2.2.2.2.2.2.2.2) : ∃ (o : Int32 × Int32 × Int32 × Int32 × Int32 × Int32 × Int32 × Int64) (p : (Nat → Int32) × Int32 × (Nat → Int32) × Int64 × Int32 × Int32 × Int32 × Int32 × Int32 × Int32 × Int64), f_X5_withNodes_L14 (nI N) (nI K) st en wk (nI W) (nI Dn) xb bn (f_X2_allNodes (nI N)) 100 s0.1 s0.2.1 s0.2.2.1 s0.2.2.2.1 s0.2.2.2.2.1 s0.2.2.2.2.2.1 s0.2.2.2.2.2.2.1 s0.2.2.2.2.2.2.2 0 = some o ∧ f_X6_digest_L136 (nI N) (nI K) st en (nI W) (nI Dn) bn mb 100 t0.1 t0.2.1 t0.2.2.1 t0.2.2.2.1 t0.2.2.2.2.1 t0.2.2.2.2.2.1 t0.2.2.2.2.2.2.1 t0.2.2.2.2.2.2.2.1 t0.2.2.2.2.2.2.2.2.1 t0.2.2.2.2.2.2.2.2.2.1 t0.2.2.2.2.2.2.2.2.2.2 0 = some p ∧ o.2.2.2.2.2.2.2 = p.2.2.2.2.2.2.2.2.2.2 := by
  have hN6 := hwf.1
  obtain ⟨hw1, hw2, hd1, hd2, -, -, -, -, -⟩ := id hM
  have h := lup2 (f := fun n (s : Int32 × Int32 × Int32 × Int32 × Int32 × Int32 × Int32 × Int64) y => f_X5_withNodes_L14 (nI N) (nI K) st en wk (nI W) (nI Dn) xb bn (f_X2_allNodes (nI N)) n s.1 s.2.1 s.2.2.1 s.2.2.2.1 s.2.2.2.2.1 s.2.2.2.2.2.1 s.2.2.2.2.2.2.1 s.2.2.2.2.2.2.2 y) (g := fun n (t : (Nat → Int32) × Int32 × (Nat → Int32) × Int64 × Int32 × Int32 × Int32 × Int32 × Int32 × Int32 × Int64) y => f_X6_digest_L136 (nI N) (nI K) st en (nI W) (nI Dn) bn mb n t.1 t.2.1 t.2.2.1 t.2.2.2.1 t.2.2.2.2.1 t.2.2.2.2.2.1 t.2.2.2.2.2.2.1 t.2.2.2.2.2.2.2.1 t.2.2.2.2.2.2.2.2.1 t.2.2.2.2.2.2.2.2.2.1 t.2.2.2.2.2.2.2.2.2.2 y) (I := fun _ s t => s.2.2.2.2.2.2.2 = t.2.2.2.2.2.2.2.2.2.2) (K := N) (P := fun o p => o.2.2.2.2.2.2.2 = p.2.2.2.2.2.2.2.2.2.2)
    (fun n s t e => by
      refine ⟨s, t, ?_, ?_, e⟩
      · show f_X5_withNodes_L14 _ _ _ _ _ _ _ _ _ _ _ _ _ _ _ _ _ _ _ _ = _
        rw [f_X5_withNodes_L14_s]
        exact if_pos (nI_le (Nat.le_refl N) (by omega))
      · show f_X6_digest_L136 _ _ _ _ _ _ _ _ _ _ _ _ _ _ _ _ _ _ _ _ _ = _
        rw [f_X6_digest_L136_s, if_pos (nI_le (Nat.le_refl N) (by omega))])
    (fun n f q t hf e => by
      obtain ⟨tm, htm, h1, lf', wm', wa', h2⟩ := tree_ok hwf hse hways hf (f_X2_allNodes (nI N)) (t.1) (t.2.2.1) (t.2.1)
      obtain ⟨ct, a, R, o, M, p, l, s, q1, q2, q3, q4, q5⟩ := spo_ok hwf hse hM hB hf htm (Or.inl rfl) h1
      obtain ⟨ct', a', R', o', M', p', l', s', q1', q2', q3', q4', q5'⟩ := spo_ok hwf hse hM hB hf htm (Or.inr rfl) h1
      obtain ⟨⟨g1, g2, g3, g4, g5, g6, g7, g8⟩, ⟨k1, k2, k3, k4, k5, k6, k7, k8⟩, r1, r2, r3⟩ := dg_46 hw1 hw2 hd1 hd2 q1 q2 q3 q5 (q.1, q.2.1, q.2.2.1, q.2.2.2.1, q.2.2.2.2.1, q.2.2.2.2.2.1, q.2.2.2.2.2.2.1, f_X6_mix (q.2.2.2.2.2.2.2) (nI tm).toInt64) (t.2.2.2.1, t.2.2.2.2.1, t.2.2.2.2.2.1, t.2.2.2.2.2.2.1, t.2.2.2.2.2.2.2.1, t.2.2.2.2.2.2.2.2.1, t.2.2.2.2.2.2.2.2.2.1, f_X6_mix (t.2.2.2.2.2.2.2.2.2.2) (nI tm).toInt64) (by show f_X6_mix (q.2.2.2.2.2.2.2) (nI tm).toInt64 = f_X6_mix (t.2.2.2.2.2.2.2.2.2.2) (nI tm).toInt64; rw [e])
      have r3 : g8 = k8 := r3
      subst r3
      obtain ⟨b, hb, ⟨t1, t2, t3, t4, t5, t6, t7, hx⟩, u1, u2, u3, u4, u5, u6, u7, hm⟩ := best_ok q1 q2 q3 q4 q5 g1 g2 g3 g4 g5 g6 g7 k1 k2 k3 k4 k5 k6 k7
      obtain ⟨b', hb', ⟨t1', t2', t3', t4', t5', t6', t7', hx'⟩, u1', u2', u3', u4', u5', u6', u7', hm'⟩ := best_ok q1' q2' q3' q4' q5' t1 t2 t3 t4 t5 t6 t7 u1 u2 u3 u4 u5 u6 u7
      have r1 : f_X5_withNodes_L46 (nI N) (nI K) st en wk (nI W) (nI Dn) xb bn (f_X2_allNodes (nI N)) (nI f) 100 q.1 q.2.1 q.2.2.1 q.2.2.2.1 q.2.2.2.2.1 q.2.2.2.2.2.1 q.2.2.2.2.2.2.1 (f_X5_with (q.2.2.2.2.2.2.2) (nI tm).toInt64) 0 = some (g1, g2, g3, g4, g5, g6, g7, g8) := r1
      have r2 : f_X6_mixNode_L22 (nI K) st en (nI W) (nI Dn) bn mb (nI f) (nI tm) 100 t.2.2.2.1 t.2.2.2.2.1 t.2.2.2.2.2.1 t.2.2.2.2.2.2.1 t.2.2.2.2.2.2.2.1 t.2.2.2.2.2.2.2.2.1 t.2.2.2.2.2.2.2.2.2.1 (f_X6_mix (t.2.2.2.2.2.2.2.2.2.2) (nI tm).toInt64) 0 = some (k1, k2, k3, k4, k5, k6, k7, g8) := r2
      refine ⟨(t1', t2', t3', t4', t5', t6', t7', f_X6_mix (f_X6_mix g8 (nI b).toInt64) (nI b').toInt64), (lf', wm', wa', u1', u2', u3', u4', u5', u6', u7', f_X6_mix (f_X6_mix g8 (nI b).toInt64) (nI b').toInt64), rfl, ?_, ?_⟩
      · show f_X5_withNodes_L14 _ _ _ _ _ _ _ _ _ _ _ _ _ _ _ _ _ _ _ _ = f_X5_withNodes_L14 _ _ _ _ _ _ _ _ _ _ _ _ _ _ _ _ _ _ _ _
        rw [f_X5_withNodes_L14_s, if_neg (show ¬ f_X2_nodeCount (nI N) ≤ nI f from nI_ge hf (by omega)), h1, nI_1]
        simp only [Option.bind_some]
        rw [r1]
        simp only [Option.bind_some]
        rw [hx]
        simp only [Option.bind_some]
        rw [hx']
        rfl
      · show f_X6_digest_L136 _ _ _ _ _ _ _ _ _ _ _ _ _ _ _ _ _ _ _ _ _ = f_X6_digest_L136 _ _ _ _ _ _ _ _ _ _ _ _ _ _ _ _ _ _ _ _ _
        have h2 : f_X6_treeOf (nI N) (nI K) st en (t.1) (t.2.1) (t.2.2.1) (nI f) ((1 : Int32) <<< (nI N &&& 31) - 1) = some (nI tm, lf', wm', wa') := h2
        rw [f_X6_digest_L136_s, if_neg (nI_ge hf (by omega)), nI_1]
        unfold f_X6_mixNode
        rw [h2]
        simp only [Option.bind_some]
        rw [r2]
        simp only [Option.bind_some]
        rw [hm]
        simp only [Option.bind_some]
        rw [hm']
        rfl) 100 0 s0 t0 (by omega) (by omega) e
  exact h
theorem dg_page {c : Nat → Int32} {n : Nat} (hn : n ≤ 25) (h : Int64) : ∃ z, f_X5_withPage c (nI n) h = some z ∧ f_X6_digest_L157 (nI n) c 100 h 0 = some z := by
  have key : ∃ z, f_X5_withPage_L5 c (nI n) 100 h 0 = some z ∧ f_X6_digest_L157 (nI n) c 100 h 0 = some z := by
    refine lupE (f := fun m s y => f_X5_withPage_L5 c (nI n) m s y) (g := fun m s y => f_X6_digest_L157 (nI n) c m s y) (K := n) (fun m h => ⟨?_, ?_⟩) (fun m i h hi => ⟨(31 : Int64) * h + (c i).toInt64, ?_, ?_⟩) 100 (by omega) h
    · show f_X5_withPage_L5 _ _ _ _ _ = _
      rw [f_X5_withPage_L5_s]
      exact if_pos (nI_le (Nat.le_refl n) (by omega))
    · show f_X6_digest_L157 _ _ _ _ _ = _
      rw [f_X6_digest_L157_s, if_pos (nI_le (Nat.le_refl n) (by omega))]
    · show f_X5_withPage_L5 _ _ _ _ _ = f_X5_withPage_L5 _ _ _ _ _
      rw [f_X5_withPage_L5_s, if_neg (show ¬ f_X4_size (nI n) ≤ nI i from nI_ge hi (by omega)), code_at hn hi, nI_1]
      rfl
    · show f_X6_digest_L157 _ _ _ _ _ = f_X6_digest_L157 _ _ _ _ _
      rw [f_X6_digest_L157_s, if_neg (nI_ge hi (by omega)), if_neg (ix_ok (n := 25) (by omega) (by decide)), cl_nI (by omega), nI_1]
      rfl
  obtain ⟨z, z1, z2⟩ := key
  refine ⟨z, ?_, z2⟩
  unfold f_X5_withPage
  rw [z1]; rfl
theorem count_eq (a1 a2 a3 a4 a5 pl nd lk wd dr sd : Int32) (bn : Nat → Int32) (w : Nat) (hw : w < 12) : ∃ z, f_X5_count a1 a2 a3 a4 a5 pl nd lk wd dr sd bn (nI w) = some z ∧ f_X6_howMany pl nd lk wd dr sd bn a1 a2 a3 a4 a5 (nI w) = some z := by
  unfold f_X5_count f_X6_howMany f_X2_nodeCount f_X2_linkCount f_X4_size f_X3_setting
  rw [how_eq, many_eq]
  rcases (show w = 0 ∨ w = 1 ∨ w = 2 ∨ w = 3 ∨ w = 4 ∨ w = 5 ∨ w = 6 ∨ w = 7 ∨ w = 8 ∨ w = 9 ∨ w = 10 ∨ w = 11 by omega) with rfl | rfl | rfl | rfl | rfl | rfl | rfl | rfl | rfl | rfl | rfl | rfl
  all_goals exact ⟨_, rfl, rfl⟩
theorem dg_counts (a1 a2 a3 a4 a5 pl nd lk wd dr sd : Int32) (bn : Nat → Int32) (h : Int64) : ∃ z, f_X5_withCounts a1 a2 a3 a4 a5 pl nd lk wd dr sd bn h = some z ∧ f_X6_digest_L184 pl nd lk wd dr sd bn a1 a2 a3 a4 a5 100 h 0 = some z := by
  have key : ∃ z, f_X5_withCounts_L5 a1 a2 a3 a4 a5 pl nd lk wd dr sd bn 100 h 0 = some z ∧ f_X6_digest_L184 pl nd lk wd dr sd bn a1 a2 a3 a4 a5 100 h 0 = some z := by
    refine lupE (f := fun m s y => f_X5_withCounts_L5 a1 a2 a3 a4 a5 pl nd lk wd dr sd bn m s y) (g := fun m s y => f_X6_digest_L184 pl nd lk wd dr sd bn a1 a2 a3 a4 a5 m s y) (K := 12) (fun m h => ⟨?_, ?_⟩) (fun m i h hi => ?_) 100 (by omega) h
    · show f_X5_withCounts_L5 _ _ _ _ _ _ _ _ _ _ _ _ _ _ _ = _
      rw [f_X5_withCounts_L5_s, if_pos (by decide)]
    · show f_X6_digest_L184 _ _ _ _ _ _ _ _ _ _ _ _ _ _ _ = _
      rw [f_X6_digest_L184_s, if_pos (by decide)]
    · show ∃ h', f_X5_withCounts_L5 _ _ _ _ _ _ _ _ _ _ _ _ _ _ _ = f_X5_withCounts_L5 _ _ _ _ _ _ _ _ _ _ _ _ _ _ _ ∧ f_X6_digest_L184 _ _ _ _ _ _ _ _ _ _ _ _ _ _ _ = f_X6_digest_L184 _ _ _ _ _ _ _ _ _ _ _ _ _ _ _
      obtain ⟨z, z1, z2⟩ := count_eq a1 a2 a3 a4 a5 pl nd lk wd dr sd bn i hi
      refine ⟨f_X6_mix h z.toInt64, ?_, ?_⟩
      · rw [f_X5_withCounts_L5_s, if_neg (show ¬ (12 : Int32) ≤ nI i from nI_ge (b := 12) hi (by decide)), z1, nI_1]; rfl
      · rw [f_X6_digest_L184_s, if_neg (show ¬ (12 : Int32) ≤ nI i from nI_ge (b := 12) hi (by decide)), z2, nI_1]; rfl
  obtain ⟨z, z1, z2⟩ := key
  refine ⟨z, ?_, z2⟩
  unfold f_X5_withCounts
  rw [z1]; rfl
