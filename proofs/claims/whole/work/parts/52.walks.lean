/-! walks; the reference's distances -/
theorem lupI {σ ρ : Type} {f : Nat → σ → Int32 → Option ρ} {I : Nat → σ → Prop} {K : Nat} {P : ρ → Prop} (hx : ∀ n s, I K s → ∃ o, f (n + 1) s (nI K) = some o ∧ P o) (hs : ∀ n k s, k < K → I k s → ∃ s', I (k + 1) s' ∧ f (n + 1) s (nI k) = f n s' (nI (k + 1))) : ∀ n k s, k ≤ K → K - k < n → I k s → ∃ o, f n s (nI k) = some o ∧ P o := by
  intro n
  induction n with
  | zero => intro k s _ h; omega
  | succ n ih =>
    intro k s hk hn hI
    by_cases e : k = K
    · subst e; exact hx n s hI
    · obtain ⟨s', h1, h2⟩ := hs n k s (by omega) hI
      rw [h2]
      exact ih (k + 1) s' (by omega) (by omega) h1
theorem dst_down {K : Nat} {fr to : Nat → Nat} {t d v : Nat} (h : Dst K fr to t (d + 1) v) : ∃ k, k < K ∧ fr k = v ∧ Dst K fr to t d (to k) := by
  obtain ⟨⟨k, h1, h2, h3⟩, h4⟩ := h
  exact ⟨k, h1, h2, h3, fun i hi q => h4 (i + 1) (by omega) ⟨k, h1, h2, q⟩⟩
theorem dst_one {K : Nat} {fr to : Nat → Nat} {t d e v : Nat} (h1 : Dst K fr to t d v) (h2 : Dst K fr to t e v) : d = e := by
  rcases Nat.lt_trichotomy d e with q | q | q
  · exact absurd h1.1 (h2.2 d q)
  · exact q
  · exact absurd h2.1 (h1.2 e q)
theorem dst_of {K : Nat} {fr to : Nat → Nat} {t d v : Nat} (h : Rw K fr to t d v) : ∃ e, e ≤ d ∧ Dst K fr to t e v := by
  obtain ⟨e, h1, h2⟩ := pk_least (fun e => Rw K fr to t e v) ⟨d, h⟩
  refine ⟨e, ?_, h1, h2⟩
  rcases Nat.lt_or_ge d e with q | q
  · exact absurd h (h2 d q)
  · exact q
theorem dst_chain {N K : Nat} {fr to : Nat → Nat} {t : Nat} (hto : ∀ k, k < K → to k < N) : ∀ d v, v < N → Dst K fr to t d v → ∀ j, j ≤ d → ∃ u, u < N ∧ Dst K fr to t j u := by
  intro d
  induction d with
  | zero => intro v hv h j hj; exact ⟨v, hv, by rw [show j = 0 by omega]; exact h⟩
  | succ d ih =>
    intro v hv h j hj
    by_cases e : j = d + 1
    · subst e; exact ⟨v, hv, h⟩
    · obtain ⟨k, h1, h2, h3⟩ := dst_down h
      exact ih (to k) (hto k h1) h3 j (by omega)
theorem dst_lt {N K : Nat} {fr to : Nat → Nat} {t d v : Nat} (hto : ∀ k, k < K → to k < N) (hv : v < N) (h : Dst K fr to t d v) : d + 1 ≤ N := by
  have hc := dst_chain hto d v hv h
  refine fb_holes N (d + 1) (fun j => if q : j ≤ d then (hc j q).choose else 0) (fun i hi => ?_) (fun i j hij hj => ?_)
  · have q : i ≤ d := by omega
    simp only [dif_pos q]
    exact (hc i q).choose_spec.1
  · have qi : i ≤ d := by omega
    have qj : j ≤ d := by omega
    simp only [dif_pos qi, dif_pos qj]
    intro e
    have h1 := (hc i qi).choose_spec.2
    have h2 := (hc j qj).choose_spec.2
    rw [e] at h1
    have := dst_one h1 h2
    omega
/-- distances on their way: r rounds are through, and the first k links of the next -/
def JL (N K : Nat) (fr to : Nat → Nat) (t r k : Nat) (w : Nat → Nat) : Prop := (∀ v, v < N → w v ≤ 6) ∧ (∀ v, v < N → w v < 6 → Rw K fr to t (w v) v) ∧ (∀ d, d ≤ r → ∀ v, v < N → Rw K fr to t d v → w v ≤ d) ∧ ∀ j, j < k → Rw K fr to t r (to j) → w (fr j) ≤ r + 1
theorem JL_step {N K : Nat} {fr to : Nat → Nat} {t r k : Nat} {w : Nat → Nat} (hf : ∀ k, k < K → fr k < N ∧ to k < N) (hk : k < K) (h : JL N K fr to t r k w) : JL N K fr to t r (k + 1) (fun v => if v = fr k then (if w (fr k) ≤ w (to k) + 1 then w (fr k) else w (to k) + 1) else w v) := by
  obtain ⟨h1, h2, h3, h4⟩ := h
  obtain ⟨hfk, htk⟩ := hf k hk
  have hle : ∀ v, (if v = fr k then (if w (fr k) ≤ w (to k) + 1 then w (fr k) else w (to k) + 1) else w v) ≤ w v := by
    intro v
    by_cases e : v = fr k
    · subst e; rw [if_pos rfl]; split <;> omega
    · rw [if_neg e]; omega
  refine ⟨fun v hv => Nat.le_trans (hle v) (h1 v hv), fun v hv hv6 => ?_, fun d hd v hv hr => Nat.le_trans (hle v) (h3 d hd v hv hr), fun j hj hr => ?_⟩
  · show Rw K fr to t (if v = fr k then (if w (fr k) ≤ w (to k) + 1 then w (fr k) else w (to k) + 1) else w v) v
    have hv6 : (if v = fr k then (if w (fr k) ≤ w (to k) + 1 then w (fr k) else w (to k) + 1) else w v) < 6 := hv6
    by_cases e : v = fr k
    · subst e
      rw [if_pos rfl] at hv6 ⊢
      by_cases c : w (fr k) ≤ w (to k) + 1
      · rw [if_pos c] at hv6 ⊢; exact h2 _ hfk hv6
      · rw [if_neg c] at hv6 ⊢; exact ⟨k, hk, rfl, h2 _ htk (by omega)⟩
    · rw [if_neg e] at hv6 ⊢; exact h2 v hv hv6
  · show (if fr j = fr k then (if w (fr k) ≤ w (to k) + 1 then w (fr k) else w (to k) + 1) else w (fr j)) ≤ r + 1
    by_cases e : j = k
    · subst e
      have := h3 r (Nat.le_refl r) (to j) htk hr
      rw [if_pos rfl]; split <;> omega
    · exact Nat.le_trans (hle (fr j)) (h4 j (by omega) hr)
theorem JL_round {N K : Nat} {fr to : Nat → Nat} {t r : Nat} {w : Nat → Nat} (h : JL N K fr to t r K w) : JL N K fr to t (r + 1) 0 w := by
  obtain ⟨h1, h2, h3, h4⟩ := h
  refine ⟨h1, h2, fun d hd v hv hr => ?_, fun j hj => absurd hj (Nat.not_lt_zero j)⟩
  by_cases e : d = r + 1
  · subst e
    obtain ⟨j, hj, hfj, hr⟩ := hr
    have := h4 j hj hr
    rw [hfj] at this
    exact this
  · exact h3 d (by omega) v hv hr
theorem left45 {N K : Nat} {fr to : Nat → Nat} {st en : Nat → Int32} {t r : Nat} (hN : N ≤ 6) (hK : K ≤ 16) (hf : ∀ k, k < K → fr k < N ∧ to k < N) (hse : ∀ k, k < K → st k = nI (fr k) ∧ en k = nI (to k)) (lf : Nat → Int32) (w : Nat → Nat) (hw : ∀ v, v < N → lf v = nI (w v)) (hJ : JL N K fr to t r 0 w) : ∃ lf', f_X6_layLeft_L45 (nI K) st en 100 lf 0 = some lf' ∧ ∃ w', (∀ v, v < N → lf' v = nI (w' v)) ∧ JL N K fr to t (r + 1) 0 w' := by
  refine lupI (f := fun n s y => f_X6_layLeft_L45 (nI K) st en n s y) (I := fun k s => ∃ w, (∀ v, v < N → s v = nI (w v)) ∧ JL N K fr to t r k w) (K := K) (P := fun o => ∃ w', (∀ v, v < N → o v = nI (w' v)) ∧ JL N K fr to t (r + 1) 0 w') (fun n s hI => ?_) (fun n k s hk hI => ?_) 100 0 lf (by omega) (by omega) ⟨w, hw, hJ⟩
  · obtain ⟨w, h1, h2⟩ := hI
    refine ⟨s, ?_, w, h1, JL_round h2⟩
    show f_X6_layLeft_L45 _ _ _ _ _ _ = _
    rw [f_X6_layLeft_L45_s, if_pos (nI_le (Nat.le_refl K) (by omega))]
  · obtain ⟨w, h1, h2⟩ := hI
    obtain ⟨hfk, htk⟩ := hf k hk
    have b1 := h2.1 _ hfk
    have b2 := h2.1 _ htk
    refine ⟨upd s (fr k) (nI (if w (fr k) ≤ w (to k) + 1 then w (fr k) else w (to k) + 1)), ⟨_, fun v hv => ?_, JL_step hf hk h2⟩, ?_⟩
    · by_cases e : v = fr k
      · subst e; rw [pk_us, if_pos rfl]
      · rw [pk_un e, if_neg e]; exact h1 v hv
    · show f_X6_layLeft_L45 _ _ _ _ _ _ = f_X6_layLeft_L45 _ _ _ _ _ _
      rw [f_X6_layLeft_L45_s, if_neg (nI_ge hk (by omega)), if_neg (ix_ok (n := 16) (by omega) (by decide)), cl_nI (by omega), (hse k hk).1, (hse k hk).2, if_neg (ix_ok (n := 6) (by omega) (by decide)), if_neg (ix_ok (n := 6) (by omega) (by decide)), cl_nI (by omega), cl_nI (by omega), h1 _ hfk, h1 _ htk, nI_1, nI_1]
      have e := nI_leI (a := w (fr k)) (b := w (to k) + 1) (by omega) (by omega)
      by_cases c : w (fr k) ≤ w (to k) + 1
      · rw [if_pos (e.mpr c), if_pos c]; rfl
      · rw [if_neg (fun q => c (e.mp q)), if_neg c]; rfl
theorem left2 {N t : Nat} (hN : N ≤ 6) (ht : t < N) (lf : Nat → Int32) : ∃ lf', f_X6_layLeft_L2 (nI N) (nI t) 100 lf 0 = some lf' ∧ ∀ v, v < N → lf' v = nI (if v = t then 0 else 6) := by
  refine lupI (f := fun n s y => f_X6_layLeft_L2 (nI N) (nI t) n s y) (I := fun k s => ∀ v, v < k → s v = nI (if v = t then 0 else 6)) (K := N) (P := fun o => ∀ v, v < N → o v = nI (if v = t then 0 else 6)) (fun n s hI => ⟨s, ?_, hI⟩) (fun n k s hk hI => ?_) 100 0 lf (by omega) (by omega) (fun v hv => absurd hv (Nat.not_lt_zero v))
  · show f_X6_layLeft_L2 _ _ _ _ _ = _
    rw [f_X6_layLeft_L2_s, if_pos (nI_le (Nat.le_refl N) (by omega))]
  · refine ⟨upd s k (nI (if k = t then 0 else 6)), fun v hv => ?_, ?_⟩
    · by_cases e : v = k
      · subst e; rw [pk_us]
      · rw [pk_un e]; exact hI v (by omega)
    · show f_X6_layLeft_L2 _ _ _ _ _ = f_X6_layLeft_L2 _ _ _ _ _
      rw [f_X6_layLeft_L2_s, if_neg (nI_ge hk (by omega)), if_neg (ix_ok (n := 6) (by omega) (by decide)), cl_nI (by omega), nI_1]
      have e := nI_eq (a := k) (b := t) (by omega) (by omega)
      by_cases c : k = t
      · rw [if_pos (e.mpr c), if_pos c]; rfl
      · rw [if_neg (fun q => c (e.mp q)), if_neg c]; rfl
/-- the reference's distances to a node -/
theorem left_ok {N K : Nat} {fr to : Nat → Nat} {st en : Nat → Int32} {t : Nat} (hwf : WfG N K fr to) (hse : ∀ k, k < K → st k = nI (fr k) ∧ en k = nI (to k)) (ht : t < N) (lf : Nat → Int32) : ∃ lf', f_X6_layLeft (nI N) (nI K) st en lf (nI t) = some lf' ∧ ∃ w : Nat → Nat, (∀ v, v < N → lf' v = nI (w v) ∧ w v ≤ 6) ∧ (∀ v d, v < N → Dst K fr to t d v → w v = d) ∧ ∀ v, v < N → (∀ d, ¬ Rw K fr to t d v) → w v = 6 := by
  obtain ⟨hN, hK, hf, hinj⟩ := hwf
  obtain ⟨l1, h1, h2⟩ := left2 hN ht lf
  have h3 : ∃ l2, f_X6_layLeft_L35 (nI N) (nI K) st en 100 l1 0 = some l2 ∧ ∃ w, (∀ v, v < N → l2 v = nI (w v)) ∧ JL N K fr to t N 0 w := by
    refine lupI (f := fun n s y => f_X6_layLeft_L35 (nI N) (nI K) st en n s y) (I := fun r s => ∃ w, (∀ v, v < N → s v = nI (w v)) ∧ JL N K fr to t r 0 w) (K := N) (P := fun o => ∃ w', (∀ v, v < N → o v = nI (w' v)) ∧ JL N K fr to t N 0 w') (fun n s hI => ⟨s, ?_, hI⟩) (fun n r s hr hI => ?_) 100 0 l1 (by omega) (by omega) ⟨_, h2, ?_⟩
    · show f_X6_layLeft_L35 _ _ _ _ _ _ _ = _
      rw [f_X6_layLeft_L35_s, if_pos (nI_le (Nat.le_refl N) (by omega))]
    · obtain ⟨w, q1, q2⟩ := hI
      obtain ⟨s', q3, q4⟩ := left45 hN hK hf hse s w q1 q2
      refine ⟨s', q4, ?_⟩
      show f_X6_layLeft_L35 _ _ _ _ _ _ _ = f_X6_layLeft_L35 _ _ _ _ _ _ _
      rw [f_X6_layLeft_L35_s, if_neg (nI_ge hr (by omega)), q3, nI_1]; rfl
    · refine ⟨fun v hv => ?_, fun v hv hv6 => ?_, fun d hd v hv hr => ?_, fun j hj => absurd hj (Nat.not_lt_zero j)⟩
      · show (if v = t then 0 else 6) ≤ 6
        split <;> omega
      · have hv6 : (if v = t then 0 else 6) < 6 := hv6
        show Rw K fr to t (if v = t then 0 else 6) v
        by_cases e : v = t
        · rw [if_pos e]; exact e
        · rw [if_neg e] at hv6; omega
      · have hd0 : d = 0 := by omega
        subst hd0
        have hr : v = t := hr
        show (if v = t then 0 else 6) ≤ 0
        rw [if_pos hr]; omega
  obtain ⟨l2, h4, w, h5, h6, h7, h8, h9⟩ := h3
  refine ⟨l2, ?_, w, fun v hv => ⟨h5 v hv, h6 v hv⟩, fun v d hv hd => ?_, fun v hv hno => ?_⟩
  · unfold f_X6_layLeft
    rw [h1]
    simp only [Option.bind_some]
    rw [h4]; rfl
  · have q1 := dst_lt (fun k hk => (hf k hk).2) hv hd
    have q2 := h8 d (by omega) v hv hd.1
    have q3 := h7 v hv (by omega)
    rcases Nat.lt_or_ge (w v) d with q | q
    · exact absurd q3 (hd.2 _ q)
    · omega
  · have := h6 v hv
    rcases Nat.lt_or_ge (w v) 6 with q | q
    · exact absurd (h7 v hv q) (hno _)
    · omega
