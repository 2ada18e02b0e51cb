/-! the class's ways, round by round -/
def TW (N K : Nat) (fr to : Nat → Nat) (L r : Nat) (wl wn wk : Nat → Int32) : Prop := ∀ v t, v < N → t < N →
  (∀ d, Dst K fr to t d v → (d < L ∨ d = L ∧ 6 * v + t < r) → wl (6 * v + t) = nI d) ∧
  ((∀ d, (d < L ∨ d = L ∧ 6 * v + t < r) → ¬ Dst K fr to t d v) → wl (6 * v + t) = -1 ∧ wk (6 * v + t) = 0) ∧
  (v = t → wk (6 * v + t) = 0) ∧
  (∀ d, Dst K fr to t (d + 1) v → (d + 1 < L ∨ d + 1 = L ∧ 6 * v + t < r) → ∃ k, k < K ∧ fr k = v ∧ Dst K fr to t d (to k) ∧ (∀ j, j < K → fr j = v → Dst K fr to t d (to j) → to k ≤ to j) ∧ wn (6 * v + t) = nI (to k) ∧ wk (6 * v + t) = wk (6 * to k + t) ||| nI (2 ^ k)) ∧
  ∃ m, m < 2 ^ K ∧ wk (6 * v + t) = nI m
def LbOK (N K : Nat) (fr to : Nat → Nat) (lb : Nat → Int32) : Prop := ∀ v t, v < N → t < N → (∀ k, k < K → fr k = v → to k = t → lb (6 * v + t) = nI k) ∧ ((∀ k, k < K → ¬ (fr k = v ∧ to k = t)) → lb (6 * v + t) = -1)
theorem nI_m1 {k : Nat} (h : k < 2 ^ 31) : ¬ nI k = -1 := by
  intro e
  have e2 := congrArg Int32.toInt e
  rw [nI_toInt h] at e2
  have e3 : (-1 : Int32).toInt = -1 := rfl
  omega
theorem tw_wl {N K L r : Nat} {fr to : Nat → Nat} {wl wn wk : Nat → Int32} (hL : 1 ≤ L) (hL6 : L ≤ 6) (h : TW N K fr to L r wl wn wk) {x t : Nat} (hx : x < N) (ht : t < N) : wl (6 * x + t) = nI (L - 1) ↔ Dst K fr to t (L - 1) x := by
  obtain ⟨h1, h2, -, -, -⟩ := h x t hx ht
  constructor
  · intro e
    rcases Classical.em (∃ d, (d < L ∨ d = L ∧ 6 * x + t < r) ∧ Dst K fr to t d x) with ⟨d, q1, q2⟩ | q
    · have e2 := h1 d q2 q1
      rw [e] at e2
      have e3 := (nI_eq (a := L - 1) (b := d) (by omega) (by omega)).mp e2
      rw [e3]; exact q2
    · have e2 := (h2 (fun d q1 q2 => q ⟨d, q1, q2⟩)).1
      rw [e] at e2
      exact absurd e2 (nI_m1 (by omega))
  · intro e
    exact h1 _ e (Or.inl (by omega))
theorem fw_eq {N K L r v t : Nat} {fr to : Nat → Nat} {lb wl wn wk : Nat → Int32} (hwf : WfG N K fr to) (hlb : LbOK N K fr to lb) (hL : 1 ≤ L) (hL6 : L ≤ 6) (h : TW N K fr to L r wl wn wk) (hv : v < N) (ht : t < N) : (∃ k, k < K ∧ fr k = v ∧ Dst K fr to t (L - 1) (to k) ∧ (∀ j, j < K → fr j = v → Dst K fr to t (L - 1) (to j) → to k ≤ to j) ∧ f_X2_findWay (nI N) lb wl wn wk (nI v) (nI t) (nI L) = some (upd wl (6 * v + t) (nI L), upd wn (6 * v + t) (nI (to k)), upd wk (6 * v + t) (wk (6 * to k + t) ||| nI (2 ^ k)))) ∨ ((∀ j, j < K → fr j = v → ¬ Dst K fr to t (L - 1) (to j)) ∧ f_X2_findWay (nI N) lb wl wn wk (nI v) (nI t) (nI L) = some (wl, wn, wk)) := by
  obtain ⟨hN, hK, hf, hinj⟩ := hwf
  have eL : nI L - 1 = nI (L - 1) := pk_sub (b := 1) (by omega)
  have step : ∀ x, x < N → ¬ (∃ k, k < K ∧ fr k = v ∧ to k = x ∧ Dst K fr to t (L - 1) x) → ∀ fu, f_X2_findWay_L3 (nI N) lb (nI v) (nI t) (nI L) (fu + 1) wl wn wk (nI x) = f_X2_findWay_L3 (nI N) lb (nI v) (nI t) (nI L) fu wl wn wk (nI (x + 1)) := by
    intro x hx hno fu
    rw [f_X2_findWay_L3_s, if_neg (nI_ge hx (by omega)), at_eq, at_eq, if_neg (ix_ok (n := 36) (by omega) (by decide)), cl_nI (by omega), nI_1]
    by_cases q : lb (6 * v + x) = -1
    · rw [if_pos q]
    · rw [if_neg q, if_neg (ix_ok (n := 36) (by omega) (by decide)), cl_nI (by omega), eL, if_neg]
      intro z
      have hd := (tw_wl hL hL6 h hx ht).mp z
      rcases Classical.em (∃ k, k < K ∧ fr k = v ∧ to k = x) with ⟨k, k1, k2, k3⟩ | g
      · exact hno ⟨k, k1, k2, k3, hd⟩
      · exact q ((hlb v x hv hx).2 (fun k hk z => g ⟨k, hk, z.1, z.2⟩))
  rcases Classical.em (∃ u, ∃ k, k < K ∧ fr k = v ∧ to k = u ∧ Dst K fr to t (L - 1) u) with hex | hno
  · obtain ⟨u, ⟨k, k1, k2, k3, k4⟩, hmin⟩ := pk_least (fun u => ∃ k, k < K ∧ fr k = v ∧ to k = u ∧ Dst K fr to t (L - 1) u) hex
    subst k3
    have huN := (hf k k1).2
    refine Or.inl ⟨k, k1, k2, k4, fun j j1 j2 j3 => ?_, ?_⟩
    · rcases Nat.lt_or_ge (to j) (to k) with q | q
      · exact absurd ⟨j, j1, j2, rfl, j3⟩ (hmin (to j) q)
      · exact q
    · have hh := lup (f := fun fu (_ : Unit) y => f_X2_findWay_L3 (nI N) lb (nI v) (nI t) (nI L) fu wl wn wk y) (acc := fun _ => ()) (K := to k) (out := .inl (upd wl (6 * v + t) (nI L), upd wn (6 * v + t) (nI (to k)), upd wk (6 * v + t) (wk (6 * to k + t) ||| nI (2 ^ k))))
        (fun fu => by
          show f_X2_findWay_L3 _ _ _ _ _ _ _ _ _ _ = _
          have hl := (hlb v (to k) hv huN).1 k k1 k2 rfl
          have hw := (tw_wl hL hL6 h huN ht).mpr k4
          rw [f_X2_findWay_L3_s, if_neg (nI_ge huN (by omega)), at_eq, at_eq, at_eq, if_neg (ix_ok (n := 36) (by omega) (by decide)), cl_nI (by omega), hl, if_neg (nI_m1 (by omega)), if_neg (ix_ok (n := 36) (by omega) (by decide)), cl_nI (by omega), hw, eL, if_pos rfl, if_neg (ix_ok (n := 36) (by omega) (by decide)), cl_nI (by omega), shl1 (by omega)])
        (fun fu x hx => step x (by omega) (hmin x hx) fu) 100 0 (by omega) (by omega)
      have hh : f_X2_findWay_L3 (nI N) lb (nI v) (nI t) (nI L) 100 wl wn wk (nI 0) = _ := hh
      rw [nI_0] at hh
      unfold f_X2_findWay
      rw [hh]; rfl
  · refine Or.inr ⟨fun j j1 j2 j3 => hno ⟨to j, j, j1, j2, rfl, j3⟩, ?_⟩
    have hh := lup (f := fun fu (_ : Unit) y => f_X2_findWay_L3 (nI N) lb (nI v) (nI t) (nI L) fu wl wn wk y) (acc := fun _ => ()) (K := N) (out := .inr (wl, wn, wk))
      (fun fu => by
        show f_X2_findWay_L3 _ _ _ _ _ _ _ _ _ _ = _
        rw [f_X2_findWay_L3_s, if_pos (nI_le (Nat.le_refl N) (by omega))])
      (fun fu x hx => step x hx (fun z => hno ⟨x, z⟩) fu) 100 0 (by omega) (by omega)
    have hh : f_X2_findWay_L3 (nI N) lb (nI v) (nI t) (nI L) 100 wl wn wk (nI 0) = _ := hh
    rw [nI_0] at hh
    unfold f_X2_findWay
    rw [hh]; rfl
theorem tw_keep {N K L v t : Nat} {fr to : Nat → Nat} {wl wn wk : Nat → Int32} (hN : N ≤ 6) (ht : t < N) (h : TW N K fr to L (6 * v + t) wl wn wk) (hno : ¬ Dst K fr to t L v) : TW N K fr to L (6 * v + t + 1) wl wn wk := by
  intro v' t' hv' ht'
  obtain ⟨h1, h2, h3, h4, h5⟩ := h v' t' hv' ht'
  have conv : ∀ d, Dst K fr to t' d v' → (d < L ∨ d = L ∧ 6 * v' + t' < 6 * v + t + 1) → (d < L ∨ d = L ∧ 6 * v' + t' < 6 * v + t) := by
    intro d hd hc
    rcases hc with hc | ⟨hc, hc2⟩
    · exact Or.inl hc
    · by_cases q : 6 * v' + t' = 6 * v + t
      · have e1 : v' = v := by omega
        have e2 : t' = t := by omega
        subst e1 e2 hc
        exact absurd hd hno
      · exact Or.inr ⟨hc, by omega⟩
  refine ⟨fun d hd hc => h1 d hd (conv d hd hc), fun hc => h2 (fun d hd => hc d (by omega)), h3, fun d hd hc => h4 d hd (conv (d + 1) hd hc), h5⟩
theorem tw_set {N K L v t k : Nat} {fr to : Nat → Nat} {wl wn wk : Nat → Int32} (hwf : WfG N K fr to) (hL : 1 ≤ L) (hv : v < N) (ht : t < N) (h : TW N K fr to L (6 * v + t) wl wn wk) (hd : Dst K fr to t L v) (k1 : k < K) (k2 : fr k = v) (k3 : Dst K fr to t (L - 1) (to k)) (k4 : ∀ j, j < K → fr j = v → Dst K fr to t (L - 1) (to j) → to k ≤ to j) : TW N K fr to L (6 * v + t + 1) (upd wl (6 * v + t) (nI L)) (upd wn (6 * v + t) (nI (to k))) (upd wk (6 * v + t) (wk (6 * to k + t) ||| nI (2 ^ k))) := by
  obtain ⟨hN, hK, hf, hinj⟩ := hwf
  have huN := (hf k k1).2
  have huv : to k ≠ v := fun e => by
    rw [e] at k3
    have := dst_one k3 hd
    omega
  intro v' t' hv' ht'
  by_cases q : 6 * v' + t' = 6 * v + t
  · have e1 : v' = v := by omega
    have e2 : t' = t := by omega
    subst e1 e2
    rw [pk_us, pk_us, pk_us]
    refine ⟨fun d hd' _ => by rw [dst_one hd' hd], fun hc => absurd hd (hc L (Or.inr ⟨rfl, by omega⟩)), fun e => ?_, fun d hd' _ => ?_, ?_⟩
    · have h0 : Dst K fr to t' 0 v' := ⟨e, fun i hi => absurd hi (Nat.not_lt_zero i)⟩
      have := dst_one h0 hd
      omega
    · have e := dst_one hd' hd
      have e2 : L - 1 = d := by omega
      rw [e2] at k3 k4
      refine ⟨k, k1, k2, k3, k4, rfl, ?_⟩
      rw [pk_un (show ¬ 6 * to k + t' = 6 * v' + t' by omega)]
    · obtain ⟨-, -, -, -, m, hm, em⟩ := h (to k) t' huN ht'
      refine ⟨m ||| 2 ^ k, Nat.or_lt_two_pow hm (Nat.pow_lt_pow_right (by omega) k1), ?_⟩
      rw [em, fa_or]
  · obtain ⟨h1, h2, h3, h4, h5⟩ := h v' t' hv' ht'
    rw [pk_un q, pk_un q, pk_un q]
    refine ⟨fun d hd' hc => h1 d hd' (by omega), fun hc => h2 (fun d hc' => hc d (by omega)), h3, fun d hd' hc => ?_, h5⟩
    obtain ⟨j, j1, j2, j3, j4, j5, j6⟩ := h4 d hd' (by omega)
    refine ⟨j, j1, j2, j3, j4, j5, ?_⟩
    have hjN := (hf j j1).2
    rw [pk_un, j6]
    intro e
    have e1 : to j = v := by omega
    have e2 : t' = t := by omega
    rw [e1, e2] at j3
    have := dst_one j3 hd
    omega
theorem tw_pair {N K L v t : Nat} {fr to : Nat → Nat} {lb wl wn wk : Nat → Int32} (hwf : WfG N K fr to) (hlb : LbOK N K fr to lb) (hL : 1 ≤ L) (hL6 : L ≤ 6) (hv : v < N) (ht : t < N) (h : TW N K fr to L (6 * v + t) wl wn wk) : ∃ wl' wn' wk', (∀ z, (if wl (6 * v + t) = -1 then Option.bind (f_X2_findWay (nI N) lb wl wn wk (nI v) (nI t) (nI L)) z else z (wl, wn, wk)) = (z (wl', wn', wk') : Option ((Nat → Int32) × (Nat → Int32) × (Nat → Int32)))) ∧ TW N K fr to L (6 * v + t + 1) wl' wn' wk' := by
  obtain ⟨hN, hK, hf, hinj⟩ := id hwf
  obtain ⟨h1, h2, -, -, -⟩ := h v t hv ht
  rcases Classical.em (∃ d, d < L ∧ Dst K fr to t d v) with ⟨d, d1, d2⟩ | hno
  · refine ⟨wl, wn, wk, fun z => ?_, tw_keep hN ht h (fun q => by have := dst_one q d2; omega)⟩
    rw [h1 d d2 (Or.inl d1), if_neg (nI_m1 (by omega))]
  · have e := (h2 (fun d hc hd => hno ⟨d, by omega, hd⟩)).1
    rcases fw_eq hwf hlb hL hL6 h hv ht with ⟨k, k1, k2, k3, k4, k5⟩ | ⟨g1, g2⟩
    · have hd : Dst K fr to t L v := by
        refine ⟨?_, fun i hi q => ?_⟩
        · obtain ⟨l, rfl⟩ : ∃ l, L = l + 1 := ⟨L - 1, by omega⟩
          exact ⟨k, k1, k2, k3.1⟩
        · obtain ⟨i', i1, i2⟩ := dst_of q
          exact hno ⟨i', by omega, i2⟩
      refine ⟨_, _, _, fun z => ?_, tw_set hwf hL hv ht h hd k1 k2 k3 k4⟩
      rw [if_pos e, k5]; rfl
    · refine ⟨wl, wn, wk, fun z => ?_, tw_keep hN ht h (fun q => ?_)⟩
      · rw [if_pos e, g2]; rfl
      · obtain ⟨l, rfl⟩ : ∃ l, L = l + 1 := ⟨L - 1, by omega⟩
        obtain ⟨k, k1, k2, k3⟩ := dst_down q
        exact g1 k k1 k2 k3
theorem tw_12 {N K L v : Nat} {fr to : Nat → Nat} {lb : Nat → Int32} (hwf : WfG N K fr to) (hlb : LbOK N K fr to lb) (hL : 1 ≤ L) (hL6 : L ≤ 6) (hv : v < N) (s : (Nat → Int32) × (Nat → Int32) × (Nat → Int32)) (h : TW N K fr to L (6 * v) s.1 s.2.1 s.2.2) : ∃ o, f_X2_findWays_L12 (nI N) lb (nI L) (nI v) 100 s.1 s.2.1 s.2.2 0 = some o ∧ TW N K fr to L (6 * (v + 1)) o.1 o.2.1 o.2.2 := by
  have hN := hwf.1
  have hh := lupI (f := fun fu (s : (Nat → Int32) × (Nat → Int32) × (Nat → Int32)) y => f_X2_findWays_L12 (nI N) lb (nI L) (nI v) fu s.1 s.2.1 s.2.2 y) (I := fun t s => TW N K fr to L (6 * v + t) s.1 s.2.1 s.2.2) (K := N) (P := fun o => TW N K fr to L (6 * (v + 1)) o.1 o.2.1 o.2.2)
    (fun fu s hI => ⟨s, by
      show f_X2_findWays_L12 _ _ _ _ _ _ _ _ _ = _
      rw [f_X2_findWays_L12_s, if_pos (nI_le (Nat.le_refl N) (by omega))], fun v' t' hv' ht' => by
        obtain ⟨h1, h2, h3, h4, h5⟩ := hI v' t' hv' ht'
        exact ⟨fun d hd hc => h1 d hd (by omega), fun hc => h2 (fun d hd => hc d (by omega)), h3, fun d hd hc => h4 d hd (by omega), h5⟩⟩)
    (fun fu t s ht hI => by
      obtain ⟨a, b, c, h1, h2⟩ := tw_pair hwf hlb hL hL6 hv ht hI
      refine ⟨(a, b, c), h2, ?_⟩
      show f_X2_findWays_L12 _ _ _ _ _ _ _ _ _ = f_X2_findWays_L12 _ _ _ _ _ _ _ _ _
      rw [f_X2_findWays_L12_s, if_neg (nI_ge ht (by omega)), at_eq, if_neg (ix_ok (n := 36) (by omega) (by decide)), cl_nI (by omega), nI_1]
      rw [h1 (fun z => some (z.1, z.2.1, z.2.2))]
      rfl) 100 0 s (by omega) (by omega) h
  exact hh
theorem tw_2 {N K L : Nat} {fr to : Nat → Nat} {lb : Nat → Int32} (hwf : WfG N K fr to) (hlb : LbOK N K fr to lb) (hL : 1 ≤ L) (hL6 : L ≤ 6) (s : (Nat → Int32) × (Nat → Int32) × (Nat → Int32)) (h : TW N K fr to L 0 s.1 s.2.1 s.2.2) : ∃ o, f_X2_findWays (nI N) lb s.1 s.2.1 s.2.2 (nI L) = some o ∧ TW N K fr to (L + 1) 0 o.1 o.2.1 o.2.2 := by
  have hN := hwf.1
  have hh := lupI (f := fun fu (s : (Nat → Int32) × (Nat → Int32) × (Nat → Int32)) y => f_X2_findWays_L2 (nI N) lb (nI L) fu s.1 s.2.1 s.2.2 y) (I := fun v s => TW N K fr to L (6 * v) s.1 s.2.1 s.2.2) (K := N) (P := fun o => TW N K fr to (L + 1) 0 o.1 o.2.1 o.2.2)
    (fun fu s hI => ⟨s, by
      show f_X2_findWays_L2 _ _ _ _ _ _ _ _ = _
      rw [f_X2_findWays_L2_s, if_pos (nI_le (Nat.le_refl N) (by omega))], fun v' t' hv' ht' => by
        obtain ⟨h1, h2, h3, h4, h5⟩ := hI v' t' hv' ht'
        exact ⟨fun d hd hc => h1 d hd (by omega), fun hc => h2 (fun d hd => hc d (by omega)), h3, fun d hd hc => h4 d hd (by omega), h5⟩⟩)
    (fun fu v s hv hI => by
      obtain ⟨o, h1, h2⟩ := tw_12 hwf hlb hL hL6 hv s hI
      refine ⟨o, h2, ?_⟩
      show f_X2_findWays_L2 _ _ _ _ _ _ _ _ = f_X2_findWays_L2 _ _ _ _ _ _ _ _
      rw [f_X2_findWays_L2_s, if_neg (nI_ge hv (by omega)), h1, nI_1]; rfl) 100 0 s (by omega) (by omega) h
  obtain ⟨o, h1, h2⟩ := hh
  have h1 : f_X2_findWays_L2 (nI N) lb (nI L) 100 s.1 s.2.1 s.2.2 (nI 0) = some o := h1
  rw [nI_0] at h1
  refine ⟨o, ?_, h2⟩
  unfold f_X2_findWays
  rw [h1]; rfl
theorem tw_63 {N K : Nat} {fr to : Nat → Nat} {lb : Nat → Int32} (hN1 : 1 ≤ N) (hwf : WfG N K fr to) (hlb : LbOK N K fr to lb) (s : (Nat → Int32) × (Nat → Int32) × (Nat → Int32)) (h : TW N K fr to 1 0 s.1 s.2.1 s.2.2) : ∃ o, f_X2_read_L63 (nI N) lb 100 s.1 s.2.1 s.2.2 1 = some o ∧ WaysOK N K fr to o.1 o.2.1 o.2.2 := by
  have hN := hwf.1
  have hh := lupI (f := fun fu (s : (Nat → Int32) × (Nat → Int32) × (Nat → Int32)) y => f_X2_read_L63 (nI N) lb fu s.1 s.2.1 s.2.2 y) (I := fun L s => 1 ≤ L ∧ TW N K fr to L 0 s.1 s.2.1 s.2.2) (K := N) (P := fun o => WaysOK N K fr to o.1 o.2.1 o.2.2)
    (fun fu s hI => ⟨s, by
      show f_X2_read_L63 _ _ _ _ _ _ _ = _
      rw [f_X2_read_L63_s, if_pos (nI_le (Nat.le_refl N) (by omega))], fun v' t' hv' ht' => by
        obtain ⟨h1, h2, h3, h4, h5⟩ := hI.2 v' t' hv' ht'
        have hlt : ∀ d, Dst K fr to t' d v' → d < N := fun d hd => dst_lt (fun k hk => (hwf.2.2.1 k hk).2) hv' hd
        exact ⟨fun d hd => h1 d hd (Or.inl (hlt d hd)), fun hc => h2 (fun d _ hd => hc d hd.1), h3, fun d hd => h4 d hd (Or.inl (hlt _ hd)), h5⟩⟩)
    (fun fu L s hL hI => by
      obtain ⟨o, h1, h2⟩ := tw_2 hwf hlb hI.1 (by omega) s hI.2
      refine ⟨o, ⟨by omega, h2⟩, ?_⟩
      show f_X2_read_L63 _ _ _ _ _ _ _ = f_X2_read_L63 _ _ _ _ _ _ _
      rw [f_X2_read_L63_s, if_neg (nI_ge hL (by omega)), h1, nI_1]; rfl) 100 1 s hN1 (by omega) ⟨Nat.le_refl 1, h⟩
  exact hh
theorem tw_start {N K : Nat} {fr to : Nat → Nat} {lb wl wn wk : Nat → Int32} (hN : N ≤ 6) (h : FGx 36 (lb, wl, wn, wk)) : TW N K fr to 1 0 wl wn wk := by
  intro v t hv ht
  obtain ⟨-, h1, -, h2⟩ := h (6 * v + t) (by omega)
  have h1 : wl (6 * v + t) = (if (6 * v + t) / 6 = (6 * v + t) % 6 then 0 else -1) := h1
  have h2 : wk (6 * v + t) = 0 := h2
  rw [show (6 * v + t) / 6 = v by omega, show (6 * v + t) % 6 = t by omega] at h1
  refine ⟨fun d hd hc => ?_, fun hc => ⟨?_, h2⟩, fun _ => h2, fun d hd hc => by omega, 0, Nat.two_pow_pos K, h2⟩
  · have e : d = 0 := by omega
    subst e
    have e2 : v = t := hd.1
    rw [h1, if_pos e2]; rfl
  · rw [h1, if_neg]
    intro e
    exact hc 0 (Or.inl (by omega)) ⟨e, fun i hi => absurd hi (Nat.not_lt_zero i)⟩
/-- a net read by the class -/
theorem read_ok {c : Nat → Int32} {N m n : Nat} {a b : Nat → Nat} (h : NetOK c N m a b) (hn : n = 3 * m + 1) (st en lb wl wn wk : Nat → Int32) : ∃ lb' wl' wn' wk', f_X2_read st en lb wl wn wk c (nI n) = some (nI N, nI (2 * m), sAx c st m, eAx c en m, lb', wl', wn', wk') ∧ WaysOK N (2 * m) (frx a b) (tox a b) wl' wn' wk' := by
  obtain ⟨h2, h6, hm, e, hp, hq⟩ := id h
  obtain ⟨lb0, wl0, wn0, wk0, g1, g2⟩ := forget_ok lb wl wn wk
  have hlb : LbOK N (2 * m) (frx a b) (tox a b) (lAx a b lb0 m) := lb_val h (fun i hi => (g2 i hi).1) m (Nat.le_refl m)
  obtain ⟨⟨o1, o2, o3⟩, g3, g4⟩ := tw_63 (by omega) (net_wf h) hlb (wl0, wn0, wk0) (tw_start h6 g2)
  refine ⟨lAx a b lb0 m, o1, o2, o3, ?_, g4⟩
  unfold f_X2_read
  have hd : f_X4_digitAt c (nI n) 0 = some (Dg c 0) := digit_at (i := 0) (by omega) (by omega)
  have e6 : (if (6 : Int32) < nI N then (6 : Int32) else nI N) = nI N := if_neg (show ¬ nI 6 < nI N from nI_nlt (by omega) (by omega))
  have g3 : f_X2_read_L63 (nI N) (lAx a b lb0 m) 100 wl0 wn0 wk0 1 = some (o1, o2, o3) := g3
  rw [g1]
  simp only [Option.bind_some]
  rw [hd]
  simp only [Option.bind_some]
  rw [e, e6, read20 h hn]
  simp only [Option.bind_some]
  rw [g3]; rfl
