/-! ways and trees, told by both -/
/-- a way as a row of nodes, with its links -/
def PathOK (N K : Nat) (fr to : Nat → Nat) (wn wk : Nat → Int32) (t d : Nat) (P L : Nat → Nat) : Prop := (∀ i, i ≤ d → P i < N ∧ Dst K fr to t (d - i) (P i)) ∧ ∀ i, i < d → L i < K ∧ fr (L i) = P i ∧ to (L i) = P (i + 1) ∧ (∀ j, j < K → fr j = P i → Dst K fr to t (d - (i + 1)) (to j) → P (i + 1) ≤ to j) ∧ wn (6 * P i + t) = nI (P (i + 1)) ∧ wk (6 * P i + t) = wk (6 * P (i + 1) + t) ||| nI (2 ^ L i)
theorem path_ex {N K : Nat} {fr to : Nat → Nat} {wl wn wk : Nat → Int32} (hf : ∀ k, k < K → fr k < N ∧ to k < N) (hW : WaysOK N K fr to wl wn wk) {t : Nat} (ht : t < N) : ∀ d v, v < N → Dst K fr to t d v → ∃ P L : Nat → Nat, P 0 = v ∧ PathOK N K fr to wn wk t d P L := by
  intro d
  induction d with
  | zero =>
    intro v hv h
    exact ⟨fun _ => v, fun _ => 0, rfl, fun i hi => ⟨hv, by rw [show 0 - i = 0 by omega]; exact h⟩, fun i hi => absurd hi (Nat.not_lt_zero i)⟩
  | succ d ih =>
    intro v hv h
    obtain ⟨-, -, -, h4, -⟩ := hW v t hv ht
    obtain ⟨k, hk, hfk, hdk, hmin, hn, hl⟩ := h4 d h
    obtain ⟨P, L, hP0, hP1, hP2⟩ := ih (to k) (hf k hk).2 hdk
    refine ⟨fun i => match i with | 0 => v | i + 1 => P i, fun i => match i with | 0 => k | i + 1 => L i, rfl, fun i hi => ?_, fun i hi => ?_⟩
    · match i, hi with
      | 0, _ => exact ⟨hv, h⟩
      | i + 1, hi =>
        have := hP1 i (by omega)
        exact ⟨this.1, by rw [show d + 1 - (i + 1) = d - i by omega]; exact this.2⟩
    · match i, hi with
      | 0, _ =>
        refine ⟨hk, hfk, hP0.symm, fun j hj hfj hdj => ?_, ?_, ?_⟩
        · show P 0 ≤ to j
          rw [hP0]
          exact hmin j hj hfj (by rw [show d + 1 - (0 + 1) = d by omega] at hdj; exact hdj)
        · show wn (6 * v + t) = nI (P 0)
          rw [hP0]; exact hn
        · show wk (6 * v + t) = wk (6 * P 0 + t) ||| nI (2 ^ k)
          rw [hP0]; exact hl
      | i + 1, hi =>
        obtain ⟨q1, q2, q3, q4, q5, q6⟩ := hP2 i (by omega)
        refine ⟨q1, q2, q3, fun j hj hfj hdj => q4 j hj hfj ?_, q5, q6⟩
        rw [show d + 1 - (i + 1 + 1) = d - (i + 1) by omega] at hdj; exact hdj
/-- the least next node, as the reference seeks it -/
def nbx (fr to w : Nat → Nat) (v : Nat) : Nat → Nat
  | 0 => 6
  | k + 1 => if fr k = v ∧ w (to k) + 1 = w v then (if nbx fr to w v k ≤ to k then nbx fr to w v k else to k) else nbx fr to w v k
theorem nbx_s (fr to w : Nat → Nat) (v k : Nat) : nbx fr to w v (k + 1) = if fr k = v ∧ w (to k) + 1 = w v then (if nbx fr to w v k ≤ to k then nbx fr to w v k else to k) else nbx fr to w v k := rfl
theorem nbx_le (fr to w : Nat → Nat) (v : Nat) : ∀ k, nbx fr to w v k ≤ 6 ∧ (∀ j, j < k → fr j = v → w (to j) + 1 = w v → nbx fr to w v k ≤ to j) ∧ (nbx fr to w v k = 6 ∨ ∃ j, j < k ∧ fr j = v ∧ w (to j) + 1 = w v ∧ nbx fr to w v k = to j)
  | 0 => ⟨Nat.le_refl 6, fun j hj => absurd hj (Nat.not_lt_zero j), Or.inl rfl⟩
  | k + 1 => by
    obtain ⟨h1, h2, h3⟩ := nbx_le fr to w v k
    rw [nbx_s]
    by_cases c : fr k = v ∧ w (to k) + 1 = w v
    · rw [if_pos c]
      by_cases e : nbx fr to w v k ≤ to k
      · rw [if_pos e]
        refine ⟨h1, fun j hj a b => ?_, ?_⟩
        · by_cases q : j = k
          · subst q; exact e
          · exact h2 j (by omega) a b
        · rcases h3 with h3 | ⟨j, q1, q2⟩
          · exact Or.inl h3
          · exact Or.inr ⟨j, by omega, q2⟩
      · rw [if_neg e]
        refine ⟨by omega, fun j hj a b => ?_, Or.inr ⟨k, by omega, c.1, c.2, rfl⟩⟩
        by_cases q : j = k
        · subst q; omega
        · have := h2 j (by omega) a b; omega
    · rw [if_neg c]
      refine ⟨h1, fun j hj a b => ?_, ?_⟩
      · by_cases q : j = k
        · subst q; exact absurd ⟨a, b⟩ c
        · exact h2 j (by omega) a b
      · rcases h3 with h3 | ⟨j, q1, q2⟩
        · exact Or.inl h3
        · exact Or.inr ⟨j, by omega, q2⟩
theorem next_eq {N K : Nat} {fr to : Nat → Nat} {st en lf : Nat → Int32} {w : Nat → Nat} {v : Nat} (hN : N ≤ 6) (hK : K ≤ 16) (hf : ∀ k, k < K → fr k < N ∧ to k < N) (hse : ∀ k, k < K → st k = nI (fr k) ∧ en k = nI (to k)) (hw : ∀ v, v < N → lf v = nI (w v) ∧ w v ≤ 6) (hv : v < N) : f_X6_nextNode (nI K) st en lf (nI v) = some (nI (nbx fr to w v K)) := by
  unfold f_X6_nextNode
  have h := lup (f := fun n s y => f_X6_nextNode_L5 (nI K) st en lf (nI v) n s y) (acc := fun k => nI (nbx fr to w v k)) (K := K) (out := nI (nbx fr to w v K))
    (fun n => by
      show f_X6_nextNode_L5 _ _ _ _ _ _ _ _ = _
      rw [f_X6_nextNode_L5_s, if_pos (nI_le (Nat.le_refl K) (by omega))])
    (fun n k hk => by
      show f_X6_nextNode_L5 _ _ _ _ _ _ _ _ = f_X6_nextNode_L5 _ _ _ _ _ _ _ _
      obtain ⟨hfk, htk⟩ := hf k hk
      have b1 := (hw _ htk).2
      have b2 := (hw _ hv).2
      have b3 := (nbx_le fr to w v k).1
      rw [f_X6_nextNode_L5_s, if_neg (nI_ge hk (by omega)), if_neg (ix_ok (n := 16) (by omega) (by decide)), cl_nI (by omega), (hse k hk).1, (hse k hk).2, if_neg (ix_ok (n := 6) (by omega) (by decide)), if_neg (ix_ok (n := 6) (by omega) (by decide)), cl_nI (by omega), cl_nI (by omega), (hw _ htk).1, (hw _ hv).1, nI_1, nI_1, nbx_s]
      have e1 := nI_eq (a := fr k) (b := v) (by omega) (by omega)
      have e2 := nI_eq (a := w (to k) + 1) (b := w v) (by omega) (by omega)
      have e3 := nI_leI (a := nbx fr to w v k) (b := to k) (by omega) (by omega)
      by_cases c1 : fr k = v
      · rw [if_pos (e1.mpr c1)]
        by_cases c2 : w (to k) + 1 = w v
        · have hc : fr k = v ∧ w (to k) + 1 = w v := ⟨c1, c2⟩
          rw [if_pos (e2.mpr c2)]
          simp only [Option.bind_some, if_neg ne10, if_pos hc]
          by_cases c3 : nbx fr to w v k ≤ to k
          · simp only [if_pos (e3.mpr c3), if_pos c3]
          · simp only [if_neg (fun q => c3 (e3.mp q)), if_neg c3]
        · have hc : ¬ (fr k = v ∧ w (to k) + 1 = w v) := fun q => c2 q.2
          rw [if_neg (fun q => c2 (e2.mp q))]
          simp only [Option.bind_some, if_true, if_neg hc]
      · have hc : ¬ (fr k = v ∧ w (to k) + 1 = w v) := fun q => c1 q.1
        rw [if_neg (fun q => c1 (e1.mp q))]
        simp only [Option.bind_some, if_true, if_neg hc]) 100 0 (by omega) (by omega)
  have h : f_X6_nextNode_L5 (nI K) st en lf (nI v) 100 6 0 = _ := h
  rw [h]; rfl
theorem next_path {N K : Nat} {fr to : Nat → Nat} {wn wk : Nat → Int32} {t d : Nat} {P L w : Nat → Nat} (hN : N ≤ 6) (hf : ∀ k, k < K → fr k < N ∧ to k < N) (hd : ∀ v d, v < N → Dst K fr to t d v → w v = d) (hno : ∀ v, v < N → (∀ d, ¬ Rw K fr to t d v) → w v = 6) (hP : PathOK N K fr to wn wk t d P L) (hd6 : d < 6) {i : Nat} (hi : i < d) : nbx fr to w (P i) K = P (i + 1) := by
  obtain ⟨h1, h2⟩ := hP
  obtain ⟨q1, q2, q3, q4, -, -⟩ := h2 i hi
  have hPi := h1 i (by omega)
  have hPj := h1 (i + 1) (by omega)
  have w1 : w (P i) = d - i := hd _ _ hPi.1 hPi.2
  have w2 : w (P (i + 1)) = d - (i + 1) := hd _ _ hPj.1 hPj.2
  have e5 : d - (i + 1) + 1 = d - i := by omega
  have hlt6 : P (i + 1) < 6 := by have := hPj.1; omega
  obtain ⟨n1, n2, n3⟩ := nbx_le fr to w (P i) K
  have m1 : nbx fr to w (P i) K ≤ P (i + 1) := by
    have := n2 (L i) q1 q2 (by rw [q3, w1, w2]; exact e5)
    rw [q3] at this; exact this
  rcases n3 with n3 | ⟨j, j1, j2, j3, j4⟩
  · omega
  · rw [j4] at m1 ⊢
    have hj : Dst K fr to t (d - (i + 1)) (to j) := by
      rcases Classical.em (∃ e, Rw K fr to t e (to j)) with ⟨e, he⟩ | hn
      · obtain ⟨e', -, he'⟩ := dst_of he
        have := hd _ _ (hf j j1).2 he'
        rw [show d - (i + 1) = e' by omega]
        exact he'
      · have := hno _ (hf j j1).2 (fun e he => hn ⟨e, he⟩)
        omega
    have := q4 j j1 j2 hj
    omega
/-- the reference's way -/
theorem way30 {N K : Nat} {fr to : Nat → Nat} {st en lf wn wk : Nat → Int32} {t d : Nat} {P L w : Nat → Nat} (hN : N ≤ 6) (hK : K ≤ 16) (hf : ∀ k, k < K → fr k < N ∧ to k < N) (hse : ∀ k, k < K → st k = nI (fr k) ∧ en k = nI (to k)) (hw : ∀ v, v < N → lf v = nI (w v) ∧ w v ≤ 6) (hd : ∀ v d, v < N → Dst K fr to t d v → w v = d) (hno : ∀ v, v < N → (∀ d, ¬ Rw K fr to t d v) → w v = 6) (ht : t < N) (hP : PathOK N K fr to wn wk t d P L) (hd6 : d < 6) :
    ∀ j i, i + j = d → ∀ (wa : Nat → Int32) (n : Nat), j + 1 < n → (∀ q, q < i → wa q = nI (P q)) → ∃ wa', f_X6_layWay_L30 (nI K) st en lf (nI t) n (nI i) wa (nI (P i)) 1 = some (nI (d + 1), wa') ∧ ∀ q, q ≤ d → wa' q = nI (P q) := by
  intro j
  induction j with
  | zero =>
    intro i hi wa n hn hwa
    have e : i = d := by omega
    subst e
    have hPi := hP.1 i (Nat.le_refl i)
    have hPt : P i = t := by have := hPi.2.1; rw [Nat.sub_self] at this; exact this
    obtain ⟨n, rfl⟩ : ∃ z, n = z + 1 + 1 := ⟨n - 2, by omega⟩
    refine ⟨upd wa i (nI (P i)), ?_, fun q hq => ?_⟩
    · rw [f_X6_layWay_L30_s, if_neg ne10, if_neg (ix_ok (n := 6) (by omega) (by decide)), cl_nI (by omega), hPt]
      simp only [if_true, Option.bind_some, nI_1]
      rw [f_X6_layWay_L30_s, if_pos rfl]
    · by_cases e : q = i
      · subst e; rw [pk_us]
      · rw [pk_un e]; exact hwa q (by omega)
  | succ j ih =>
    intro i hi wa n hn hwa
    have hPi := hP.1 i (by omega)
    have hne : ¬ P i = t := fun q => by
      have h0 : Rw K fr to t 0 (P i) := q
      exact hPi.2.2 0 (by omega) h0
    have hne2 : ¬ nI (P i) = nI t := fun q => hne ((nI_eq (by omega) (by omega)).mp q)
    obtain ⟨n, rfl⟩ : ∃ z, n = z + 1 := ⟨n - 1, by omega⟩
    obtain ⟨wa', h1, h2⟩ := ih (i + 1) (by omega) (upd wa i (nI (P i))) n (by omega) (fun q hq => by
      by_cases e : q = i
      · subst e; rw [pk_us]
      · rw [pk_un e]; exact hwa q (by omega))
    refine ⟨wa', ?_, h2⟩
    rw [f_X6_layWay_L30_s, if_neg ne10, if_neg (ix_ok (n := 6) (by omega) (by decide)), cl_nI (by omega)]
    simp only [if_neg hne2, if_neg ne10]
    rw [next_eq hN hK hf hse hw hPi.1, next_path hN hf hd hno hP hd6 (by omega), nI_1]
    simp only [Option.bind_some]
    exact h1
theorem lay_way {N K : Nat} {fr to : Nat → Nat} {st en wl wn wk : Nat → Int32} (hwf : WfG N K fr to) (hse : ∀ k, k < K → st k = nI (fr k) ∧ en k = nI (to k)) (hW : WaysOK N K fr to wl wn wk) {f t : Nat} (hfN : f < N) (ht : t < N) (lf wa : Nat → Int32) : ∃ lf' wa' : Nat → Int32, (∃ d P L, d < 6 ∧ P 0 = f ∧ PathOK N K fr to wn wk t d P L ∧ Dst K fr to t d f ∧ f_X6_layWay (nI N) (nI K) st en lf wa (nI f) (nI t) = some (lf', nI (d + 1), wa') ∧ ∀ q, q ≤ d → wa' q = nI (P q)) ∨ ((∀ d, ¬ Rw K fr to t d f) ∧ f_X6_layWay (nI N) (nI K) st en lf wa (nI f) (nI t) = some (lf', 0, wa')) := by
  obtain ⟨hN, hK, hf, hinj⟩ := id hwf
  obtain ⟨lf', h1, w, h2, h3, h4⟩ := left_ok hwf hse ht lf
  have h6 := (h2 f hfN).2
  unfold f_X6_layWay
  rw [h1]
  simp only [Option.bind_some]
  rw [if_neg (ix_ok (n := 6) (by omega) (by decide)), cl_nI (by omega), (h2 f hfN).1]
  rcases Classical.em (∃ e, Rw K fr to t e f) with ⟨e, he⟩ | hn
  · obtain ⟨d, -, hd⟩ := dst_of he
    have hd6 : d < 6 := by have := dst_lt (fun k hk => (hf k hk).2) hfN hd; omega
    obtain ⟨P, L, hP0, hP⟩ := path_ex hf hW ht d f hfN hd
    have hwd := h3 f d hfN hd
    obtain ⟨wa', k1, k2⟩ := way30 hN hK hf hse h2 h3 h4 ht hP hd6 d 0 (by omega) wa 100 (by omega) (fun q hq => absurd hq (Nat.not_lt_zero q))
    rw [hP0] at k1
    have k1 : f_X6_layWay_L30 (nI K) st en lf' (nI t) 100 0 wa (nI f) 1 = _ := k1
    refine ⟨lf', wa', Or.inl ⟨d, P, L, hd6, hP0, hP, hd, ?_, k2⟩⟩
    rw [if_neg (show ¬ (6 : Int32) ≤ nI (w f) from nI_ge (b := 6) (by omega) (by decide)), k1]; rfl
  · have hw6 := h4 f hfN (fun d hd => hn ⟨d, hd⟩)
    refine ⟨lf', wa, Or.inr ⟨fun d hd => hn ⟨d, hd⟩, ?_⟩⟩
    rw [hw6, if_pos (show (6 : Int32) ≤ nI 6 from by decide), show (100 : Nat) = 99 + 1 from rfl, f_X6_layWay_L30_s, if_pos rfl]; rfl
/-- the class's way -/
theorem at_eq (a b : Nat) : f_X2_at (nI a) (nI b) = nI (6 * a + b) := by
  unfold f_X2_at
  rw [show (6 : Int32) = nI 6 from rfl, pk_mul, nI_add]
theorem node44 {N K : Nat} {fr to : Nat → Nat} {wn wk : Nat → Int32} {t d : Nat} {P L : Nat → Nat} (hN : N ≤ 6) (ht : t < N) (hP : PathOK N K fr to wn wk t d P L) {q : Nat} (hq : q ≤ d) (hd6 : d < 6) : f_X2_nodeOnWay_L44 (nI N) wn (nI t) (nI q) 100 (nI (P 0)) 0 = some (nI (P q)) := by
  have h := lup (f := fun n s y => f_X2_nodeOnWay_L44 (nI N) wn (nI t) (nI q) n s y) (acc := fun i => nI (P i)) (K := q) (out := nI (P q))
    (fun n => by
      show f_X2_nodeOnWay_L44 _ _ _ _ _ _ _ = _
      rw [f_X2_nodeOnWay_L44_s, if_pos (nI_le (Nat.le_refl q) (by omega))])
    (fun n i hi => by
      show f_X2_nodeOnWay_L44 _ _ _ _ _ _ _ = f_X2_nodeOnWay_L44 _ _ _ _ _ _ _
      have hPi := (hP.1 i (by omega)).1
      rw [f_X2_nodeOnWay_L44_s, if_neg (nI_ge hi (by omega)), hn_in hPi (by omega), if_neg ne10, at_eq, if_neg (ix_ok (n := 36) (by omega) (by decide)), cl_nI (by omega), (hP.2 i (by omega)).2.2.2.2.1, nI_1]) 100 0 (by omega) (by omega)
  exact h
