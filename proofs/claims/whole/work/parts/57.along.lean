/-! the reference goes along the page -/
def StA (c : Nat → Int32) (i : Nat) (nn np due no : Int32) (nf nt : Nat → Int32) : Prop := (i = 0 → nn = 0 ∧ np = 0 ∧ due = 0) ∧ (i ≠ 0 → nn = Dg c 0 ∧ np = nI ((i - 1) / 3) ∧ due = nI ((i - 1) % 3) ∧ ((i - 1) % 3 = 2 → no = Dg c (i - 1)) ∧ ∀ p, p < (i - 1) / 3 → nf p = Dg c (3 * p + 2) ∧ nt p = Dg c (3 * p + 3))
theorem told_ok {c nf nt : Nat → Int32} {q : Nat} {a b : Int32} (hq : q ≤ 8) (hp : ∀ p, p < q → nf p = Dg c (3 * p + 2) ∧ nt p = Dg c (3 * p + 3)) : ∃ o, f_X6_isTold (nI q) nf nt a b = some o ∧ ((o = 0 ∧ ∀ p, p < q → ¬ Cf c p a b) ∨ (o = 1 ∧ ∃ p, p < q ∧ Cf c p a b)) := by
  have h : ∃ o, f_X6_isTold_L5 (nI q) nf nt a b 100 0 (nI 0) = some o ∧ ((o = 0 ∧ ∀ p, p < q → ¬ Cf c p a b) ∨ (o = 1 ∧ ∃ p, p < q ∧ Cf c p a b)) := by
    have h0 := lupI (f := fun n s y => f_X6_isTold_L5 (nI q) nf nt a b n s y) (I := fun k s => (s = 0 ∧ ∀ p, p < k → ¬ Cf c p a b) ∨ (s = 1 ∧ ∃ p, p < k ∧ Cf c p a b)) (K := q) (P := fun o => (o = 0 ∧ ∀ p, p < q → ¬ Cf c p a b) ∨ (o = 1 ∧ ∃ p, p < q ∧ Cf c p a b))
      (fun n s hI => ⟨s, by
        show f_X6_isTold_L5 _ _ _ _ _ _ _ _ = _
        rw [f_X6_isTold_L5_s, if_pos (nI_le (Nat.le_refl q) (by omega))], hI⟩)
      (fun n k s hk hI => by
        show ∃ s', _ ∧ f_X6_isTold_L5 _ _ _ _ _ _ _ _ = f_X6_isTold_L5 _ _ _ _ _ _ _ _
        obtain ⟨g1, g2⟩ := hp k hk
        rcases hI with ⟨rfl, h1⟩ | ⟨rfl, p, p1, p2⟩
        · rcases Classical.em (Cf c k a b) with e | e
          · refine ⟨1, Or.inr ⟨rfl, k, by omega, e⟩, ?_⟩
            rw [f_X6_isTold_L5_s, if_neg (nI_ge hk (by omega)), if_pos rfl, if_neg (ix_ok (n := 8) (by omega) (by decide)), cl_nI (by omega), g1, g2, nI_1]
            rcases e with ⟨e1, e2⟩ | ⟨e1, e2⟩
            · rw [if_pos e1, if_pos e2]; rfl
            · by_cases q1 : Dg c (3 * k + 2) = a
              · rw [if_pos q1]
                by_cases q2 : Dg c (3 * k + 3) = b
                · rw [if_pos q2]; rfl
                · rw [if_neg q2, if_pos e1, if_pos e2]; rfl
              · rw [if_neg q1, if_pos e1, if_pos e2]; rfl
          · refine ⟨0, Or.inl ⟨rfl, fun p hp => ?_⟩, ?_⟩
            · by_cases z : p = k
              · subst z; exact e
              · exact h1 p (by omega)
            · rw [f_X6_isTold_L5_s, if_neg (nI_ge hk (by omega)), if_pos rfl, if_neg (ix_ok (n := 8) (by omega) (by decide)), cl_nI (by omega), g1, g2, nI_1]
              have r2 : (if Dg c (3 * k + 2) = b then (if Dg c (3 * k + 3) = a then (some 1 : Option Int32) else some 0) else some 0) = some 0 := by
                by_cases q1 : Dg c (3 * k + 2) = b
                · rw [if_pos q1, if_neg (fun q2 => e (Or.inr ⟨q1, q2⟩))]
                · rw [if_neg q1]
              rw [r2]
              by_cases q1 : Dg c (3 * k + 2) = a
              · rw [if_pos q1, if_neg (fun q2 => e (Or.inl ⟨q1, q2⟩))]; rfl
              · rw [if_neg q1]; rfl
        · refine ⟨1, Or.inr ⟨rfl, p, by omega, p2⟩, ?_⟩
          rw [f_X6_isTold_L5_s, if_neg (nI_ge hk (by omega)), if_neg ne10, nI_1]; rfl) 100 0 0 (by omega) (by omega) (Or.inl ⟨rfl, fun p hp => absurd hp (Nat.not_lt_zero p)⟩)
    exact h0
  obtain ⟨o, h1, h2⟩ := h
  refine ⟨o, ?_, h2⟩
  unfold f_X6_isTold
  rw [nI_0] at h1
  rw [h1]
  simp only [Option.bind_some]
  rw [if_neg]
  intro z
  rcases h2 with ⟨rfl, _⟩ | ⟨rfl, _⟩
  · exact z (Or.inl rfl)
  · exact z (Or.inr rfl)
theorem dg_back (c : Nat → Int32) (i : Nat) : c i = Dg c i + 48 := by
  unfold Dg
  rw [Int32.sub_add_cancel]
theorem dg_0 {c : Nat → Int32} (h : Fit c 0) : ∃ N, 2 ≤ N ∧ N ≤ 6 ∧ Dg c 0 = nI N := by
  obtain ⟨h1, h2⟩ := h.1 rfl
  have e2 : (2 : Int32).toInt = 2 := rfl
  have e6 : (6 : Int32).toInt = 6 := rfl
  have e0 : (0 : Int32).toInt = 0 := rfl
  rw [fa_lt] at h1 h2
  obtain ⟨N, hN, e⟩ := nI_of (x := Dg c 0) (by rw [fa_lt]; omega)
  rw [e, nI_toInt hN] at h1 h2
  exact ⟨N, by omega, by omega, e⟩
theorem nd_num {c : Nat → Int32} {N i : Nat} (hN : N ≤ 6) (e : Dg c 0 = nI N) (h : Nd c i) : ∃ d, d < N ∧ Dg c i = nI d := by
  obtain ⟨h1, h2⟩ := h
  obtain ⟨d, hd, e2⟩ := nI_of h1
  refine ⟨d, ?_, e2⟩
  rw [e, e2, fa_le, nI_toInt (by omega), nI_toInt hd] at h2
  omega
theorem nd_in {c : Nat → Int32} {N i : Nat} (hN : N ≤ 6) (e : Dg c 0 = nI N) (h : Nd c i) : f_X6_within (Dg c i) 0 (nI N - 1) = 1 := by
  obtain ⟨d, h1, h2⟩ := nd_num hN e h
  rw [h2]; exact wi_in h1 (by omega)
theorem nd_out {c : Nat → Int32} {N i : Nat} (hN : N ≤ 6) (e : Dg c 0 = nI N) (h : ¬ Nd c i) : f_X6_within (Dg c i) 0 (nI N - 1) = 0 := by
  refine wi_out (by omega) ?_
  rcases Classical.em (Dg c i < 0) with q | q
  · exact Or.inl q
  · rcases Classical.em (nI N ≤ Dg c i) with z | z
    · exact Or.inr z
    · exact absurd ⟨q, by rw [e]; exact z⟩ h
theorem takes_yes {c : Nat → Int32} {i : Nat} (hi : i < 25) (hf : ∀ j, j ≤ i → Fit c j) {nn np due no : Int32} {nf nt : Nat → Int32} (hs : StA c i nn np due no nf nt) : ∃ nn' np' due' no' nf' nt', StA c (i + 1) nn' np' due' no' nf' nt' ∧ f_X6_takes nn np due no nf nt (c i) = some (1, nn', np', due', no', nf', nt') := by
  obtain ⟨N, hN2, hN6, eN⟩ := dg_0 (hf 0 (Nat.zero_le i))
  obtain ⟨s0, s1⟩ := hs
  unfold f_X6_takes
  by_cases h0 : i = 0
  · subst h0
    obtain ⟨rfl, rfl, rfl⟩ := s0 rfl
    have ec : c 0 = nI (N + 48) := by rw [dg_back c 0, eN]; exact nI_add N 48
    have ew : f_X6_within (c 0) 50 54 = 1 := by
      rw [ec]
      exact wi_1 (show ¬ nI (N + 48) < nI 50 from nI_nlt (by omega) (by omega)) (show ¬ nI 54 < nI (N + 48) from nI_nlt (by omega) (by omega))
    refine ⟨Dg c 0, 0, 0, no, nf, nt, ⟨fun z => by omega, fun _ => ⟨rfl, rfl, rfl, fun z => by omega, fun p hp => by omega⟩⟩, ?_⟩
    rw [if_pos rfl, ew, if_neg ne10]
    have hpos : ¬ c 0 - 48 ≤ 0 := by
      show ¬ Dg c 0 ≤ 0
      rw [eN]; exact nI_nle (by omega) (by omega)
    rw [if_neg hpos]; rfl
  · obtain ⟨rfl, rfl, rfl, s2, s3⟩ := s1 h0
    obtain ⟨f0, f1, f2, f3⟩ := hf i (Nat.le_refl i)
    rw [eN, if_neg (nI_ne0 (by omega) (by omega))]
    rcases (show i % 3 = 1 ∨ i % 3 = 2 ∨ i % 3 = 0 by omega) with q | q | q
    · have e0 : (i - 1) % 3 = 0 := by omega
      refine ⟨Dg c 0, nI (i / 3), nI (i % 3), no, nf, nt, ⟨fun z => by omega, fun _ => ⟨rfl, rfl, rfl, fun z => by omega, fun p hp => s3 p (by omega)⟩⟩, ?_⟩
      rw [e0, if_pos nI_0, f1 q]
      have e8 : ¬ (8 : Int32) ≤ nI ((i - 1) / 3) := nI_ge (b := 8) (by omega) (by decide)
      simp only [if_true, if_neg e8, if_neg ne10, Option.bind_some]
      rw [if_neg (fun z => z (Or.inr (by first | trivial | rfl))), q, show (i - 1) / 3 = i / 3 by omega, eN]; rfl
    · have e0 : (i - 1) % 3 = 1 := by omega
      refine ⟨Dg c 0, nI (i / 3), nI (i % 3), Dg c i, nf, nt, ⟨fun z => by omega, fun _ => ⟨rfl, rfl, rfl, fun _ => rfl, fun p hp => s3 p (by omega)⟩⟩, ?_⟩
      rw [e0, if_neg (by decide)]
      unfold f_X6_takesNode
      rw [if_pos (show nI 1 = 1 from rfl), show c i - 48 = Dg c i from rfl, nd_in hN6 eN (f2 q)]
      simp only [Option.bind_some]
      rw [q, show (i - 1) / 3 = i / 3 by omega, eN]; rfl
    · obtain ⟨g1, g2, g3⟩ := f3 h0 q
      have e0 : (i - 1) % 3 = 2 := by omega
      have eno : no = Dg c (i - 1) := s2 e0
      subst eno
      have e13 : i / 3 - 1 = (i - 1) / 3 := by omega
      rw [e13] at g3
      obtain ⟨o, ho1, ho2⟩ := told_ok (c := c) (nf := nf) (nt := nt) (q := (i - 1) / 3) (a := Dg c (i - 1)) (b := Dg c i) (by omega) s3
      have ho : o = 0 := by
        rcases ho2 with ⟨z, _⟩ | ⟨_, p, p1, p2⟩
        · exact z
        · exact absurd p2 (g3 p p1)
      subst ho
      refine ⟨Dg c 0, nI (i / 3), nI (i % 3), Dg c (i - 1), upd nf ((i - 1) / 3) (Dg c (i - 1)), upd nt ((i - 1) / 3) (Dg c i), ⟨fun z => by omega, fun _ => ⟨rfl, rfl, rfl, fun z => by omega, fun p hp => ?_⟩⟩, ?_⟩
      · by_cases z : p = (i - 1) / 3
        · subst z
          rw [pk_us, pk_us, show 3 * ((i - 1) / 3) + 2 = i - 1 by omega, show 3 * ((i - 1) / 3) + 3 = i by omega]
          exact ⟨rfl, rfl⟩
        · rw [pk_un z, pk_un z]; exact s3 p (by omega)
      · rw [e0, if_neg (by decide)]
        unfold f_X6_takesNode
        rw [if_neg (by decide), show c i - 48 = Dg c i from rfl, nd_in hN6 eN g1, if_neg ne10, if_neg (fun z => g2 z.symm), ho1]
        simp only [Option.bind_some, if_true, if_neg ne10]
        rw [if_neg (ix_ok (n := 8) (by omega) (by decide)), if_neg (fun z => z (Or.inr (by first | trivial | rfl))), cl_nI (by omega), nI_1, q, show (i - 1) / 3 + 1 = i / 3 by omega, eN]
        rfl
theorem takes_no {c : Nat → Int32} {i : Nat} (hi : i < 25) (hf : ∀ j, j < i → Fit c j) (hn : ¬ Fit c i) {nn np due no : Int32} {nf nt : Nat → Int32} (hs : StA c i nn np due no nf nt) : ∃ nn' np' due' no' nf' nt', f_X6_takes nn np due no nf nt (c i) = some (0, nn', np', due', no', nf', nt') := by
  obtain ⟨s0, s1⟩ := hs
  unfold f_X6_takes
  by_cases h0 : i = 0
  · subst h0
    obtain ⟨rfl, rfl, rfl⟩ := s0 rfl
    have ew : f_X6_within (c 0) 50 54 = 0 := by
      refine wi_0 ?_
      rcases Classical.em (c 0 < 50) with q1 | q1
      · exact Or.inl q1
      · rcases Classical.em ((54 : Int32) < c 0) with q2 | q2
        · exact Or.inr q2
        · exfalso
          rw [fa_lt] at q1 q2
          have e50 : (50 : Int32).toInt = 50 := rfl
          have e54 : (54 : Int32).toInt = 54 := rfl
          have e0 : (0 : Int32).toInt = 0 := rfl
          obtain ⟨k, hk, ek⟩ := nI_of (x := c 0) (by rw [fa_lt]; omega)
          rw [ek, nI_toInt hk] at q1 q2
          have ed : Dg c 0 = nI (k - 48) := by unfold Dg; rw [ek]; exact pk_sub (b := 48) (by omega)
          refine hn ⟨fun _ => ?_, fun z => by omega, fun z => by omega, fun z => absurd rfl z⟩
          rw [ed]
          exact ⟨show ¬ nI (k - 48) < nI 2 from nI_nlt (by omega) (by omega), show ¬ nI 6 < nI (k - 48) from nI_nlt (by omega) (by omega)⟩
    rw [if_pos rfl, ew, if_pos rfl, if_pos (by decide)]
    exact ⟨_, _, _, _, _, _, rfl⟩
  · obtain ⟨N, hN2, hN6, eN⟩ := dg_0 (hf 0 (by omega))
    obtain ⟨rfl, rfl, rfl, s2, s3⟩ := s1 h0
    rw [eN, if_neg (nI_ne0 (by omega) (by omega))]
    rcases (show i % 3 = 1 ∨ i % 3 = 2 ∨ i % 3 = 0 by omega) with q | q | q
    · have e0 : (i - 1) % 3 = 0 := by omega
      have hc : ¬ c i = 44 := fun z => hn ⟨fun y => absurd y h0, fun _ => z, fun y => by omega, fun _ y => by omega⟩
      rw [e0, if_pos nI_0]
      simp only [if_neg hc, if_true, Option.bind_some]
      rw [if_neg (fun z => z (Or.inl (by first | trivial | rfl)))]
      exact ⟨_, _, _, _, _, _, rfl⟩
    · have e0 : (i - 1) % 3 = 1 := by omega
      have hc : ¬ Nd c i := fun z => hn ⟨fun y => absurd y h0, fun y => by omega, fun _ => z, fun _ y => by omega⟩
      rw [e0, if_neg (by decide)]
      unfold f_X6_takesNode
      rw [if_pos (show nI 1 = 1 from rfl), show c i - 48 = Dg c i from rfl, nd_out hN6 eN hc]
      exact ⟨_, _, _, _, _, _, rfl⟩
    · have e0 : (i - 1) % 3 = 2 := by omega
      have eno : no = Dg c (i - 1) := s2 e0
      subst eno
      have e13 : i / 3 - 1 = (i - 1) / 3 := by omega
      rw [e0, if_neg (by decide)]
      unfold f_X6_takesNode
      rw [if_neg (by decide), show c i - 48 = Dg c i from rfl]
      rcases Classical.em (Nd c i) with g1 | g1
      · rw [nd_in hN6 eN g1, if_neg ne10]
        rcases Classical.em (Dg c i = Dg c (i - 1)) with g2 | g2
        · rw [if_pos g2]
          simp only [Option.bind_some, if_true]
          rw [if_neg (fun z => z (Or.inl (by first | trivial | rfl)))]
          exact ⟨_, _, _, _, _, _, rfl⟩
        · rw [if_neg g2]
          obtain ⟨o, ho1, ho2⟩ := told_ok (c := c) (nf := nf) (nt := nt) (q := (i - 1) / 3) (a := Dg c (i - 1)) (b := Dg c i) (by omega) s3
          have ho : o = 1 := by
            rcases ho2 with ⟨_, z⟩ | ⟨z, _⟩
            · exact absurd ⟨fun y => absurd y h0, fun y => by omega, fun y => by omega, fun _ _ => ⟨g1, fun y => g2 y.symm, fun p hp => by rw [e13] at hp; exact z p hp⟩⟩ hn
            · exact z
          subst ho
          rw [ho1]
          simp only [Option.bind_some, if_neg ne10, if_true]
          rw [if_neg (fun z => z (Or.inl (by first | trivial | rfl)))]
          exact ⟨_, _, _, _, _, _, rfl⟩
      · rw [nd_out hN6 eN g1, if_pos rfl]
        simp only [Option.bind_some, if_true]
        rw [if_neg (fun z => z (Or.inl (by first | trivial | rfl)))]
        exact ⟨_, _, _, _, _, _, rfl⟩
theorem along_eq {c : Nat → Int32} {n e : Nat} (hn : n ≤ 25) (he : e ≤ n) (hf : ∀ j, j < e → Fit c j) (hw : e < n → ¬ Fit c e) (no : Int32) (nf nt : Nat → Int32) : ∃ nn np due no' nf' nt', f_X6_goAlong (nI n) c no nf nt = some (nI e, nn, np, due, no', nf', nt') ∧ (e = n → StA c n nn np due no' nf' nt') := by
  have hx : ∀ (fu : Nat) (s : Int32 × Int32 × Int32 × Int32 × (Nat → Int32) × (Nat → Int32)), StA c e s.1 s.2.1 s.2.2.1 s.2.2.2.1 s.2.2.2.2.1 s.2.2.2.2.2 → ∃ o : Int32 × Int32 × Int32 × Int32 × (Nat → Int32) × (Nat → Int32) × Int32, f_X6_goAlong_L17 (nI n) c (fu + 1) s.1 s.2.1 s.2.2.1 s.2.2.2.1 s.2.2.2.2.1 s.2.2.2.2.2 (nI e) = some o ∧ (o.2.2.2.2.2.2 = nI e ∧ (e = n → StA c n o.1 o.2.1 o.2.2.1 o.2.2.2.1 o.2.2.2.2.1 o.2.2.2.2.2.1)) := by
    intro fu s hs
    by_cases q : e = n
    · refine ⟨(s.1, s.2.1, s.2.2.1, s.2.2.2.1, s.2.2.2.2.1, s.2.2.2.2.2, nI e), ?_, rfl, fun _ => by rw [← q]; exact hs⟩
      rw [f_X6_goAlong_L17_s, if_pos (nI_le (by omega) (by omega))]
    · obtain ⟨a1, a2, a3, a4, a5, a6, ha⟩ := takes_no (by omega) hf (hw (by omega)) hs
      refine ⟨(a1, a2, a3, a4, a5, a6, nI e), ?_, rfl, fun z => absurd z q⟩
      rw [f_X6_goAlong_L17_s, if_neg (nI_ge (by omega) (by omega)), if_neg (ix_ok (n := 25) (by omega) (by decide)), cl_nI (by omega), ha]
      simp only [Option.bind_some, if_true]
  have hs : ∀ (fu k : Nat) (s : Int32 × Int32 × Int32 × Int32 × (Nat → Int32) × (Nat → Int32)), k < e → StA c k s.1 s.2.1 s.2.2.1 s.2.2.2.1 s.2.2.2.2.1 s.2.2.2.2.2 → ∃ s' : Int32 × Int32 × Int32 × Int32 × (Nat → Int32) × (Nat → Int32), StA c (k + 1) s'.1 s'.2.1 s'.2.2.1 s'.2.2.2.1 s'.2.2.2.2.1 s'.2.2.2.2.2 ∧ f_X6_goAlong_L17 (nI n) c (fu + 1) s.1 s.2.1 s.2.2.1 s.2.2.2.1 s.2.2.2.2.1 s.2.2.2.2.2 (nI k) = f_X6_goAlong_L17 (nI n) c fu s'.1 s'.2.1 s'.2.2.1 s'.2.2.2.1 s'.2.2.2.2.1 s'.2.2.2.2.2 (nI (k + 1)) := by
    intro fu k s hk hs
    obtain ⟨a1, a2, a3, a4, a5, a6, h1, ha⟩ := takes_yes (by omega) (fun j hj => hf j (by omega)) hs
    refine ⟨(a1, a2, a3, a4, a5, a6), h1, ?_⟩
    rw [f_X6_goAlong_L17_s, if_neg (nI_ge (by omega) (by omega)), if_neg (ix_ok (n := 25) (by omega) (by decide)), cl_nI (by omega), ha, nI_1]
    simp only [Option.bind_some, if_neg ne10]
  have h := lupI (f := fun fu (s : Int32 × Int32 × Int32 × Int32 × (Nat → Int32) × (Nat → Int32)) y => f_X6_goAlong_L17 (nI n) c fu s.1 s.2.1 s.2.2.1 s.2.2.2.1 s.2.2.2.2.1 s.2.2.2.2.2 y) (I := fun k s => StA c k s.1 s.2.1 s.2.2.1 s.2.2.2.1 s.2.2.2.2.1 s.2.2.2.2.2) (K := e) (P := fun o => o.2.2.2.2.2.2 = nI e ∧ (e = n → StA c n o.1 o.2.1 o.2.2.1 o.2.2.2.1 o.2.2.2.2.1 o.2.2.2.2.2.1)) hx hs 100 0 (0, 0, 0, no, nf, nt) (by omega) (by omega) ⟨fun _ => ⟨rfl, rfl, rfl⟩, fun z => absurd rfl z⟩
  obtain ⟨⟨o1, o2, o3, o4, o5, o6, o7⟩, h1, h2, h3⟩ := h
  have h2 : o7 = nI e := h2
  subst h2
  refine ⟨o1, o2, o3, o4, o5, o6, ?_, h3⟩
  unfold f_X6_goAlong
  have h1 : f_X6_goAlong_L17 (nI n) c 100 0 0 0 no nf nt (nI 0) = some (o1, o2, o3, o4, o5, o6, nI e) := h1
  rw [nI_0] at h1
  rw [h1]; rfl
