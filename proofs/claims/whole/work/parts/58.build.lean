/-! a net read: links, the table of links -/
def sAx (c : Nat → Int32) (s : Nat → Int32) : Nat → Nat → Int32
  | 0 => s
  | p + 1 => upd (upd (sAx c s p) (2 * p) (Dg c (3 * p + 2))) (2 * p + 1) (Dg c (3 * p + 3))
def eAx (c : Nat → Int32) (s : Nat → Int32) : Nat → Nat → Int32
  | 0 => s
  | p + 1 => upd (upd (eAx c s p) (2 * p) (Dg c (3 * p + 3))) (2 * p + 1) (Dg c (3 * p + 2))
def lAx (a b : Nat → Nat) (s : Nat → Int32) : Nat → Nat → Int32
  | 0 => s
  | p + 1 => upd (upd (lAx a b s p) (6 * a p + b p) (nI (2 * p))) (6 * b p + a p) (nI (2 * p + 1))
def frx (a b : Nat → Nat) (k : Nat) : Nat := if k % 2 = 0 then a (k / 2) else b (k / 2)
def tox (a b : Nat → Nat) (k : Nat) : Nat := if k % 2 = 0 then b (k / 2) else a (k / 2)
/-- a page that is a net, as numbers -/
def NetOK (c : Nat → Int32) (N m : Nat) (a b : Nat → Nat) : Prop := 2 ≤ N ∧ N ≤ 6 ∧ m ≤ 8 ∧ Dg c 0 = nI N ∧ (∀ p, p < m → Dg c (3 * p + 2) = nI (a p) ∧ Dg c (3 * p + 3) = nI (b p) ∧ a p < N ∧ b p < N ∧ a p ≠ b p) ∧ ∀ p q, p < q → q < m → ¬ ((a p = a q ∧ b p = b q) ∨ (a p = b q ∧ b p = a q))
theorem net_num {c : Nat → Int32} {m : Nat} (hm : m ≤ 8) (hf : ∀ j, j < 3 * m + 1 → Fit c j) : ∃ N a b, NetOK c N m a b := by
  obtain ⟨N, h2, h6, e⟩ := dg_0 (hf 0 (by omega))
  have hx : ∀ p, ∃ d : Nat × Nat, p < m → Dg c (3 * p + 2) = nI d.1 ∧ Dg c (3 * p + 3) = nI d.2 ∧ d.1 < N ∧ d.2 < N := by
    intro p
    by_cases hp : p < m
    · have f1 := (hf (3 * p + 2) (by omega)).2.2.1 (by omega)
      have f2 := ((hf (3 * p + 3) (by omega)).2.2.2 (by omega) (by omega)).1
      obtain ⟨d1, a1, a2⟩ := nd_num h6 e f1
      obtain ⟨d2, b1, b2⟩ := nd_num h6 e f2
      exact ⟨(d1, d2), fun _ => ⟨a2, b2, a1, b1⟩⟩
    · exact ⟨(0, 0), fun z => absurd z hp⟩
  obtain ⟨F, hF⟩ := Classical.axiomOfChoice hx
  refine ⟨N, fun p => (F p).1, fun p => (F p).2, h2, h6, hm, e, fun p hp => ?_, fun p q hpq hq => ?_⟩
  · obtain ⟨g1, g2, g3, g4⟩ := hF p hp
    refine ⟨g1, g2, g3, g4, fun z => ?_⟩
    have f2 := ((hf (3 * p + 3) (by omega)).2.2.2 (by omega) (by omega)).2.1
    rw [show 3 * p + 3 - 1 = 3 * p + 2 by omega, g1, g2] at f2
    have z : (F p).1 = (F p).2 := z
    exact f2 (by rw [z])
  · intro z
    obtain ⟨g1, g2, g3, g4⟩ := hF p (by omega)
    obtain ⟨k1, k2, k3, k4⟩ := hF q hq
    have f3 := ((hf (3 * q + 3) (by omega)).2.2.2 (by omega) (by omega)).2.2 p (by omega)
    rw [show 3 * q + 3 - 1 = 3 * q + 2 by omega] at f3
    unfold Cf at f3
    rw [g1, g2, k1, k2] at f3
    have z : ((F p).1 = (F q).1 ∧ (F p).2 = (F q).2) ∨ ((F p).1 = (F q).2 ∧ (F p).2 = (F q).1) := z
    rcases z with ⟨z1, z2⟩ | ⟨z1, z2⟩
    · exact f3 (Or.inl ⟨by rw [z1], by rw [z2]⟩)
    · exact f3 (Or.inr ⟨by rw [z1], by rw [z2]⟩)
theorem net_wf {c : Nat → Int32} {N m : Nat} {a b : Nat → Nat} (h : NetOK c N m a b) : WfG N (2 * m) (frx a b) (tox a b) := by
  obtain ⟨h2, h6, hm, e, hp, hq⟩ := h
  refine ⟨h6, by omega, fun k hk => ?_, fun i j hi hj h1 h2 => ?_⟩
  · obtain ⟨-, -, g3, g4, -⟩ := hp (k / 2) (by omega)
    unfold frx tox
    by_cases z : k % 2 = 0
    · rw [if_pos z, if_pos z]; exact ⟨g3, g4⟩
    · rw [if_neg z, if_neg z]; exact ⟨g4, g3⟩
  · unfold frx at h1
    unfold tox at h2
    obtain ⟨-, -, -, -, gi⟩ := hp (i / 2) (by omega)
    obtain ⟨-, -, -, -, gj⟩ := hp (j / 2) (by omega)
    by_cases zi : i % 2 = 0
    · rw [if_pos zi] at h1 h2
      by_cases zj : j % 2 = 0
      · rw [if_pos zj] at h1 h2
        rcases Nat.lt_trichotomy (i / 2) (j / 2) with w | w | w
        · exact absurd (Or.inl ⟨h1, h2⟩) (hq _ _ w (by omega))
        · omega
        · exact absurd (Or.inl ⟨h1.symm, h2.symm⟩) (hq _ _ w (by omega))
      · rw [if_neg zj] at h1 h2
        rcases Nat.lt_trichotomy (i / 2) (j / 2) with w | w | w
        · exact absurd (Or.inr ⟨h1, h2⟩) (hq _ _ w (by omega))
        · rw [w] at h1; exact absurd h1 gj
        · exact absurd (Or.inr ⟨h2.symm, h1.symm⟩) (hq _ _ w (by omega))
    · rw [if_neg zi] at h1 h2
      by_cases zj : j % 2 = 0
      · rw [if_pos zj] at h1 h2
        rcases Nat.lt_trichotomy (i / 2) (j / 2) with w | w | w
        · exact absurd (Or.inr ⟨h2, h1⟩) (hq _ _ w (by omega))
        · rw [w] at h1; exact absurd h1.symm gj
        · exact absurd (Or.inr ⟨h1.symm, h2.symm⟩) (hq _ _ w (by omega))
      · rw [if_neg zj] at h1 h2
        rcases Nat.lt_trichotomy (i / 2) (j / 2) with w | w | w
        · exact absurd (Or.inl ⟨h2, h1⟩) (hq _ _ w (by omega))
        · omega
        · exact absurd (Or.inl ⟨h2.symm, h1.symm⟩) (hq _ _ w (by omega))
theorem se_val {c : Nat → Int32} {N m : Nat} {a b : Nat → Nat} (h : NetOK c N m a b) (s t : Nat → Int32) : ∀ p, p ≤ m → ∀ k, k < 2 * p → sAx c s p k = nI (frx a b k) ∧ eAx c t p k = nI (tox a b k)
  | 0, _, k, hk => by omega
  | p + 1, hp, k, hk => by
    obtain ⟨g1, g2, -, -, -⟩ := h.2.2.2.2.1 p (by omega)
    show upd (upd (sAx c s p) (2 * p) (Dg c (3 * p + 2))) (2 * p + 1) (Dg c (3 * p + 3)) k = _ ∧ upd (upd (eAx c t p) (2 * p) (Dg c (3 * p + 3))) (2 * p + 1) (Dg c (3 * p + 2)) k = _
    by_cases z1 : k = 2 * p + 1
    · subst z1
      unfold frx tox
      rw [pk_us, pk_us, if_neg (by omega), if_neg (by omega), show (2 * p + 1) / 2 = p by omega]
      exact ⟨g2, g1⟩
    · rw [pk_un z1, pk_un z1]
      by_cases z2 : k = 2 * p
      · subst z2
        unfold frx tox
        rw [pk_us, pk_us, if_pos (by omega), if_pos (by omega), show (2 * p) / 2 = p by omega]
        exact ⟨g1, g2⟩
      · rw [pk_un z2, pk_un z2]
        exact se_val h s t p (by omega) k (by omega)
theorem lb_val {c : Nat → Int32} {N m : Nat} {a b : Nat → Nat} (h : NetOK c N m a b) {s : Nat → Int32} (hs : ∀ i, i < 36 → s i = -1) : ∀ p, p ≤ m → ∀ v t, v < N → t < N → (∀ k, k < 2 * p → frx a b k = v → tox a b k = t → lAx a b s p (6 * v + t) = nI k) ∧ ((∀ k, k < 2 * p → ¬ (frx a b k = v ∧ tox a b k = t)) → lAx a b s p (6 * v + t) = -1)
  | 0, _, v, t, hv, ht => ⟨fun k hk => by omega, fun _ => hs _ (by have := h.2.1; omega)⟩
  | p + 1, hp, v, t, hv, ht => by
    have hinj := (net_wf h).2.2.2
    obtain ⟨i1, i2⟩ := lb_val h hs p (by omega) v t hv ht
    obtain ⟨-, -, ga, gb, gn⟩ := h.2.2.2.2.1 p (by omega)
    have h6 := h.2.1
    have e0 : frx a b (2 * p) = a p ∧ tox a b (2 * p) = b p := by unfold frx tox; rw [if_pos (by omega), if_pos (by omega), show (2 * p) / 2 = p by omega]; exact ⟨rfl, rfl⟩
    have e1 : frx a b (2 * p + 1) = b p ∧ tox a b (2 * p + 1) = a p := by unfold frx tox; rw [if_neg (by omega), if_neg (by omega), show (2 * p + 1) / 2 = p by omega]; exact ⟨rfl, rfl⟩
    show (∀ k, k < 2 * (p + 1) → frx a b k = v → tox a b k = t → upd (upd (lAx a b s p) (6 * a p + b p) (nI (2 * p))) (6 * b p + a p) (nI (2 * p + 1)) (6 * v + t) = nI k) ∧ ((∀ k, k < 2 * (p + 1) → ¬ (frx a b k = v ∧ tox a b k = t)) → upd (upd (lAx a b s p) (6 * a p + b p) (nI (2 * p))) (6 * b p + a p) (nI (2 * p + 1)) (6 * v + t) = -1)
    by_cases z1 : v = b p ∧ t = a p
    · obtain ⟨z1, z2⟩ := z1
      subst z1 z2
      rw [pk_us]
      refine ⟨fun k hk q1 q2 => ?_, fun q => absurd e1 (q (2 * p + 1) (by omega))⟩
      rw [hinj k (2 * p + 1) (by omega) (by omega) (q1.trans e1.1.symm) (q2.trans e1.2.symm)]
    · rw [pk_un (show ¬ 6 * v + t = 6 * b p + a p by omega)]
      by_cases z2 : v = a p ∧ t = b p
      · obtain ⟨z2, z3⟩ := z2
        subst z2 z3
        rw [pk_us]
        refine ⟨fun k hk q1 q2 => ?_, fun q => absurd e0 (q (2 * p) (by omega))⟩
        rw [hinj k (2 * p) (by omega) (by omega) (q1.trans e0.1.symm) (q2.trans e0.2.symm)]
      · rw [pk_un (show ¬ 6 * v + t = 6 * a p + b p by omega)]
        refine ⟨fun k hk q1 q2 => ?_, fun q => i2 (fun k hk => q k (by omega))⟩
        by_cases w1 : k = 2 * p + 1
        · subst w1; exact absurd ⟨q1.symm.trans e1.1, q2.symm.trans e1.2⟩ z1
        · by_cases w2 : k = 2 * p
          · subst w2; exact absurd ⟨q1.symm.trans e0.1, q2.symm.trans e0.2⟩ z2
          · exact i1 k (by omega) q1 q2
theorem add_eq {N L x y : Nat} {st en lb : Nat → Int32} (hN : N ≤ 6) (hL : L < 16) (hx : x < N) (hy : y < N) : f_X2_addLink (nI N) (nI L) st en lb (nI x) (nI y) = some (nI (L + 1), upd st L (nI x), upd en L (nI y), upd lb (6 * x + y) (nI L)) := by
  unfold f_X2_addLink
  rw [if_neg (show ¬ (16 : Int32) ≤ nI L from nI_ge (b := 16) hL (by decide)), hn_in hx (by omega), if_neg ne10, hn_in hy (by omega), if_neg ne10, if_neg (ix_ok hL (by decide)), at_eq, if_neg (ix_ok (n := 36) (by omega) (by decide)), cl_nI (by omega), cl_nI (by omega), nI_1]
theorem pairs_eq {n m : Nat} (hn : n = 3 * m + 1) (hm : m ≤ 8) : f_X4_pairCount (nI n) = nI m := by
  unfold f_X4_pairCount
  rw [show nI n - 1 = nI (n - 1) from pk_sub (b := 1) (by omega), show (3 : Int32) = nI 3 from rfl, pk_div (by omega) (by omega) (by omega)]
  congr 1
  omega
theorem read20 {c : Nat → Int32} {N m n : Nat} {a b : Nat → Nat} (h : NetOK c N m a b) (hn : n = 3 * m + 1) (st en lb : Nat → Int32) : f_X2_read_L20 (nI N) c (nI n) 100 0 st en lb 0 = some (nI (2 * m), sAx c st m, eAx c en m, lAx a b lb m) := by
  obtain ⟨h2, h6, hm, e, hp, hq⟩ := h
  have hh := lup (f := fun fu (s : Int32 × (Nat → Int32) × (Nat → Int32) × (Nat → Int32)) y => f_X2_read_L20 (nI N) c (nI n) fu s.1 s.2.1 s.2.2.1 s.2.2.2 y) (acc := fun p => (nI (2 * p), sAx c st p, eAx c en p, lAx a b lb p)) (K := m) (out := (nI (2 * m), sAx c st m, eAx c en m, lAx a b lb m))
    (fun fu => by
      show f_X2_read_L20 _ _ _ _ _ _ _ _ _ = _
      rw [f_X2_read_L20_s, pairs_eq hn hm, if_pos (nI_le (Nat.le_refl m) (by omega))])
    (fun fu p hpm => by
      show f_X2_read_L20 _ _ _ _ _ _ _ _ _ = f_X2_read_L20 _ _ _ _ _ _ _ _ _
      obtain ⟨g1, g2, g3, g4, g5⟩ := hp p hpm
      rw [f_X2_read_L20_s, pairs_eq hn hm, if_neg (nI_ge hpm (by omega)), pair_1 (by omega) (by omega), pair_2 (by omega) (by omega), g1, g2, nI_1]
      simp only [Option.bind_some]
      rw [add_eq h6 (by omega) g3 g4]
      simp only [Option.bind_some]
      rw [add_eq h6 (by omega) g4 g3]
      simp only [Option.bind_some]
      show f_X2_read_L20 _ _ _ _ _ _ _ _ _ = f_X2_read_L20 (nI N) c (nI n) fu (nI (2 * (p + 1))) (upd (upd (sAx c st p) (2 * p) (Dg c (3 * p + 2))) (2 * p + 1) (Dg c (3 * p + 3))) (upd (upd (eAx c en p) (2 * p) (Dg c (3 * p + 3))) (2 * p + 1) (Dg c (3 * p + 2))) (upd (upd (lAx a b lb p) (6 * a p + b p) (nI (2 * p))) (6 * b p + a p) (nI (2 * p + 1))) (nI (p + 1))
      rw [g1, g2, show 2 * p + 1 + 1 = 2 * (p + 1) by omega]) 100 0 (by omega) (by omega)
  have hh : f_X2_read_L20 (nI N) c (nI n) 100 (nI 0) st en lb (nI 0) = _ := hh
  rw [nI_0] at hh
  exact hh
/-- the reference's links -/
theorem net49 {c : Nat → Int32} {N m : Nat} {a b : Nat → Nat} (h : NetOK c N m a b) {nf nt : Nat → Int32} (hp : ∀ p, p < m → nf p = Dg c (3 * p + 2) ∧ nt p = Dg c (3 * p + 3)) (st en : Nat → Int32) : f_X6_net_L49 (nI m) nf nt 100 st en 0 = some (sAx c st m, eAx c en m) := by
  obtain ⟨h2, h6, hm, e, -, -⟩ := h
  have hh := lup (f := fun fu (s : (Nat → Int32) × (Nat → Int32)) y => f_X6_net_L49 (nI m) nf nt fu s.1 s.2 y) (acc := fun p => (sAx c st p, eAx c en p)) (K := m) (out := (sAx c st m, eAx c en m))
    (fun fu => by
      show f_X6_net_L49 _ _ _ _ _ _ _ = _
      rw [f_X6_net_L49_s, if_pos (nI_le (Nat.le_refl m) (by omega))])
    (fun fu p hpm => by
      show f_X6_net_L49 _ _ _ _ _ _ _ = f_X6_net_L49 _ _ _ _ _ _ _
      have e1 : (2 : Int32) * nI p = nI (2 * p) := by rw [show (2 : Int32) = nI 2 from rfl, pk_mul]
      rw [f_X6_net_L49_s, if_neg (nI_ge hpm (by omega)), if_neg (ix_ok (n := 8) (by omega) (by decide)), e1, nI_1, if_neg (ix_ok (n := 16) (by omega) (by decide)), if_neg (ix_ok (n := 16) (by omega) (by decide)), cl_nI (by omega), cl_nI (by omega), cl_nI (by omega), (hp p hpm).1, (hp p hpm).2, nI_1]
      rfl) 100 0 (by omega) (by omega)
  exact hh
theorem net125 (bn : Nat → Int32) : f_X6_net_L125 100 bn 0 = some (upd (upd (upd (upd bn 0 0) 1 0) 2 0) 3 0) := by
  have h := lup (f := fun n s x => f_X6_net_L125 n s x) (acc := fun k => match k with | 0 => bn | 1 => upd bn 0 0 | 2 => upd (upd bn 0 0) 1 0 | 3 => upd (upd (upd bn 0 0) 1 0) 2 0 | _ => upd (upd (upd (upd bn 0 0) 1 0) 2 0) 3 0) (K := 4) (out := upd (upd (upd (upd bn 0 0) 1 0) 2 0) 3 0)
    (fun n => by rw [f_X6_net_L125_s]; exact if_pos (by decide))
    (fun n k hk => by
      show f_X6_net_L125 _ _ _ = _
      rw [f_X6_net_L125_s, if_neg (show ¬ (4 : Int32) ≤ nI k from nI_ge (b := 4) hk (by decide)), if_neg (ix_ok hk (by decide)), cl_nI (by omega), nI_1]
      rcases (show k = 0 ∨ k = 1 ∨ k = 2 ∨ k = 3 by omega) with rfl | rfl | rfl | rfl <;> rfl) 100 0 (by omega) (by omega)
  exact h
def FGx (r : Nat) (s : (Nat → Int32) × (Nat → Int32) × (Nat → Int32) × (Nat → Int32)) : Prop := ∀ i, i < r → s.1 i = -1 ∧ s.2.1 i = (if i / 6 = i % 6 then 0 else -1) ∧ s.2.2.1 i = -1 ∧ s.2.2.2 i = 0
theorem forget20 {v : Nat} (hv : v < 6) (s : (Nat → Int32) × (Nat → Int32) × (Nat → Int32) × (Nat → Int32)) (hs : FGx (6 * v) s) : ∃ o, f_X2_forget_L20 (nI v) 100 s.1 s.2.1 s.2.2.1 s.2.2.2 0 = some o ∧ FGx (6 * (v + 1)) o := by
  have h := lupI (f := fun fu (s : (Nat → Int32) × (Nat → Int32) × (Nat → Int32) × (Nat → Int32)) y => f_X2_forget_L20 (nI v) fu s.1 s.2.1 s.2.2.1 s.2.2.2 y) (I := fun t s => FGx (6 * v + t) s) (K := 6) (P := fun o => FGx (6 * (v + 1)) o)
    (fun fu s hI => ⟨s, by
      show f_X2_forget_L20 _ _ _ _ _ _ _ = _
      rw [f_X2_forget_L20_s, if_pos (by decide)], by rw [show 6 * (v + 1) = 6 * v + 6 by omega]; exact hI⟩)
    (fun fu t s ht hI => by
      refine ⟨(upd s.1 (6 * v + t) (-1), upd s.2.1 (6 * v + t) (if v = t then 0 else -1), upd s.2.2.1 (6 * v + t) (-1), upd s.2.2.2 (6 * v + t) 0), fun i hi => ?_, ?_⟩
      · show upd s.1 (6 * v + t) (-1) i = -1 ∧ upd s.2.1 (6 * v + t) (if v = t then 0 else -1) i = _ ∧ upd s.2.2.1 (6 * v + t) (-1) i = -1 ∧ upd s.2.2.2 (6 * v + t) 0 i = 0
        by_cases e : i = 6 * v + t
        · subst e
          rw [pk_us, pk_us, pk_us, pk_us, show (6 * v + t) / 6 = v by omega, show (6 * v + t) % 6 = t by omega]
          exact ⟨rfl, rfl, rfl, rfl⟩
        · rw [pk_un e, pk_un e, pk_un e, pk_un e]
          exact hI i (by omega)
      · show f_X2_forget_L20 _ _ _ _ _ _ _ = f_X2_forget_L20 _ _ _ _ _ _ _
        rw [f_X2_forget_L20_s, if_neg (show ¬ (6 : Int32) ≤ nI t from nI_ge (b := 6) ht (by decide)), at_eq, if_neg (ix_ok (n := 36) (by omega) (by decide)), cl_nI (by omega), nI_1]
        have e := nI_eq (a := v) (b := t) (by omega) (by omega)
        by_cases q : v = t
        · rw [if_pos (e.mpr q), if_pos q]
        · rw [if_neg (fun z => q (e.mp z)), if_neg q]) 100 0 s (by omega) (by omega) hs
  exact h
theorem forget_ok (lb wl wn wk : Nat → Int32) : ∃ lb' wl' wn' wk', f_X2_forget lb wl wn wk = some (0, 0, lb', wl', wn', wk') ∧ FGx 36 (lb', wl', wn', wk') := by
  have h := lupI (f := fun fu (s : (Nat → Int32) × (Nat → Int32) × (Nat → Int32) × (Nat → Int32)) y => f_X2_forget_L12 fu s.1 s.2.1 s.2.2.1 s.2.2.2 y) (I := fun v s => FGx (6 * v) s) (K := 6) (P := fun o => FGx 36 o)
    (fun fu s hI => ⟨s, by
      show f_X2_forget_L12 _ _ _ _ _ _ = _
      rw [f_X2_forget_L12_s, if_pos (by decide)], hI⟩)
    (fun fu v s hv hI => by
      obtain ⟨o, h1, h2⟩ := forget20 hv s hI
      refine ⟨o, h2, ?_⟩
      show f_X2_forget_L12 _ _ _ _ _ _ = f_X2_forget_L12 _ _ _ _ _ _
      rw [f_X2_forget_L12_s, if_neg (show ¬ (6 : Int32) ≤ nI v from nI_ge (b := 6) hv (by decide)), h1, nI_1]
      rfl) 100 0 (lb, wl, wn, wk) (by omega) (by omega) (fun i hi => by omega)
  obtain ⟨⟨o1, o2, o3, o4⟩, h1, h2⟩ := h
  refine ⟨o1, o2, o3, o4, ?_, h2⟩
  unfold f_X2_forget
  have h1 : f_X2_forget_L12 100 lb wl wn wk (nI 0) = some (o1, o2, o3, o4) := h1
  rw [nI_0] at h1
  rw [h1]; rfl
