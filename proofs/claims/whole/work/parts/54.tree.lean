/-! trees; sets of nodes -/
theorem lup1 {σ ρ : Type} {f : Nat → σ → Int32 → Option ρ} {acc : Nat → σ} {k0 K : Nat} {out : ρ} (hx : ∀ n, f (n + 1) (acc K) (nI K) = some out) (hs : ∀ n k, k0 ≤ k → k < K → f (n + 1) (acc k) (nI k) = f n (acc (k + 1)) (nI (k + 1))) : ∀ n k, k0 ≤ k → k ≤ K → K - k < n → f n (acc k) (nI k) = some out := by
  intro n
  induction n with
  | zero => intro k _ _ h; omega
  | succ n ih =>
    intro k h0 hk hn
    by_cases e : k = K
    · subst e; exact hx n
    · rw [hs n k h0 (by omega)]; exact ih (k + 1) (by omega) (by omega) (by omega)
theorem or3 (a b c : Int32) : (a ||| b) ||| c = a ||| (c ||| b) := b_ext (fun i hi => by
  simp only [b_or]
  cases bt a i <;> cases bt b i <;> cases bt c i <;> rfl)
theorem orz32 (a : Int32) : a ||| 0 = a := b_ext (fun i hi => by
  simp only [b_or, b_0]
  cases bt a i <;> rfl)
theorem link_from {N K : Nat} {fr to : Nat → Nat} {st en : Nat → Int32} (hwf : WfG N K fr to) (hse : ∀ k, k < K → st k = nI (fr k) ∧ en k = nI (to k)) {k : Nat} (hk : k < K) : f_X6_linkFrom (nI K) st en (nI (fr k)) (nI (to k)) = some (nI k) := by
  obtain ⟨hN, hK, hf, hinj⟩ := hwf
  unfold f_X6_linkFrom
  have h := lup (f := fun n s y => f_X6_linkFrom_L5 (nI K) st en (nI (fr k)) (nI (to k)) n s y) (acc := fun i => if k < i then nI k else -1) (K := K) (out := nI k)
    (fun n => by
      show f_X6_linkFrom_L5 _ _ _ _ _ _ _ _ = _
      rw [f_X6_linkFrom_L5_s, if_pos (nI_le (Nat.le_refl K) (by omega)), if_pos hk])
    (fun n i hi => by
      show f_X6_linkFrom_L5 _ _ _ _ _ _ _ _ = f_X6_linkFrom_L5 _ _ _ _ _ _ _ _
      have b1 := hf k hk
      have b2 := hf i hi
      rw [f_X6_linkFrom_L5_s, if_neg (nI_ge hi (by omega)), if_neg (ix_ok (n := 16) (by omega) (by decide)), cl_nI (by omega), (hse i hi).1, (hse i hi).2, nI_1]
      have e1 := nI_eq (a := fr i) (b := fr k) (by omega) (by omega)
      have e2 := nI_eq (a := to i) (b := to k) (by omega) (by omega)
      have key : (if nI (fr i) = nI (fr k) then (if nI (to i) = nI (to k) then nI i else (if k < i then nI k else (-1 : Int32))) else (if k < i then nI k else (-1 : Int32))) = if k < i + 1 then nI k else (-1 : Int32) := by
        by_cases c : i = k
        · subst c
          rw [if_pos rfl, if_pos rfl, if_pos (by omega)]
        · have hn : ¬ (fr i = fr k ∧ to i = to k) := fun q => c (hinj i k hi hk q.1 q.2)
          have hsame : (if k < i then nI k else (-1 : Int32)) = if k < i + 1 then nI k else -1 := by
            by_cases q : k < i
            · rw [if_pos q, if_pos (by omega)]
            · rw [if_neg q, if_neg (by omega)]
          rw [← hsame]
          by_cases c1 : fr i = fr k
          · rw [if_pos (e1.mpr c1), if_neg (fun q => hn ⟨c1, e2.mp q⟩)]
          · rw [if_neg (fun q => c1 (e1.mp q))]
      rw [key]) 100 0 (by omega) (by omega)
  have h : f_X6_linkFrom_L5 (nI K) st en (nI (fr k)) (nI (to k)) 100 (-1) 0 = _ := h
  rw [h]; rfl
def qor (L : Nat → Nat) (b0 : Int32) : Nat → Int32
  | 0 => b0
  | i + 1 => qor L b0 i ||| nI (2 ^ L i)
theorem qor_wk {N K : Nat} {fr to : Nat → Nat} {wn wk : Nat → Int32} {t d : Nat} {P L : Nat → Nat} (hP : PathOK N K fr to wn wk t d P L) (b0 : Int32) : ∀ i, i ≤ d → qor L b0 i ||| wk (6 * P i + t) = b0 ||| wk (6 * P 0 + t)
  | 0, _ => rfl
  | i + 1, hi => by
    have h := qor_wk hP b0 i (by omega)
    rw [(hP.2 i (by omega)).2.2.2.2.2] at h
    rw [← h]
    show (qor L b0 i ||| nI (2 ^ L i)) ||| _ = _
    rw [or3]
theorem tree33 {N K : Nat} {fr to : Nat → Nat} {st en wn wk wa : Nat → Int32} {t d : Nat} {P L : Nat → Nat} (hwf : WfG N K fr to) (hse : ∀ k, k < K → st k = nI (fr k) ∧ en k = nI (to k)) (hP : PathOK N K fr to wn wk t d P L) (hd6 : d < 6) (hwa : ∀ q, q ≤ d → wa q = nI (P q)) (hz : wk (6 * t + t) = 0) (b0 : Int32) : f_X6_treeOf_L33 (nI K) st en (nI (d + 1)) wa 100 b0 1 = some (b0 ||| wk (6 * P 0 + t)) := by
  have hK := hwf.2.1
  have hPt : P d = t := by have := (hP.1 d (Nat.le_refl d)).2.1; rw [Nat.sub_self] at this; exact this
  have hfin : qor L b0 d = b0 ||| wk (6 * P 0 + t) := by
    have := qor_wk hP b0 d (Nat.le_refl d)
    rw [hPt, hz, orz32] at this
    exact this
  have h := lup1 (f := fun n s y => f_X6_treeOf_L33 (nI K) st en (nI (d + 1)) wa n s y) (acc := fun i => qor L b0 (i - 1)) (k0 := 1) (K := d + 1) (out := b0 ||| wk (6 * P 0 + t))
    (fun n => by
      show f_X6_treeOf_L33 _ _ _ _ _ _ _ _ = _
      rw [f_X6_treeOf_L33_s, if_pos (nI_le (Nat.le_refl _) (by omega)), Nat.add_sub_cancel, hfin])
    (fun n i h1 hi => by
      show f_X6_treeOf_L33 _ _ _ _ _ _ _ _ = f_X6_treeOf_L33 _ _ _ _ _ _ _ _
      obtain ⟨i, rfl⟩ : ∃ z, i = z + 1 := ⟨i - 1, by omega⟩
      obtain ⟨q1, q2, q3, -, -, -⟩ := hP.2 i (by omega)
      rw [f_X6_treeOf_L33_s, if_neg (nI_ge hi (by omega)), nI_pred, if_neg (ix_ok (n := 6) (by omega) (by decide)), if_neg (ix_ok (n := 6) (by omega) (by decide)), cl_nI (by omega), cl_nI (by omega), hwa i (by omega), hwa (i + 1) (by omega), ← q2, ← q3, link_from hwf hse q1, nI_1]
      simp only [Option.bind_some, Nat.add_sub_cancel]
      rw [shl1 (by omega)]
      rfl) 100 1 (by omega) (by omega) (by omega)
  exact h
def tqx (wk : Nat → Int32) (f : Nat) (x : Int32) : Nat → Int32
  | 0 => 0
  | k + 1 => if (x >>> (nI k &&& 31)) &&& 1 = 0 then tqx wk f x k else tqx wk f x k ||| wk (6 * f + k)
theorem tqx_s (wk : Nat → Int32) (f : Nat) (x : Int32) (k : Nat) : tqx wk f x (k + 1) = if (x >>> (nI k &&& 31)) &&& 1 = 0 then tqx wk f x k else tqx wk f x k ||| wk (6 * f + k) := rfl
theorem tqx_lt {N K : Nat} {wk : Nat → Int32} {f : Nat} {x : Int32} (h : ∀ t, t < N → ∃ m, m < 2 ^ K ∧ wk (6 * f + t) = nI m) : ∀ k, k ≤ N → ∃ m, m < 2 ^ K ∧ tqx wk f x k = nI m
  | 0, _ => ⟨0, Nat.two_pow_pos K, rfl⟩
  | k + 1, hk => by
    obtain ⟨m, h1, h2⟩ := tqx_lt (x := x) h k (by omega)
    obtain ⟨m2, h3, h4⟩ := h k (by omega)
    rw [tqx_s]
    by_cases c : (x >>> (nI k &&& 31)) &&& 1 = 0
    · rw [if_pos c]; exact ⟨m, h1, h2⟩
    · rw [if_neg c]; exact ⟨m ||| m2, Nat.or_lt_two_pow h1 h3, by rw [h2, h4, fa_or]⟩
theorem tree_x {N : Nat} {wk : Nat → Int32} {f : Nat} (hN : N ≤ 6) (hf : f < N) (x : Int32) : f_X2_treeLinks (nI N) wk (nI f) x = some (tqx wk f x N) := by
  unfold f_X2_treeLinks
  rw [hn_in hf (by omega), if_neg ne10]
  have h := lup (f := fun n s y => f_X2_treeLinks_L15 (nI N) wk (nI f) x n s y) (acc := tqx wk f x) (K := N) (out := tqx wk f x N)
    (fun n => by
      show f_X2_treeLinks_L15 _ _ _ _ _ _ _ = _
      rw [f_X2_treeLinks_L15_s, if_pos (nI_le (Nat.le_refl N) (by omega))])
    (fun n k hk => by
      show f_X2_treeLinks_L15 _ _ _ _ _ _ _ = f_X2_treeLinks_L15 _ _ _ _ _ _ _
      rw [f_X2_treeLinks_L15_s, if_neg (nI_ge hk (by omega)), at_eq, if_neg (ix_ok (n := 36) (by omega) (by decide)), cl_nI (by omega), nI_1, tqx_s]
      by_cases c : (x >>> (nI k &&& 31)) &&& 1 = 0
      · simp only [if_pos c, Option.bind_some]
      · simp only [if_neg c, Option.bind_some]) 100 0 (by omega) (by omega)
  have h : f_X2_treeLinks_L15 (nI N) wk (nI f) x 100 0 0 = _ := h
  rw [h]; rfl
theorem tree_m {N K : Nat} {fr to : Nat → Nat} {st en wl wn wk : Nat → Int32} (hwf : WfG N K fr to) (hse : ∀ k, k < K → st k = nI (fr k) ∧ en k = nI (to k)) (hW : WaysOK N K fr to wl wn wk) {f : Nat} (hfN : f < N) (x : Int32) (lf wa : Nat → Int32) (wm : Int32) : ∃ lf' wm' wa', f_X6_treeOf (nI N) (nI K) st en lf wm wa (nI f) x = some (tqx wk f x N, lf', wm', wa') := by
  have hN := hwf.1
  have h : ∃ o : (Nat → Int32) × Int32 × (Nat → Int32) × Int32, f_X6_treeOf_L5 (nI N) (nI K) st en (nI f) x 100 lf wm wa 0 (nI 0) = some o ∧ o.2.2.2 = tqx wk f x N := by
    have hx : ∀ (n : Nat) (s : (Nat → Int32) × Int32 × (Nat → Int32) × Int32), s.2.2.2 = tqx wk f x N → ∃ o, f_X6_treeOf_L5 (nI N) (nI K) st en (nI f) x (n + 1) s.1 s.2.1 s.2.2.1 s.2.2.2 (nI N) = some o ∧ o.2.2.2 = tqx wk f x N := by
      intro n s hI
      refine ⟨s, ?_, hI⟩
      show f_X6_treeOf_L5 _ _ _ _ _ _ _ _ _ _ _ _ = _
      rw [f_X6_treeOf_L5_s, if_pos (nI_le (Nat.le_refl N) (by omega))]
    have hs : ∀ (n k : Nat) (s : (Nat → Int32) × Int32 × (Nat → Int32) × Int32), k < N → s.2.2.2 = tqx wk f x k → ∃ s' : (Nat → Int32) × Int32 × (Nat → Int32) × Int32, s'.2.2.2 = tqx wk f x (k + 1) ∧ f_X6_treeOf_L5 (nI N) (nI K) st en (nI f) x (n + 1) s.1 s.2.1 s.2.2.1 s.2.2.2 (nI k) = f_X6_treeOf_L5 (nI N) (nI K) st en (nI f) x n s'.1 s'.2.1 s'.2.2.1 s'.2.2.2 (nI (k + 1)) := by
      intro n k s hk hI
      obtain ⟨s1, s2, s3, s4⟩ := s
      have hI : s4 = tqx wk f x k := hI
      subst hI
      by_cases c : (x >>> (nI k &&& 31)) &&& 1 = 0
      · refine ⟨(s1, s2, s3, tqx wk f x k), ?_, ?_⟩
        · show tqx wk f x k = tqx wk f x (k + 1)
          rw [tqx_s, if_pos c]
        · show f_X6_treeOf_L5 _ _ _ _ _ _ _ _ _ _ _ _ = f_X6_treeOf_L5 _ _ _ _ _ _ _ _ _ _ _ _
          rw [f_X6_treeOf_L5_s, if_neg (nI_ge hk (by omega)), has_eq, if_pos c, nI_1]; rfl
      · obtain ⟨lf', wa', hcase⟩ := lay_way hwf hse hW hfN hk s1 s3
        have hz : wk (6 * k + k) = 0 := (hW k k hk hk).2.2.1 rfl
        rcases hcase with ⟨d, P, L, hd6, hP0, hP, hd, hlw, hwa⟩ | ⟨hno, hlw⟩
        · refine ⟨(lf', nI (d + 1), wa', tqx wk f x k ||| wk (6 * f + k)), ?_, ?_⟩
          · show tqx wk f x k ||| wk (6 * f + k) = tqx wk f x (k + 1)
            rw [tqx_s, if_neg c]
          · show f_X6_treeOf_L5 _ _ _ _ _ _ _ _ _ _ _ _ = f_X6_treeOf_L5 _ _ _ _ _ _ _ _ _ _ _ _
            rw [f_X6_treeOf_L5_s, if_neg (nI_ge hk (by omega)), has_eq, if_neg c, hlw, nI_1]
            simp only [Option.bind_some]
            rw [tree33 hwf hse hP hd6 hwa hz, hP0]; rfl
        · refine ⟨(lf', 0, wa', tqx wk f x k), ?_, ?_⟩
          · show tqx wk f x k = tqx wk f x (k + 1)
            rw [tqx_s, if_neg c, ((hW f k hfN hk).2.1 hno).2, orz32]
          · show f_X6_treeOf_L5 _ _ _ _ _ _ _ _ _ _ _ _ = f_X6_treeOf_L5 _ _ _ _ _ _ _ _ _ _ _ _
            rw [f_X6_treeOf_L5_s, if_neg (nI_ge hk (by omega)), has_eq, if_neg c, hlw, nI_1]
            simp only [Option.bind_some]
            rw [show (100 : Nat) = 99 + 1 from rfl, f_X6_treeOf_L33_s, if_pos (by decide)]; rfl
    have h0 := lupI (f := (fun (n : Nat) (s : (Nat → Int32) × Int32 × (Nat → Int32) × Int32) (y : Int32) => f_X6_treeOf_L5 (nI N) (nI K) st en (nI f) x n s.1 s.2.1 s.2.2.1 s.2.2.2 y)) (I := fun k s => s.2.2.2 = tqx wk f x k) (K := N) (P := fun o => o.2.2.2 = tqx wk f x N) hx hs 100 0 (lf, wm, wa, 0) (by omega) (by omega) rfl
    exact h0
  obtain ⟨⟨o1, o2, o3, o4⟩, h1, h2⟩ := h
  have h2 : o4 = tqx wk f x N := h2
  subst h2
  refine ⟨o1, o2, o3, ?_⟩
  unfold f_X6_treeOf
  rw [nI_0] at h1
  rw [h1]; rfl
theorem tree_ok {N K : Nat} {fr to : Nat → Nat} {st en wl wn wk : Nat → Int32} (hwf : WfG N K fr to) (hse : ∀ k, k < K → st k = nI (fr k) ∧ en k = nI (to k)) (hW : WaysOK N K fr to wl wn wk) {f : Nat} (hfN : f < N) (x : Int32) (lf wa : Nat → Int32) (wm : Int32) : ∃ tm, tm < 2 ^ K ∧ f_X2_treeLinks (nI N) wk (nI f) x = some (nI tm) ∧ ∃ lf' wm' wa', f_X6_treeOf (nI N) (nI K) st en lf wm wa (nI f) x = some (nI tm, lf', wm', wa') := by
  obtain ⟨tm, h1, h2⟩ := tqx_lt (x := x) (fun t ht => (hW f t hfN ht).2.2.2.2) N (Nat.le_refl N)
  refine ⟨tm, h1, ?_, ?_⟩
  · rw [tree_x hwf.1 hfN, h2]
  · rw [← h2]; exact tree_m hwf hse hW hfN x lf wa wm
theorem all_nodes {N : Nat} (hN : N ≤ 6) : (1 : Int32) <<< (nI N &&& 31) - 1 = nI (2 ^ N - 1) := by
  rw [shl1 (by omega)]
  exact pk_sub (b := 1) (Nat.two_pow_pos N)
theorem mask_bv {N : Nat} (hN : N ≤ 6) : (nI (2 ^ N - 1)).toBitVec.toNat = 2 ^ N - 1 := by
  rcases (show N = 0 ∨ N = 1 ∨ N = 2 ∨ N = 3 ∨ N = 4 ∨ N = 5 ∨ N = 6 by omega) with rfl | rfl | rfl | rfl | rfl | rfl | rfl <;> decide
theorem set_cases {N : Nat} (hN : N ≤ 6) (x : Int32) : (f_X2_hasNodes (nI N) x = 0 ∧ f_X6_isSet (nI N) x = 0) ∨ (f_X2_hasNodes (nI N) x = 1 ∧ f_X6_isSet (nI N) x = 1) := by
  unfold f_X2_hasNodes f_X6_isSet f_X2_allNodes
  rw [all_nodes hN]
  have h64 : 2 ^ N ≤ 2 ^ 6 := Nat.pow_le_pow_right (by omega) hN
  have hp := Nat.two_pow_pos N
  have e : nI (2 ^ N - 1) = nI (2 ^ N) - 1 := (pk_sub (b := 1) hp).symm
  rcases ix_cases x (n := 2 ^ N) (by omega) with h | ⟨j, hj, rfl⟩
  · left
    refine ⟨if_neg (fun q => ?_), by rw [e]; exact wi_out (by omega) h⟩
    have hx : x = x &&& nI (2 ^ N - 1) := b_ext (fun i hi => by
      have hb : bt (x &&& (nI (2 ^ N - 1) ^^^ -1)) i = false := by rw [q, b_0]
      rw [b_and, b_xor, b_m1 i hi] at hb
      rw [b_and]
      cases h1 : bt x i
      · rfl
      · cases h2 : bt (nI (2 ^ N - 1)) i
        · rw [h1, h2] at hb; cases hb
        · rfl)
    rw [pk_and x N (mask_bv hN)] at hx
    have hl := Nat.mod_lt x.toBitVec.toNat hp
    rw [hx] at h
    rcases h with h | h
    · exact nI_pos (by omega) h
    · exact nI_ge hl (by omega) h
  · right
    refine ⟨if_pos ?_, by rw [e]; exact wi_in hj (by omega)⟩
    have hx : nI j &&& nI (2 ^ N - 1) = nI j := by
      rw [pk_andN (by omega) N (mask_bv hN), Nat.mod_eq_of_lt hj]
    refine b_ext (fun i hi => ?_)
    rw [b_and, b_xor, b_m1 i hi, b_0]
    have hb := congrArg (fun y => bt y i) hx
    have hb : bt (nI j &&& nI (2 ^ N - 1)) i = bt (nI j) i := hb
    rw [b_and] at hb
    cases h1 : bt (nI j) i
    · rfl
    · cases h2 : bt (nI (2 ^ N - 1)) i
      · rw [h1, h2] at hb; cases hb
      · rfl
