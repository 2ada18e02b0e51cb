/-! what is folded -/
theorem lgc0 (x : Int64) : lg_cmp x 0 = 0 ↔ x = 0 := by
  unfold lg_cmp
  by_cases h : x = 0
  · subst h; simp
  · by_cases h1 : x > 0
    · rw [if_pos h1]; exact ⟨fun q => absurd q (by decide), fun q => absurd q h⟩
    · rw [if_neg h1, if_neg h]; exact ⟨fun q => absurd q (by decide), fun q => absurd q h⟩
theorem dmg (t r b : Int32) : (t &&& (r ^^^ -1)) &&& (b ^^^ -1) = t &&& ((r ||| b) ^^^ -1) := b_ext (fun i hi => by
  simp only [b_and, b_xor, b_or, b_m1 i hi]
  cases bt t i <;> cases bt r i <;> cases bt b i <;> rfl)
theorem t_all (t : Int32) : t &&& (0 ^^^ -1) = t := b_ext (fun i hi => by
  simp only [b_and, b_xor, b_0, b_m1 i hi]
  cases bt t i <;> rfl)
theorem orz (x : Int64) : x ||| 0 = x := by
  obtain ⟨n, _, rfl⟩ := wb_of x
  rw [show (0 : Int64) = lN 0 from rfl, fb_orL, Nat.or_zero]
def fBd (mb : Nat → Int64) (bn : Nat → Int32) (T : Int32) (v : Nat) : Nat → Int64 × Int32
  | 0 => (0, 0)
  | p + 1 => if bn p = 0 then fBd mb bn T v p else if bn p &&& (T ^^^ -1) = 0 then ((fBd mb bn T v p).1 ||| mb (20 * v + (16 + p)), (fBd mb bn T v p).2 ||| bn p) else fBd mb bn T v p
def fLn (mb : Nat → Int64) (left : Int32) (v : Nat) (b0 : Int64) : Nat → Int64
  | 0 => b0
  | k + 1 => if (left >>> (nI k &&& 31)) &&& 1 = 0 then fLn mb left v b0 k else fLn mb left v b0 k ||| mb (20 * v + k)
theorem fBd_s (mb : Nat → Int64) (bn : Nat → Int32) (T : Int32) (v p : Nat) : fBd mb bn T v (p + 1) = if bn p = 0 then fBd mb bn T v p else if bn p &&& (T ^^^ -1) = 0 then ((fBd mb bn T v p).1 ||| mb (20 * v + (16 + p)), (fBd mb bn T v p).2 ||| bn p) else fBd mb bn T v p := rfl
theorem fLn_s (mb : Nat → Int64) (left : Int32) (v : Nat) (b0 : Int64) (k : Nat) : fLn mb left v b0 (k + 1) = if (left >>> (nI k &&& 31)) &&& 1 = 0 then fLn mb left v b0 k else fLn mb left v b0 k ||| mb (20 * v + k) := rfl
theorem fBd_lt {mb : Nat → Int64} {bn : Nat → Int32} {T : Int32} {v : Nat} (hm : ∀ p, p < 4 → ∃ m, m < 2 ^ 40 ∧ mb (20 * v + (16 + p)) = lN m) : ∀ p, p ≤ 4 → ∃ m, m < 2 ^ 40 ∧ (fBd mb bn T v p).1 = lN m
  | 0, _ => ⟨0, Nat.two_pow_pos 40, rfl⟩
  | p + 1, hp => by
    obtain ⟨m, h1, h2⟩ := fBd_lt hm p (by omega)
    obtain ⟨m2, h3, h4⟩ := hm p (by omega)
    rw [fBd_s]
    by_cases a : bn p = 0
    · rw [if_pos a]; exact ⟨m, h1, h2⟩
    · rw [if_neg a]
      by_cases b : bn p &&& (T ^^^ -1) = 0
      · rw [if_pos b]
        refine ⟨m ||| m2, Nat.or_lt_two_pow h1 h3, ?_⟩
        show (fBd mb bn T v p).1 ||| mb (20 * v + (16 + p)) = _
        rw [h2, h4, fb_orL]
      · rw [if_neg b]; exact ⟨m, h1, h2⟩
theorem fLn_lt {mb : Nat → Int64} {left : Int32} {v K : Nat} {b0 : Int64} (hb : ∃ m, m < 2 ^ 40 ∧ b0 = lN m) (hm : ∀ k, k < K → ∃ m, m < 2 ^ 40 ∧ mb (20 * v + k) = lN m) : ∀ k, k ≤ K → ∃ m, m < 2 ^ 40 ∧ fLn mb left v b0 k = lN m
  | 0, _ => hb
  | k + 1, hk => by
    obtain ⟨m, h1, h2⟩ := fLn_lt (left := left) hb hm k (by omega)
    obtain ⟨m2, h3, h4⟩ := hm k (by omega)
    rw [fLn_s]
    by_cases a : (left >>> (nI k &&& 31)) &&& 1 = 0
    · rw [if_pos a]; exact ⟨m, h1, h2⟩
    · rw [if_neg a]
      exact ⟨m ||| m2, Nat.or_lt_two_pow h1 h3, by rw [h2, h4, fb_orL]⟩
theorem fold13 {xb mb : Nat → Int64} {bn : Nat → Int32} {T : Int32} {v : Nat} (hv : v < 3) (hx : ∀ p, p < 4 → xb (20 * v + (16 + p)) = mb (20 * v + (16 + p))) : f_X5_foldedBits_L13 xb bn T (nI v) 100 0 0 0 = some (fBd mb bn T v 4) := by
  have h := lup (f := fun n s y => f_X5_foldedBits_L13 xb bn T (nI v) n s.1 s.2 y) (acc := fBd mb bn T v) (K := 4) (out := fBd mb bn T v 4)
    (fun n => by
      show f_X5_foldedBits_L13 _ _ _ _ _ _ _ _ = _
      rw [f_X5_foldedBits_L13_s, if_pos (by decide)])
    (fun n p hp => by
      show f_X5_foldedBits_L13 _ _ _ _ _ _ _ _ = f_X5_foldedBits_L13 _ _ _ _ _ _ _ _
      rw [f_X5_foldedBits_L13_s, if_neg (show ¬ (4 : Int32) ≤ nI p from nI_ge (b := 4) hp (by decide)), links_at hp, fBd_s]
      simp only [Option.bind_some, nI_1]
      by_cases a : bn p = 0
      · simp only [if_pos a, Option.bind_some]
      · simp only [if_neg a]
        by_cases b : bn p &&& (T ^^^ -1) = 0
        · simp only [if_pos b, of_bund hv hp, Option.bind_some, hx p hp]
        · simp only [if_neg b, Option.bind_some]) 100 0 (by omega) (by omega)
  exact h
theorem fold9 {mb : Nat → Int64} {bn : Nat → Int32} {T z : Int32} {v : Nat} (hv : v < 3) (hz : ¬ z = 0) : f_X6_foldOf_L9 bn mb T (nI v) z 100 0 T 0 = some ((fBd mb bn T v 4).1, T &&& ((fBd mb bn T v 4).2 ^^^ -1)) := by
  have h := lup (f := fun n s y => f_X6_foldOf_L9 bn mb T (nI v) z n s.1 s.2 y) (acc := fun p => ((fBd mb bn T v p).1, T &&& ((fBd mb bn T v p).2 ^^^ -1))) (K := 4) (out := ((fBd mb bn T v 4).1, T &&& ((fBd mb bn T v 4).2 ^^^ -1)))
    (fun n => by
      show f_X6_foldOf_L9 _ _ _ _ _ _ _ _ _ = _
      rw [f_X6_foldOf_L9_s, if_pos (by decide)])
    (fun n p hp => by
      show f_X6_foldOf_L9 _ _ _ _ _ _ _ _ _ = f_X6_foldOf_L9 _ _ _ _ _ _ _ _ _
      rw [f_X6_foldOf_L9_s, if_neg (show ¬ (4 : Int32) ≤ nI p from nI_ge (b := 4) hp (by decide)), if_neg hz, if_neg (ix_ok hp (by decide)), cl_nI (by omega), fBd_s, bb_at, if_neg (ix_ok (n := 60) (by omega) (by omega)), cl_nI (by omega), nI_1]
      by_cases a : bn p = 0
      · simp only [if_pos a, Option.bind_some]
      · simp only [if_neg a]
        by_cases b : bn p &&& (T ^^^ -1) = 0
        · simp only [if_pos b, Option.bind_some, dmg]
        · simp only [if_neg b, Option.bind_some]) 100 0 (by omega) (by omega)
  have h : f_X6_foldOf_L9 bn mb T (nI v) z 100 0 (T &&& (0 ^^^ -1)) 0 = _ := h
  rw [t_all] at h
  exact h
theorem fold83 {xb mb : Nat → Int64} {left : Int32} {v K : Nat} {b0 : Int64} (hv : v < 3) (hK : K ≤ 16) (hx : ∀ k, k < K → xb (20 * v + k) = mb (20 * v + k)) : f_X5_foldedBits_L83 (nI K) xb (nI v) left 100 b0 0 = some (fLn mb left v b0 K) := by
  have h := lup (f := fun n s y => f_X5_foldedBits_L83 (nI K) xb (nI v) left n s y) (acc := fLn mb left v b0) (K := K) (out := fLn mb left v b0 K)
    (fun n => by
      show f_X5_foldedBits_L83 _ _ _ _ _ _ _ = _
      rw [f_X5_foldedBits_L83_s, if_pos (show f_X2_linkCount (nI K) ≤ nI K from nI_le (Nat.le_refl K) (by omega))])
    (fun n k hk => by
      show f_X5_foldedBits_L83 _ _ _ _ _ _ _ = f_X5_foldedBits_L83 _ _ _ _ _ _ _
      rw [f_X5_foldedBits_L83_s, if_neg (show ¬ f_X2_linkCount (nI K) ≤ nI k from nI_ge hk (by omega)), fLn_s, of_link hv (by omega), nI_1]
      by_cases a : (left >>> (nI k &&& 31)) &&& 1 = 0
      · simp only [if_pos a, Option.bind_some]
      · simp only [if_neg a, Option.bind_some, hx k hk]) 100 0 (by omega) (by omega)
  exact h
theorem fold86 {mb : Nat → Int64} {left : Int32} {v K : Nat} {b0 : Int64} (hv : v < 3) (hK : K ≤ 16) : f_X6_foldOf_L86 (nI K) mb (nI v) left 100 b0 0 = some (fLn mb left v b0 K) := by
  have h := lup (f := fun n s y => f_X6_foldOf_L86 (nI K) mb (nI v) left n s y) (acc := fLn mb left v b0) (K := K) (out := fLn mb left v b0 K)
    (fun n => by
      show f_X6_foldOf_L86 _ _ _ _ _ _ _ = _
      rw [f_X6_foldOf_L86_s, if_pos (nI_le (Nat.le_refl K) (by omega))])
    (fun n k hk => by
      show f_X6_foldOf_L86 _ _ _ _ _ _ _ = f_X6_foldOf_L86 _ _ _ _ _ _ _
      rw [f_X6_foldOf_L86_s, if_neg (nI_ge hk (by omega)), fLn_s, has_eq, bi_at, if_neg (ix_ok (n := 60) (by omega) (by omega)), cl_nI (by omega), nI_1]
      by_cases a : (left >>> (nI k &&& 31)) &&& 1 = 0
      · simp only [if_pos a, Option.bind_some, orz]
      · simp only [if_neg a, Option.bind_some]) 100 0 (by omega) (by omega)
  exact h
theorem fold_ok {K W Dn S : Nat} {width drawn seed : Int32} {xb mb : Nat → Int64} (hM : MkOK K W Dn S width drawn seed xb mb) (hK : K ≤ 16) (bn : Nat → Int32) (T : Int32) {v : Nat} (hv : v < 3) {z : Int32} (hz : z = 0 ∨ z = 1) : ∃ M, M < 2 ^ 40 ∧ f_X5_foldedBits (nI K) xb bn T (nI v) z = some (lN M) ∧ f_X6_foldOf (nI K) bn mb T (nI v) z = some (lN M) := by
  obtain ⟨-, -, -, -, -, -, -, -, hmk⟩ := hM
  have hx1 : ∀ p, p < 4 → xb (20 * v + (16 + p)) = mb (20 * v + (16 + p)) := fun p hp => (hmk v (16 + p) hv (Or.inr ⟨by omega, by omega⟩)).1
  have hx2 : ∀ k, k < K → xb (20 * v + k) = mb (20 * v + k) := fun k hk => (hmk v k hv (Or.inl hk)).1
  have hm1 : ∀ p, p < 4 → ∃ m, m < 2 ^ 40 ∧ mb (20 * v + (16 + p)) = lN m := fun p hp => (hmk v (16 + p) hv (Or.inr ⟨by omega, by omega⟩)).2
  have hm2 : ∀ k, k < K → ∃ m, m < 2 ^ 40 ∧ mb (20 * v + k) = lN m := fun k hk => (hmk v k hv (Or.inl hk)).2
  unfold f_X5_foldedBits f_X6_foldOf
  rcases hz with rfl | rfl
  · obtain ⟨M, h1, h2⟩ := fLn_lt (left := T) (b0 := 0) ⟨0, Nat.two_pow_pos 40, rfl⟩ hm2 K (Nat.le_refl K)
    refine ⟨M, h1, ?_, ?_⟩
    · rw [if_pos rfl]
      simp only [Option.bind_some]
      rw [t_all, fold83 hv hK hx2, h2]; rfl
    · have e : f_X6_foldOf_L9 bn mb T (nI v) 0 100 0 T 0 = some (0, T) := by
        rw [show (100 : Nat) = 99 + 1 from rfl, f_X6_foldOf_L9_s, if_neg (by decide), if_pos rfl]
      rw [e]
      simp only [Option.bind_some]
      rw [fold86 hv hK, h2]; rfl
  · obtain ⟨M, h1, h2⟩ := fLn_lt (left := T &&& ((fBd mb bn T v 4).2 ^^^ -1)) (b0 := (fBd mb bn T v 4).1) (fBd_lt hm1 4 (by omega)) hm2 K (Nat.le_refl K)
    refine ⟨M, h1, ?_, ?_⟩
    · rw [if_neg ne10, fold13 hv hx1]
      simp only [Option.bind_some]
      rw [fold83 hv hK hx2, h2]; rfl
    · rw [fold9 hv ne10]
      simp only [Option.bind_some]
      rw [fold86 hv hK, h2]; rfl
