/-! the pure side: what class and reference have in common, told in numbers -/
theorem lup {σ ρ : Type} {f : Nat → σ → Int32 → Option ρ} {acc : Nat → σ} {K : Nat} {out : ρ} (hx : ∀ n, f (n + 1) (acc K) (nI K) = some out) (hs : ∀ n k, k < K → f (n + 1) (acc k) (nI k) = f n (acc (k + 1)) (nI (k + 1))) : ∀ n k, k ≤ K → K - k < n → f n (acc k) (nI k) = some out := by
  intro n
  induction n with
  | zero => intro k _ h; omega
  | succ n ih =>
    intro k hk hn
    by_cases e : k = K
    · subst e; exact hx n
    · rw [hs n k (by omega)]; exact ih (k + 1) (by omega) (by omega)
/-- walks: from v to t over d links -/
def Rw (K : Nat) (fr to : Nat → Nat) (t : Nat) : Nat → Nat → Prop
  | 0, v => v = t
  | d + 1, v => ∃ k, k < K ∧ fr k = v ∧ Rw K fr to t d (to k)
def Dst (K : Nat) (fr to : Nat → Nat) (t d v : Nat) : Prop := Rw K fr to t d v ∧ ∀ i, i < d → ¬ Rw K fr to t i v
def WfG (N K : Nat) (fr to : Nat → Nat) : Prop := N ≤ 6 ∧ K ≤ 16 ∧ (∀ k, k < K → fr k < N ∧ to k < N) ∧ ∀ i j, i < K → j < K → fr i = fr j → to i = to j → i = j
/-- the class's tables of ways -/
def WaysOK (N K : Nat) (fr to : Nat → Nat) (wl wn wk : Nat → Int32) : Prop := ∀ v t, v < N → t < N →
  (∀ d, Dst K fr to t d v → wl (6 * v + t) = nI d) ∧ ((∀ d, ¬ Rw K fr to t d v) → wl (6 * v + t) = -1 ∧ wk (6 * v + t) = 0) ∧ (v = t → wk (6 * v + t) = 0) ∧
  (∀ d, Dst K fr to t (d + 1) v → ∃ k, k < K ∧ fr k = v ∧ Dst K fr to t d (to k) ∧ (∀ j, j < K → fr j = v → Dst K fr to t d (to j) → to k ≤ to j) ∧ wn (6 * v + t) = nI (to k) ∧ wk (6 * v + t) = wk (6 * to k + t) ||| nI (2 ^ k)) ∧
  ∃ m, m < 2 ^ K ∧ wk (6 * v + t) = nI m
def GrOK (N K : Nat) (fr to : Nat → Nat) (nodes links : Int32) (st en wl wn wk : Nat → Int32) : Prop := nodes = nI N ∧ links = nI K ∧ WfG N K fr to ∧ (∀ k, k < K → st k = nI (fr k) ∧ en k = nI (to k)) ∧ WaysOK N K fr to wl wn wk
def MkOK (K W Dn S : Nat) (width drawn seed : Int32) (xb mb : Nat → Int64) : Prop := 8 ≤ W ∧ W ≤ 40 ∧ 1 ≤ Dn ∧ Dn ≤ 4 ∧ S < 2 ^ 31 ∧ width = nI W ∧ drawn = nI Dn ∧ seed = nI S ∧ ∀ v k, v < 3 → (k < K ∨ 16 ≤ k ∧ k < 20) → xb (20 * v + k) = mb (20 * v + k) ∧ ∃ m, m < 2 ^ 40 ∧ mb (20 * v + k) = lN m
def BnOK (K : Nat) (bn : Nat → Int32) : Prop := ∀ p, p < 4 → ∃ m, m < 2 ^ K ∧ bn p = nI m
def Inv (xx_netsRead xx_timesSent xx_passagesSent xx_astraySent xx_loopsSent : Int32) (pg_codes : Nat → Int32) (pg_length gr_nodes gr_links : Int32) (gr_start gr_end gr_wayLength gr_wayNext gr_wayLinks : Nat → Int32) (mk_width mk_drawn mk_seed : Int32) (mk_bits : Nat → Int64) (bn_links : Nat → Int32) (mo_pageLength : Int32) (mo_page : Nat → Int32) (mo_nodes mo_links : Int32) (mo_fromOf mo_toOf : Nat → Int32) (mo_width mo_drawn mo_seed : Int32) (mo_bundleOf : Nat → Int32) (mo_netsRead mo_sent mo_passagesEver mo_astrayEver mo_loopsEver : Int32) (mo_marks : Nat → Int64) : Prop :=
  (xx_netsRead = mo_netsRead ∧ xx_timesSent = mo_sent ∧ xx_passagesSent = mo_passagesEver ∧ xx_astraySent = mo_astrayEver ∧ xx_loopsSent = mo_loopsEver) ∧
  (pg_codes = mo_page ∧ pg_length = mo_pageLength ∧ gr_nodes = mo_nodes ∧ gr_links = mo_links ∧ gr_start = mo_fromOf ∧ gr_end = mo_toOf ∧ mk_width = mo_width ∧ mk_drawn = mo_drawn ∧ mk_seed = mo_seed ∧ bn_links = mo_bundleOf) ∧
  ∃ (n N K : Nat) (fr to : Nat → Nat) (W Dn S : Nat), (n ≤ 25 ∧ mo_pageLength = nI n) ∧ GrOK N K fr to mo_nodes mo_links mo_fromOf mo_toOf gr_wayLength gr_wayNext gr_wayLinks ∧ MkOK K W Dn S mo_width mo_drawn mo_seed mk_bits mo_marks ∧ BnOK K mo_bundleOf
theorem nI_lit (n : Nat) : (OfNat.ofNat n : Int32) = nI n := rfl
theorem ix_ok {j n : Nat} (h : j < n) (hn : n < 2 ^ 31) : ¬ (nI j < 0 ∨ n ≤ (nI j).toNatClampNeg) := vp_in_nI h hn
theorem cl_nI {j : Nat} (h : j < 2 ^ 31) : (nI j).toNatClampNeg = j := nI_clamp h
/-- a number against a range: outside, or a place in it -/
theorem wi_0 {x lo hi : Int32} (h : x < lo ∨ hi < x) : f_X6_within x lo hi = 0 := by
  unfold f_X6_within
  by_cases h1 : x < lo
  · rw [if_pos h1]
  · rw [if_neg h1]
    rcases h with h | h
    · exact absurd h h1
    · rw [if_pos h]
theorem wi_1 {x lo hi : Int32} (h1 : ¬ x < lo) (h2 : ¬ hi < x) : f_X6_within x lo hi = 1 := by
  unfold f_X6_within
  rw [if_neg h1, if_neg h2]
theorem wi_in {j n : Nat} (h : j < n) (hn : n < 2 ^ 30) : f_X6_within (nI j) 0 (nI n - 1) = 1 := by
  refine wi_1 (nI_pos (by omega)) ?_
  have e : nI n - 1 = nI (n - 1) := by
    obtain ⟨k, rfl⟩ : ∃ k, n = k + 1 := ⟨n - 1, by omega⟩
    exact nI_pred k
  rw [e]
  exact nI_nlt (by omega) (by omega)
theorem wi_out {x : Int32} {n : Nat} (hn : n < 2 ^ 30) (h : x < 0 ∨ nI n ≤ x) : f_X6_within x 0 (nI n - 1) = 0 := by
  refine wi_0 ?_
  rcases h with h | h
  · exact Or.inl h
  · right
    rw [fa_lt, show (nI n - 1).toInt = (n : Int) - 1 from pk_sub_toInt (a := n) (b := 1) hn (by omega)]
    rw [fa_le, nI_toInt (by omega)] at h
    omega
theorem hl_in {j n : Nat} (h : j < n) (hn : n < 2 ^ 31) : f_X2_hasLink (nI n) (nI j) = 1 := by
  unfold f_X2_hasLink
  rw [if_neg (nI_pos (by omega)), if_neg (nI_ge h hn)]
theorem hl_out {x : Int32} {n : Nat} (h : x < 0 ∨ nI n ≤ x) : f_X2_hasLink (nI n) x = 0 := by
  unfold f_X2_hasLink
  by_cases h1 : x < 0
  · rw [if_pos h1]
  · rw [if_neg h1]
    rcases h with h | h
    · exact absurd h h1
    · rw [if_pos h]
theorem hn_in {j n : Nat} (h : j < n) (hn : n < 2 ^ 31) : f_X2_hasNode (nI n) (nI j) = 1 := hl_in h hn
theorem hn_out {x : Int32} {n : Nat} (h : x < 0 ∨ nI n ≤ x) : f_X2_hasNode (nI n) x = 0 := hl_out h
theorem pl_in {j : Nat} (h : j < 4) : f_X5_isPlace (nI j) = 1 := hl_in (n := 4) h (by omega)
theorem pl_out {x : Int32} (h : x < 0 ∨ nI 4 ≤ x) : f_X5_isPlace x = 0 := hl_out (n := 4) h
theorem va_in {j : Nat} (h : j < 3) : f_X5_isVariant (nI j) = 1 := hl_in (n := 3) h (by omega)
theorem va_out {x : Int32} (h : x < 0 ∨ nI 3 ≤ x) : f_X5_isVariant x = 0 := hl_out (n := 3) h
theorem mpl_in {j : Nat} (h : j < 4) : f_X6_isPlace (nI j) = 1 := wi_in (n := 4) h (by omega)
theorem mpl_out {x : Int32} (h : x < 0 ∨ nI 4 ≤ x) : f_X6_isPlace x = 0 := wi_out (n := 4) (by omega) h
theorem mva_in {j : Nat} (h : j < 3) : f_X6_isVariant (nI j) = 1 := wi_in (n := 3) h (by omega)
theorem mva_out {x : Int32} (h : x < 0 ∨ nI 3 ≤ x) : f_X6_isVariant x = 0 := wi_out (n := 3) (by omega) h
theorem ml_in {j n : Nat} (h : j < n) (hn : n < 2 ^ 30) : f_X6_isLink (nI n) (nI j) = 1 := wi_in h hn
theorem ml_out {x : Int32} {n : Nat} (hn : n < 2 ^ 30) (h : x < 0 ∨ nI n ≤ x) : f_X6_isLink (nI n) x = 0 := wi_out hn h
theorem mn_in {j n : Nat} (h : j < n) (hn : n < 2 ^ 30) : f_X6_isNode (nI n) (nI j) = 1 := wi_in h hn
theorem mn_out {x : Int32} {n : Nat} (hn : n < 2 ^ 30) (h : x < 0 ∨ nI n ≤ x) : f_X6_isNode (nI n) x = 0 := wi_out hn h
theorem ix_cases (x : Int32) {n : Nat} (hn : n < 2 ^ 31) : (x < 0 ∨ nI n ≤ x) ∨ ∃ j : Nat, j < n ∧ x = nI j := by
  rcases pk_ix x hn with h | h | h
  · exact Or.inl (Or.inl h)
  · exact Or.inl (Or.inr h)
  · exact Or.inr h
theorem ne10 : ¬ (1 : Int32) = 0 := by decide
theorem bi_at (v k : Nat) : (20 : Int32) * nI v + nI k = nI (20 * v + k) := by
  rw [show (20 : Int32) = nI 20 from rfl, pk_mul, nI_add]
theorem bb_at (v k : Nat) : (20 : Int32) * nI v + 16 + nI k = nI (20 * v + (16 + k)) := by
  rw [show (20 : Int32) = nI 20 from rfl, show (16 : Int32) = nI 16 from rfl, pk_mul, nI_add, nI_add, Nat.add_assoc]
/-- the class's marks and the reference's, by numbers -/
theorem of_link {xb : Nat → Int64} {v k : Nat} (hv : v < 3) (hk : k < 16) : f_X3_ofLink xb (nI k) (nI v) = some (xb (20 * v + k)) := by
  unfold f_X3_ofLink
  rw [va_in hv, if_neg ne10, if_neg (nI_pos (by omega)), if_neg (show ¬ (16 : Int32) ≤ nI k from nI_ge (b := 16) hk (by decide)), bi_at, if_neg (ix_ok (by omega) (by omega)), cl_nI (by omega)]
theorem of_bund {xb : Nat → Int64} {v k : Nat} (hv : v < 3) (hk : k < 4) : f_X3_ofBundle xb (nI k) (nI v) = some (xb (20 * v + (16 + k))) := by
  unfold f_X3_ofBundle
  rw [va_in hv, if_neg ne10, pl_in hk, if_neg ne10, bb_at, if_neg (ix_ok (by omega) (by omega)), cl_nI (by omega)]
theorem links_at {bn : Nat → Int32} {p : Nat} (hp : p < 4) : f_X0_linksAt bn (nI p) = some (bn p) := by
  unfold f_X0_linksAt
  rw [pl_in hp, if_neg ne10, if_neg (ix_ok hp (by omega)), cl_nI (by omega)]
theorem is_there {bn : Nat → Int32} {p : Nat} (hp : p < 4) : f_X0_isThere bn (nI p) = some (if bn p = 0 then 0 else 1) := by
  unfold f_X0_isThere
  rw [links_at hp]
  by_cases h : bn p = 0
  · simp [h]
  · simp [h]
theorem put_at {bn : Nat → Int32} {p : Nat} (hp : p < 4) (x : Int32) : f_X0_put bn (nI p) x = some (upd bn p x) := by
  unfold f_X0_put
  rw [pl_in hp, if_neg ne10, if_neg (ix_ok hp (by omega)), cl_nI (by omega)]
